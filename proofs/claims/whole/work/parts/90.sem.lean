/-! L3: what codes mean -/
def cpI (v : Int) : Int := if v ≤ 1000000 then (if -1000000 ≤ v then v else -1000000) else 1000000
theorem cpI_b (v : Int) : -1000000 ≤ cpI v ∧ cpI v ≤ 1000000 := by
  unfold cpI
  by_cases z : v ≤ 1000000
  · rw [if_pos z]
    by_cases y : -1000000 ≤ v
    · rw [if_pos y]; exact ⟨y, z⟩
    · rw [if_neg y]; omega
  · rw [if_neg z]; omega
def trI (p : Prop) [Decidable p] : Int := if p then 1 else 0
theorem trI_v (p : Prop) [Decidable p] : trI p = 0 ∨ trI p = 1 := by
  unfold trI
  by_cases z : p
  · rw [if_pos z]; exact Or.inr rfl
  · rw [if_neg z]; exact Or.inl rfl
def bet (r : Nat) (a b : Int) : Int := if r = 3003 then trI (a = b) else if r = 3004 then trI (a < b) else if r = 3005 then trI (b < a) else if r = 3007 then trI (a = 1 ∧ b = 1) else if r = 3008 then trI (a = 1 ∨ b = 1) else if r = 3000 then cpI (a + b) else if r = 3001 then cpI (a - b) else cpI (a * b)
def bitI (v : Int) : Bool := decide (v = 0) || decide (v = 1)
/-- one code on a pile (the last pushed first) -/
def sv (W : Nat → Int) (r : Nat) (p : List Int) : Option (List Int) :=
  if r < 3000 then (if p.length < 100 then some ((if r < 1000 then (r : Int) else W (r - 1000)) :: p) else none)
  else if r = 3006 then (match p with
    | a :: q => if bitI a = true then some ((1 - a) :: q) else none
    | _ => none)
  else if r = 3009 then (match p with
    | b :: a :: t :: q => if bitI t = true then some ((if t = 1 then a else b) :: q) else none
    | _ => none)
  else (match p with
    | b :: a :: q => if (r = 3007 ∨ r = 3008) ∧ ¬ (bitI a = true ∧ bitI b = true) then none else some (bet r a b :: q)
    | _ => none)
def ev (W : Nat → Int) : List Nat → List Int → Option (List Int)
  | [], p => some p
  | r :: l, p => (sv W r p).bind (ev W l)
theorem ev_app (W : Nat → Int) : ∀ a b p, ev W (a ++ b) p = (ev W a p).bind (ev W b) := by
  intro a
  induction a with
  | nil => intro b p; rfl
  | cons r a ih =>
    intro b p
    show (sv W r p).bind (ev W (a ++ b)) = ((sv W r p).bind (ev W a)).bind (ev W b)
    cases sv W r p with
    | none => rfl
    | some q => exact ih b q
def WB (W : Nat → Int) : Prop := ∀ j, -1000000 ≤ W j ∧ W j ≤ 1000000
/-- the codes push one number; in the 'may' law it doesn't hang on word 5 -/
def Sem (may k : Nat) (T : Prop) (l : List Nat) : Prop := ∀ W W' p, WB W → WB W' → (∀ j, (may = 1 ∧ j = 5) ∨ W' j = W j) → p.length + k ≤ 100 → ∃ v : Int, ev W l p = some (v :: p) ∧ ev W' l p = some (v :: p) ∧ (-1000000 ≤ v ∧ v ≤ 1000000) ∧ (T → v = 0 ∨ v = 1)
theorem Sem.mono {may k k' : Nat} {T T' : Prop} {l : List Nat} (h : Sem may k T l) (hk : k ≤ k') (hT : T' → T) : Sem may k' T' l := fun W W' p a b c e => by
  obtain ⟨v, v1, v2, v3, v4⟩ := h W W' p a b c (by omega)
  exact ⟨v, v1, v2, v3, fun t => v4 (hT t)⟩
theorem Sem.two {may k k1 k2 r : Nat} {T T1 T2 : Prop} {a b : List Nat} (h1 : Sem may k1 T1 a) (h2 : Sem may k2 T2 b) (hk : k1 ≤ k ∧ 1 + k2 ≤ k) (hr : ∀ (p : List Int) (u v : Int), (T1 → u = 0 ∨ u = 1) → (T2 → v = 0 ∨ v = 1) → ∃ w, (∀ W, sv W r (v :: u :: p) = some (w :: p)) ∧ (-1000000 ≤ w ∧ w ≤ 1000000) ∧ (T → w = 0 ∨ w = 1)) : Sem may k T (a ++ b ++ [r]) := fun W W' p wa wb c e => by
  obtain ⟨u, u1, u2, u3, u4⟩ := h1 W W' p wa wb c (by omega)
  obtain ⟨v, v1, v2, v3, v4⟩ := h2 W W' (u :: p) wa wb c (by show p.length + 1 + k2 ≤ 100; omega)
  obtain ⟨w, w1, w2, w3⟩ := hr p u v u4 v4
  have one : ∀ W0, ev W0 a p = some (u :: p) → ev W0 b (u :: p) = some (v :: u :: p) → ev W0 (a ++ b ++ [r]) p = some (w :: p) := fun W0 x1 x2 => by
    rw [ev_app, ev_app, x1]
    show (ev W0 b (u :: p)).bind _ = _
    rw [x2]
    show (sv W0 r (v :: u :: p)).bind _ = _
    rw [w1 W0]; rfl
  exact ⟨w, one W u1 v1, one W' u2 v2, w2, w3⟩
def hgt (w d : Nat) : Nat := (if w = 0 then 1 else if w = 4 then 2 else if w = 3 then 3 else if w = 6 then 4 else if w = 1 then 5 else 6) + 5 * (6 - d)
def PM (may w d : Nat) (l : List Nat) : Prop := Sem may (hgt w d) (w = 6 ∨ w = 1 ∨ w = 5) l
theorem sv_bet {r : Nat} (h1 : 3000 ≤ r) (h2 : r ≠ 3006) (h3 : r ≠ 3009) (W : Nat → Int) (p : List Int) (u v : Int) (h4 : ¬ ((r = 3007 ∨ r = 3008) ∧ ¬ (bitI u = true ∧ bitI v = true))) : sv W r (v :: u :: p) = some (bet r u v :: p) := by
  unfold sv
  rw [if_neg (by omega), if_neg h2, if_neg h3]
  show (if (r = 3007 ∨ r = 3008) ∧ ¬ (bitI u = true ∧ bitI v = true) then none else some (bet r u v :: p)) = _
  rw [if_neg h4]
theorem bitI_v {v : Int} (h : v = 0 ∨ v = 1) : bitI v = true := by
  rcases h with rfl | rfl <;> rfl
theorem trI_b (p : Prop) [Decidable p] : -1000000 ≤ trI p ∧ trI p ≤ 1000000 := by
  rcases trI_v p with e | e <;> (rw [e]; decide)
theorem PM_cls (may : Nat) : Cls may (PM may) := by
  have h0 : ∀ d, hgt 0 d = 1 + 5 * (6 - d) := fun d => rfl
  have h1 : ∀ d, hgt 1 d = 5 + 5 * (6 - d) := fun d => rfl
  have h3 : ∀ d, hgt 3 d = 3 + 5 * (6 - d) := fun d => rfl
  have h4 : ∀ d, hgt 4 d = 2 + 5 * (6 - d) := fun d => rfl
  have h5 : ∀ d, hgt 5 d = 6 + 5 * (6 - d) := fun d => rfl
  have h6 : ∀ d, hgt 6 d = 4 + 5 * (6 - d) := fun d => rfl
  have num : ∀ r, (r = 3000 ∨ r = 3001 ∨ r = 3002) → ∀ (T : Prop), ¬ T → ∀ (p : List Int) (u v : Int), ∃ w, (∀ W, sv W r (v :: u :: p) = some (w :: p)) ∧ (-1000000 ≤ w ∧ w ≤ 1000000) ∧ (T → w = 0 ∨ w = 1) := fun r hr T nT p u v => by
    refine ⟨bet r u v, fun W => sv_bet (by omega) (by omega) (by omega) W p u v (by omega), ?_, fun t => absurd t nT⟩
    rcases hr with rfl | rfl | rfl <;> exact cpI_b _
  have cmp : ∀ o, o < 3 → ∀ (T : Prop) (p : List Int) (u v : Int), ∃ w, (∀ W, sv W (3003 + o) (v :: u :: p) = some (w :: p)) ∧ (-1000000 ≤ w ∧ w ≤ 1000000) ∧ (T → w = 0 ∨ w = 1) := fun o ho T p u v => by
    refine ⟨bet (3003 + o) u v, fun W => sv_bet (by omega) (by omega) (by omega) W p u v (by omega), ?_, fun _ => ?_⟩
    · rcases (show o = 0 ∨ o = 1 ∨ o = 2 by omega) with rfl | rfl | rfl <;> exact trI_b _
    · rcases (show o = 0 ∨ o = 1 ∨ o = 2 by omega) with rfl | rfl | rfl <;> exact trI_v _
  have log : ∀ r, (r = 3007 ∨ r = 3008) → ∀ (T T1 T2 : Prop), T1 → T2 → ∀ (p : List Int) (u v : Int), (T1 → u = 0 ∨ u = 1) → (T2 → v = 0 ∨ v = 1) → ∃ w, (∀ W, sv W r (v :: u :: p) = some (w :: p)) ∧ (-1000000 ≤ w ∧ w ≤ 1000000) ∧ (T → w = 0 ∨ w = 1) := fun r hr T T1 T2 t1 t2 p u v a b => by
    refine ⟨bet r u v, fun W => sv_bet (by omega) (by omega) (by omega) W p u v (fun z => z.2 ⟨bitI_v (a t1), bitI_v (b t2)⟩), ?_, fun _ => ?_⟩
    · rcases hr with rfl | rfl <;> exact trI_b _
    · rcases hr with rfl | rfl <;> exact trI_v _
  refine ⟨⟨fun d r hd hr W W' p wa wb c e => ?_, fun d l hd h => ?_, fun d t a b hd ht ha hb W W' p wa wb c e => ?_⟩, ⟨fun d l hd h => ?_, fun d l l' hd h h' => ?_, fun d l hd h => ?_, fun d l l' hd h h' => ⟨?_, ?_⟩⟩, ⟨fun d o a b hd ho ha hb => ?_, fun d l hd h W W' p wa wb c e => ?_, fun d l hd h => ?_⟩, fun d l hd h => ?_, fun d l l' hd h h' => ?_, fun d l hd h => ?_, fun d l l' hd h h' => ?_⟩
  · rw [h0] at e
    have sp : ∀ W0 : Nat → Int, ev W0 [r] p = some ((if r < 1000 then (r : Int) else W0 (r - 1000)) :: p) := fun W0 => by
      show (sv W0 r p).bind _ = _
      unfold sv
      rw [if_pos (by omega), if_pos (by omega)]; rfl
    have ew : (if r < 1000 then (r : Int) else W' (r - 1000)) = (if r < 1000 then (r : Int) else W (r - 1000)) := by
      by_cases z : r < 1000
      · rw [if_pos z, if_pos z]
      · rw [if_neg z, if_neg z]
        rcases c (r - 1000) with ⟨y1, y2⟩ | y
        · rcases hr with u | ⟨u1, u2, u3⟩
          · exact absurd u z
          · exact absurd (by omega) (u3 y1)
        · exact y
    refine ⟨_, sp W, by rw [sp W', ew], ?_, fun t => by omega⟩
    by_cases z : r < 1000
    · rw [if_pos z]; omega
    · rw [if_neg z]; exact wa _
  · exact Sem.mono h (by rw [h0, h3]; omega) (by omega)
  · rw [h0] at e
    obtain ⟨u, u1, u2, u3, u4⟩ := ht W W' p wa wb c (by rw [h5]; omega)
    obtain ⟨v, v1, v2, v3, v4⟩ := ha W W' (u :: p) wa wb c (by rw [h3]; show p.length + 1 + _ ≤ 100; omega)
    obtain ⟨w, w1, w2, w3, w4⟩ := hb W W' (v :: u :: p) wa wb c (by rw [h3]; show p.length + 1 + 1 + _ ≤ 100; omega)
    have one : ∀ W0, ev W0 t p = some (u :: p) → ev W0 a (u :: p) = some (v :: u :: p) → ev W0 b (v :: u :: p) = some (w :: v :: u :: p) → ev W0 (t ++ a ++ b ++ [3009]) p = some ((if u = 1 then v else w) :: p) := fun W0 x1 x2 x3 => by
      rw [ev_app, ev_app, ev_app, x1]
      show ((ev W0 a (u :: p)).bind _).bind _ = _
      rw [x2]
      show (ev W0 b (v :: u :: p)).bind _ = _
      rw [x3]
      show (sv W0 3009 (w :: v :: u :: p)).bind _ = _
      have : sv W0 3009 (w :: v :: u :: p) = some ((if u = 1 then v else w) :: p) := by
        show (if bitI u = true then some ((if u = 1 then v else w) :: p) else none) = _
        rw [if_pos (bitI_v (u4 (by decide)))]
      rw [this]; rfl
    refine ⟨_, one W u1 v1 w1, one W' u2 v2 w2, ?_, fun t => by omega⟩
    by_cases z : u = 1
    · rw [if_pos z]; exact v3
    · rw [if_neg z]; exact w3
  · exact Sem.mono h (by rw [h0, h4]; omega) (by omega)
  · exact Sem.two h h' (by rw [h4, h0]; omega) (fun p u v _ _ => num 3002 (by omega) _ (by omega) p u v)
  · exact Sem.mono h (by rw [h3, h4]; omega) (by omega)
  · exact Sem.two h h' (by rw [h4, h3]; omega) (fun p u v _ _ => num 3000 (by omega) _ (by omega) p u v)
  · exact Sem.two h h' (by rw [h4, h3]; omega) (fun p u v _ _ => num 3001 (by omega) _ (by omega) p u v)
  · exact Sem.two ha hb (by rw [h6, h3]; omega) (fun p u v _ _ => cmp o ho _ p u v)
  · rw [h6] at e
    obtain ⟨u, u1, u2, u3, u4⟩ := h W W' p wa wb c (by rw [h6]; omega)
    have ub := u4 (by decide)
    have one : ∀ W0, ev W0 l p = some (u :: p) → ev W0 (l ++ [3006]) p = some ((1 - u) :: p) := fun W0 x1 => by
      rw [ev_app, x1]
      show (sv W0 3006 (u :: p)).bind _ = _
      have : sv W0 3006 (u :: p) = some ((1 - u) :: p) := by
        show (if bitI u = true then some ((1 - u) :: p) else none) = _
        rw [if_pos (bitI_v ub)]
      rw [this]; rfl
    exact ⟨1 - u, one W u1, one W' u2, by omega, fun _ => by omega⟩
  · exact Sem.mono h (by rw [h5, h6]; omega) (by omega)
  · exact Sem.mono h (by rw [h1, h6]; omega) (by omega)
  · exact Sem.two h h' (by rw [h1, h6]; omega) (fun p u v a b => log 3007 (by omega) _ _ _ (by decide) (by decide) p u v a b)
  · exact Sem.mono h (by rw [h1, h5]; omega) (by omega)
  · exact Sem.two h h' (by rw [h1, h5]; omega) (fun p u v a b => log 3008 (by omega) _ _ _ (by decide) (by decide) p u v a b)
