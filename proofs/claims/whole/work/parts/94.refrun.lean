/-! L3, the reference: a law runs -/
def BDs (p : List Int) : Prop := ∀ v ∈ p, BD v
theorem BDs.c {v : Int} {p : List Int} (h : BD v) (b : BDs p) : BDs (v :: p) := fun u hu => by
  rcases List.mem_cons.mp hu with rfl | y
  · exact h
  · exact b u y
theorem BDs.t {v : Int} {p : List Int} (b : BDs (v :: p)) : BD v ∧ BDs p := ⟨b v List.mem_cons_self, fun u hu => b u (List.mem_cons_of_mem _ hu)⟩
theorem bet_b (r : Nat) (a b : Int) : BD (bet r a b) := by
  unfold bet
  repeat' split
  all_goals first | exact trI_b _ | exact cpI_b _
theorem sv_b {W : Nat → Int} {r : Nat} {p q : List Int} (wb : WB W) (bp : BDs p) (hp : p.length ≤ 100) (e : sv W r p = some q) : BDs q ∧ q.length ≤ 100 := by
  unfold sv at e
  by_cases z : r < 3000
  · rw [if_pos z] at e
    by_cases y : p.length < 100
    · rw [if_pos y] at e
      injection e with e
      rw [← e]
      refine ⟨bp.c ?_, y⟩
      by_cases u : r < 1000
      · rw [if_pos u]; exact ⟨by omega, by omega⟩
      · rw [if_neg u]; exact wb _
    · rw [if_neg y] at e; injection e
  · rw [if_neg z] at e
    by_cases y : r = 3006
    · rw [if_pos y] at e
      match p with
      | [] => injection e
      | a :: t =>
        have e : (if bitI a = true then some ((1 - a) :: t) else none) = some q := e
        by_cases u : bitI a = true
        · rw [if_pos u] at e
          injection e with e
          rw [← e]
          refine ⟨bp.t.2.c ?_, hp⟩
          rcases bitI_c u with rfl | rfl <;> exact ⟨by decide, by decide⟩
        · rw [if_neg u] at e; injection e
    · rw [if_neg y] at e
      by_cases y9 : r = 3009
      · rw [if_pos y9] at e
        match p with
        | [] => injection e
        | [_] => injection e
        | [_, _] => injection e
        | b :: a :: t :: s =>
          have e : (if bitI t = true then some ((if t = 1 then a else b) :: s) else none) = some q := e
          by_cases u : bitI t = true
          · rw [if_pos u] at e
            injection e with e
            have hp : s.length + 3 ≤ 100 := hp
            rw [← e]
            refine ⟨bp.t.2.t.2.t.2.c ?_, show s.length + 1 ≤ 100 by omega⟩
            by_cases w : t = 1
            · rw [if_pos w]; exact bp.t.2.t.1
            · rw [if_neg w]; exact bp.t.1
          · rw [if_neg u] at e; injection e
      · rw [if_neg y9] at e
        match p with
        | [] => injection e
        | [_] => injection e
        | b :: a :: s =>
          have e : (if (r = 3007 ∨ r = 3008) ∧ ¬ (bitI a = true ∧ bitI b = true) then none else some (bet r a b :: s)) = some q := e
          by_cases u : (r = 3007 ∨ r = 3008) ∧ ¬ (bitI a = true ∧ bitI b = true)
          · rw [if_pos u] at e; injection e
          · rw [if_neg u] at e
            injection e with e
            have hp : s.length + 2 ≤ 100 := hp
            rw [← e]
            exact ⟨bp.t.2.t.2.c (bet_b r a b), show s.length + 1 ≤ 100 by omega⟩
/-- codes that there are -/
def Val (l : List Nat) : Prop := ∀ r ∈ l, r < 1006 ∨ (3000 ≤ r ∧ r < 3010)
theorem Val.a {a b : List Nat} (h1 : Val a) (h2 : Val b) : Val (a ++ b) := fun r hr => by
  rcases List.mem_append.mp hr with y | y
  · exact h1 r y
  · exact h2 r y
theorem Val.o {r : Nat} (h : r < 1006 ∨ (3000 ≤ r ∧ r < 3010)) : Val [r] := fun u hu => by
  rw [List.mem_singleton.mp hu]; exact h
theorem Val_cls (may : Nat) : Cls may (fun _ _ l => Val l) :=
  ⟨⟨fun d r hd hr => Val.o (by rcases hr with y | y <;> omega), fun d l hd h => h, fun d t a b hd ht ha hb => ((ht.a ha).a hb).a (Val.o (by omega))⟩, ⟨fun d l hd h => h, fun d l l' hd h h' => (h.a h').a (Val.o (by omega)), fun d l hd h => h, fun d l l' hd h h' => ⟨(h.a h').a (Val.o (by omega)), (h.a h').a (Val.o (by omega))⟩⟩, ⟨fun d o a b hd ho ha hb => (ha.a hb).a (Val.o (by omega)), fun d l hd h => h.a (Val.o (by omega)), fun d l hd h => h⟩, fun d l hd h => h, fun d l l' hd h h' => (h.a h').a (Val.o (by omega)), fun d l hd h => h, fun d l l' hd h h' => (h.a h').a (Val.o (by omega))⟩
theorem Cls.both {may : Nat} {P P' : Nat → Nat → List Nat → Prop} (a : Cls may P) (b : Cls may P') : Cls may (fun w d l => P w d l ∧ P' w d l) := by
  obtain ⟨⟨a1, a2, a3⟩, ⟨a4, a5, a6, a7⟩, ⟨a8, a9, a10⟩, a11, a12, a13, a14⟩ := a
  obtain ⟨⟨b1', b2, b3⟩, ⟨b4, b5, b6, b7⟩, ⟨b8, b9, b10⟩, b11, b12, b13, b14⟩ := b
  exact ⟨⟨fun d r hd hr => ⟨a1 d r hd hr, b1' d r hd hr⟩, fun d l hd h => ⟨a2 d l hd h.1, b2 d l hd h.2⟩, fun d t x y hd ht hx hy => ⟨a3 d t x y hd ht.1 hx.1 hy.1, b3 d t x y hd ht.2 hx.2 hy.2⟩⟩, ⟨fun d l hd h => ⟨a4 d l hd h.1, b4 d l hd h.2⟩, fun d l l' hd h h' => ⟨a5 d l l' hd h.1 h'.1, b5 d l l' hd h.2 h'.2⟩, fun d l hd h => ⟨a6 d l hd h.1, b6 d l hd h.2⟩, fun d l l' hd h h' => ⟨⟨(a7 d l l' hd h.1 h'.1).1, (b7 d l l' hd h.2 h'.2).1⟩, ⟨(a7 d l l' hd h.1 h'.1).2, (b7 d l l' hd h.2 h'.2).2⟩⟩⟩, ⟨fun d o x y hd ho hx hy => ⟨a8 d o x y hd ho hx.1 hy.1, b8 d o x y hd ho hx.2 hy.2⟩, fun d l hd h => ⟨a9 d l hd h.1, b9 d l hd h.2⟩, fun d l hd h => ⟨a10 d l hd h.1, b10 d l hd h.2⟩⟩, fun d l hd h => ⟨a11 d l hd h.1, b11 d l hd h.2⟩, fun d l l' hd h h' => ⟨a12 d l l' hd h.1 h'.1, b12 d l l' hd h.2 h'.2⟩, fun d l hd h => ⟨a13 d l hd h.1, b13 d l hd h.2⟩, fun d l l' hd h h' => ⟨a14 d l l' hd h.1 h'.1, b14 d l l' hd h.2 h'.2⟩⟩
theorem rk_run (F : Nat) {m law fr len : Nat} {W : Nat → Int} {v : Int} (wb : WB W) (hl : law < 2) (hb : fr + len ≤ 900) : ∀ (l : List Nat) (i k : Nat) (p : List Int) (h : Hp), i + l.length = len → l.length < k → SR h m → hp_I h (m + 1) (7 + law) = nI len → hp_I h (m + 1) (5 + law) = nI fr → (∀ j, j < l.length → hp_I h (m + 1) (144 + fr + (i + j)) = nI (l.getD j 0)) → Val l → (∀ j, j < 6 → hp_I h (m + 6) j = zI (W j)) → PL h (m + 5) p → BDs p → p.length ≤ 100 → ev W l p = some [v] → ∃ h', f_X12_reckons_4 F k m (nI law) (nI p.length) (nI i) h = some (zI v, h') ∧ FQ (m + 5) h h' := by
  intro l
  induction l with
  | nil =>
    intro i k p h hi hk S c1 c2 c3 vl hw pl bp hp e
    obtain ⟨k, rfl⟩ : ∃ j, k = j + 1 := ⟨k - 1, by omega⟩
    have hi : i + 0 = len := hi
    have e : some p = some [v] := e
    injection e with e
    rw [e] at pl
    refine ⟨h, ?_, FQ.rf _ _⟩
    show f_X12_reckons_4_b F (f_X12_reckons_4 F k) m (nI law) (nI p.length) (nI i) h = _
    unfold f_X12_reckons_4_b
    rw [S.g 1 1 (by decide) rfl, S.a 1 (7 + law) (i := 7 + nI law) (nI_add 7 law) (by decide) (show 7 + law < 3132 by omega), c1, if_pos (nI_le (by omega) (by omega)), S.g 5 16 (by decide) rfl, S.a 5 0 (i := 0) rfl (by decide) (by decide), show hp_I h (m + 5) 0 = zI v from pl.1]
  | cons r l ih =>
    intro i k p h hi hk S c1 c2 c3 vl hw pl bp hp e
    obtain ⟨k, rfl⟩ : ∃ j, k = j + 1 := ⟨k - 1, by omega⟩
    have hi : i + (l.length + 1) = len := hi
    have hk : l.length + 1 < k + 1 := hk
    have e : (sv W r p).bind (ev W l) = some [v] := e
    cases z : sv W r p with
    | none => rw [z] at e; injection e
    | some q =>
      rw [z] at e
      have e : ev W l q = some [v] := e
      obtain ⟨bq, lq⟩ := sv_b wb bp hp z
      obtain ⟨h1, e1, f1, pl1⟩ := rk_s F k (W := W) (i := i) (len := len) (fr := fr) S hl c1 c2 (by omega) hb (c3 0 (Nat.succ_pos _)) (vl r List.mem_cons_self) hw pl bp hp z
      have i1 : hp_I h1 (m + 1) = hp_I h (m + 1) := f1.2.2 _ (by omega)
      have i6 : hp_I h1 (m + 6) = hp_I h (m + 6) := f1.2.2 _ (by omega)
      obtain ⟨h2, e2, f2⟩ := ih (i + 1) k q h1 (by omega) (by omega) (S.sh f1.1) (by rw [i1]; exact c1) (by rw [i1]; exact c2) (fun j hj => by
        rw [i1]
        have := c3 (j + 1) (Nat.succ_lt_succ hj)
        rw [show i + 1 + j = i + (j + 1) by omega]
        exact this) (fun u hu => vl u (List.mem_cons_of_mem _ hu)) (by rw [i6]; exact hw) pl1 bq lq e
      exact ⟨h2, by rw [e1]; exact e2, f1.tr f2⟩
theorem rk_law (F : Nat) (hF : 2000 ≤ F) {h : Hp} {m law fr : Nat} {l : List Nat} {W : Nat → Int} {v : Int} (wb : WB W) (hl : law < 2) (hb : fr + l.length ≤ 900) (S : SR h m) (c1 : hp_I h (m + 1) (7 + law) = nI l.length) (c2 : hp_I h (m + 1) (5 + law) = nI fr) (c3 : ∀ j, j < l.length → hp_I h (m + 1) (144 + fr + j) = nI (l.getD j 0)) (vl : Val l) (hw : ∀ j, j < 6 → hp_I h (m + 6) j = zI (W j)) (e : ev W l [] = some [v]) : ∃ h', f_X12_reckons F m (nI law) h = some (zI v, h') ∧ FQ (m + 5) h h' :=
  rk_run F wb hl hb l 0 F [] h (by omega) (by omega) S c1 c2 (fun j hj => by rw [Nat.zero_add]; exact c3 j hj) vl hw trivial (fun _ hu => absurd hu (List.not_mem_nil)) (by decide) e
