/-! L3: what is overheard; ways into trays -/
def Mt (t : Nat) : Nat := if t = 0 then 496 else 271
theorem Mt_p : ∀ t, t < 2 → Mt t < 512 ∧ ¬ Mt t = 511 := by decide
def A_over (H : HM) (s b : Nat) (x v : Int32) : Prop := match vi x 2 with
  | none => v = -2
  | some t => ∃ n, n < 16 ∧ v = nI n ∧ ∀ f, f < 4 → (n.testBit f = true ↔ (∃ u, RH H b (Mt t) s u ∧ 0 < dg u (4 * t + f)) ∧ dg s (4 * t + f) = 0)
theorem rc_over56 (F : Nat) {m : Nat} {h : Hp} {H : HM} {s0 b t s : Nat} (rs : RS h m H s0 b) (ht : t < 2) (hs : s < 65536) {P : Prop} (h8 : (hp_I h (m + 8) s = 1 ∧ P) ∨ (hp_I h (m + 8) s = 0 ∧ ¬ P)) (K : Nat → Int32 → Int32 → Int32 → Hp → Option (Int32 × Hp)) : ∀ q k n a, k + q = 4 → q < n → a < 16 → ∃ a', f_X12_overhears_56 F K n m (nI t) (nI a) (nI s) (nI k) h = K m (nI t) (nI a') (nI (s + 1)) h ∧ a' < 16 ∧ ∀ f, f < 4 → (a'.testBit f = true ↔ a.testBit f = true ∨ (k ≤ f ∧ P ∧ 0 < dg s (4 * t + f))) := by
  intro q
  induction q with
  | zero =>
    intro k n a hk hn ha
    obtain ⟨n, rfl⟩ : ∃ j, n = j + 1 := ⟨n - 1, by omega⟩
    show ∃ a', f_X12_overhears_56_b F K (f_X12_overhears_56 F K n) m (nI t) (nI a) (nI s) (nI k) h = _ ∧ _
    unfold f_X12_overhears_56_b
    rw [if_pos (show (4 : Int32) ≤ nI k from nI_le (a := 4) (by omega) (by omega)), nI_1]
    exact ⟨a, rfl, ha, fun f hf => ⟨Or.inl, fun z => z.elim id (fun y => by omega)⟩⟩
  | succ q ih =>
    intro k n a hk hn ha
    obtain ⟨n, rfl⟩ : ∃ j, n = j + 1 := ⟨n - 1, by omega⟩
    have hk4 : k < 4 := by omega
    have hd := dg_lt s (4 * t + k)
    show ∃ a', f_X12_overhears_56_b F K (f_X12_overhears_56 F K n) m (nI t) (nI a) (nI s) (nI k) h = _ ∧ _
    unfold f_X12_overhears_56_b f_X12_overhears_89 f_X12_overhears_90
    rw [if_neg (show ¬ (4 : Int32) ≤ nI k from i_ge (a := 4) (by omega) (by decide)), rs.1.g 8 21 (by decide) rfl, rs.1.aq s rfl hs, lt_e, nI_1 k, bd_n (rc_ageIn F hs ht hk4 h), lt_e, lt_e, shl1 k (by omega), nx_or, show nI a ||| 0 = nI a by show nI a ||| nI 0 = _; rw [nx_or, Nat.or_zero]]
    rcases h8 with ⟨a1, a2⟩ | ⟨a1, a2⟩
    · rw [if_neg (show ¬ hp_I h (m + 8) s = 0 by rw [a1]; decide)]
      by_cases z : 0 < dg s (4 * t + k)
      · rw [if_neg (nI_nle z (by omega))]
        obtain ⟨a', e, l1, l2⟩ := ih (k + 1) n (a ||| 2 ^ k) (by omega) (by omega) (Nat.or_lt_two_pow (n := 4) ha (Nat.pow_lt_pow_right (by decide) hk4))
        refine ⟨a', e, l1, fun f hf => ?_⟩
        rw [l2 f hf, Nat.testBit_or, Bool.or_eq_true, Nat.testBit_two_pow]
        constructor
        · rintro ((y | y) | ⟨y1, y2, y3⟩)
          · exact Or.inl y
          · have y : k = f := of_decide_eq_true y
            subst y; exact Or.inr ⟨Nat.le_refl _, a2, z⟩
          · exact Or.inr ⟨by omega, y2, y3⟩
        · rintro (y | ⟨y1, y2, y3⟩)
          · exact Or.inl (Or.inl y)
          · by_cases w : k = f
            · exact Or.inl (Or.inr (decide_eq_true w))
            · exact Or.inr ⟨by omega, y2, y3⟩
      · rw [if_pos (show nI _ ≤ 0 by rw [show dg s (4 * t + k) = 0 by omega]; decide)]
        obtain ⟨a', e, l1, l2⟩ := ih (k + 1) n a (by omega) (by omega) ha
        refine ⟨a', e, l1, fun f hf => ?_⟩
        rw [l2 f hf]
        constructor
        · rintro (y | ⟨y1, y2, y3⟩)
          · exact Or.inl y
          · exact Or.inr ⟨by omega, y2, y3⟩
        · rintro (y | ⟨y1, y2, y3⟩)
          · exact Or.inl y
          · by_cases w : k = f
            · subst w; exact absurd y3 z
            · exact Or.inr ⟨by omega, y2, y3⟩
    · rw [if_pos a1]
      obtain ⟨a', e, l1, l2⟩ := ih (k + 1) n a (by omega) (by omega) ha
      refine ⟨a', e, l1, fun f hf => ?_⟩
      rw [l2 f hf]
      constructor
      · rintro (y | ⟨y1, y2, y3⟩)
        · exact Or.inl y
        · exact Or.inr ⟨by omega, y2, y3⟩
      · rintro (y | ⟨y1, y2, y3⟩)
        · exact Or.inl y
        · exact absurd y2 a2
theorem rc_over47 (F : Nat) (hF : 2000 ≤ F) {m : Nat} {h : Hp} {H : HM} {s0 b t : Nat} (rs : RS h m H s0 b) (ht : t < 2) {P : Nat → Prop} (h8 : RCH h m P) : ∀ q k n a, k + q = 65536 → q < n → a < 16 → (∀ f, f < 4 → (a.testBit f = true ↔ ∃ u, u < k ∧ P u ∧ 0 < dg u (4 * t + f))) → ∃ a', f_X12_overhears_47 F n m (nI t) (nI a) (nI k) h = f_X12_overhears_106 F F m (nI t) (nI a') 0 h ∧ a' < 16 ∧ ∀ f, f < 4 → (a'.testBit f = true ↔ ∃ u, u < 65536 ∧ P u ∧ 0 < dg u (4 * t + f)) := by
  intro q
  induction q with
  | zero =>
    intro k n a hk hn ha hb
    obtain ⟨n, rfl⟩ : ∃ j, n = j + 1 := ⟨n - 1, by omega⟩
    show ∃ a', f_X12_overhears_47_b F (f_X12_overhears_47 F n) m (nI t) (nI a) (nI k) h = _ ∧ _
    unfold f_X12_overhears_47_b
    rw [if_pos (show (65536 : Int32) ≤ nI k from nI_le (a := 65536) (by omega) (by omega))]
    have : k = 65536 := by omega
    subst this
    exact ⟨a, rfl, ha, hb⟩
  | succ q ih =>
    intro k n a hk hn ha hb
    obtain ⟨n, rfl⟩ : ∃ j, n = j + 1 := ⟨n - 1, by omega⟩
    have hk6 : k < 65536 := by omega
    show ∃ a', f_X12_overhears_47_b F (f_X12_overhears_47 F n) m (nI t) (nI a) (nI k) h = _ ∧ _
    unfold f_X12_overhears_47_b
    obtain ⟨a1, e1, l1, l2⟩ := rc_over56 F rs ht hk6 (h8 k hk6) (f_X12_overhears_47 F n) 4 0 F a (by omega) (by omega) ha
    rw [if_neg (show ¬ (65536 : Int32) ≤ nI k from i_ge (a := 65536) (by omega) (by decide)), show f_X12_overhears_56 F (f_X12_overhears_47 F n) F m (nI t) (nI a) (nI k) 0 h = _ from e1]
    refine ih (k + 1) n a1 (by omega) (by omega) l1 (fun f hf => ?_)
    rw [l2 f hf, hb f hf]
    constructor
    · rintro (⟨u, u1, u2⟩ | ⟨_, u2⟩)
      · exact ⟨u, by omega, u2⟩
      · exact ⟨k, by omega, u2⟩
    · rintro ⟨u, u1, u2⟩
      by_cases z : u = k
      · rw [z] at u2; exact Or.inr ⟨by omega, u2⟩
      · exact Or.inl ⟨u, by omega, u2⟩
def clr (a f : Nat) : Nat := a &&& (15 - 2 ^ f)
theorem clr_e : ∀ a, a < 16 → ∀ f, f < 4 → nI a &&& (((1 : Int32) <<< (nI f &&& 31)) ^^^ (-1)) = nI (clr a f) ∧ clr a f < 16 ∧ ∀ g, g < 4 → (clr a f).testBit g = (a.testBit g && decide (g ≠ f)) := by decide +kernel
theorem rc_over106 (F : Nat) (hF : 2000 ≤ F) {m : Nat} {h : Hp} {H : HM} {s b t : Nat} (rs : RS h m H s b) (ht : t < 2) : ∀ q k n a, k + q = 4 → q < n → a < 16 → ∃ a', f_X12_overhears_106 F n m (nI t) (nI a) (nI k) h = some (nI a', h) ∧ a' < 16 ∧ ∀ f, f < 4 → (a'.testBit f = true ↔ a.testBit f = true ∧ (f < k ∨ dg s (4 * t + f) = 0)) := by
  have hs := rs.s16
  intro q
  induction q with
  | zero =>
    intro k n a hk hn ha
    obtain ⟨n, rfl⟩ : ∃ j, n = j + 1 := ⟨n - 1, by omega⟩
    show ∃ a', f_X12_overhears_106_b F (f_X12_overhears_106 F n) m (nI t) (nI a) (nI k) h = _ ∧ _
    unfold f_X12_overhears_106_b
    rw [if_pos (show (4 : Int32) ≤ nI k from nI_le (a := 4) (by omega) (by omega))]
    exact ⟨a, rfl, ha, fun f hf => ⟨fun z => ⟨z, Or.inl (by omega)⟩, fun z => z.1⟩⟩
  | succ q ih =>
    intro k n a hk hn ha
    obtain ⟨n, rfl⟩ : ∃ j, n = j + 1 := ⟨n - 1, by omega⟩
    have hk4 : k < 4 := by omega
    have hd := dg_lt s (4 * t + k)
    obtain ⟨c1, c2, c3⟩ := clr_e a ha k hk4
    show ∃ a', f_X12_overhears_106_b F (f_X12_overhears_106 F n) m (nI t) (nI a) (nI k) h = _ ∧ _
    unfold f_X12_overhears_106_b f_X12_overhears_131
    rw [if_neg (show ¬ (4 : Int32) ≤ nI k from i_ge (a := 4) (by omega) (by decide)), cV_n rs.1.1 (rs.stand F (by omega)), bd_n (rc_ageIn F hs ht hk4 h), lt_e, nI_1, c1]
    by_cases z : 0 < dg s (4 * t + k)
    · rw [if_neg (nI_nle z (by omega))]
      obtain ⟨a', e, l1, l2⟩ := ih (k + 1) n _ (by omega) (by omega) c2
      refine ⟨a', e, l1, fun f hf => ?_⟩
      rw [l2 f hf, c3 f hf, Bool.and_eq_true]
      constructor
      · rintro ⟨⟨y1, y2⟩, y3⟩
        have y2 : f ≠ k := of_decide_eq_true y2
        exact ⟨y1, y3.elim (fun w => Or.inl (by omega)) Or.inr⟩
      · rintro ⟨y1, y2⟩
        have : f ≠ k := fun w => by subst w; rcases y2 with y2 | y2 <;> omega
        exact ⟨⟨y1, decide_eq_true this⟩, y2.elim (fun w => Or.inl (by omega)) Or.inr⟩
    · rw [if_pos (show nI _ ≤ 0 by rw [show dg s (4 * t + k) = 0 by omega]; decide)]
      obtain ⟨a', e, l1, l2⟩ := ih (k + 1) n a (by omega) (by omega) ha
      refine ⟨a', e, l1, fun f hf => ?_⟩
      rw [l2 f hf]
      constructor
      · rintro ⟨y1, y2⟩
        refine ⟨y1, ?_⟩
        rcases y2 with y2 | y2
        · by_cases w : f = k
          · subst w; exact Or.inr (by omega)
          · exact Or.inl (by omega)
        · exact Or.inr y2
      · rintro ⟨y1, y2⟩
        exact ⟨y1, y2.elim (fun w => Or.inl (by omega)) Or.inr⟩
theorem rc_overhears (F : Nat) (hF : 70000 ≤ F) {m : Nat} {h : Hp} {H : HM} {s b : Nat} (r : RS h m H s b) (x : Int32) : ∃ v h', f_X12_overhears F m x h = some (v, h') ∧ CI m [0, 5, 6, 8, 9, 10] h h' ∧ A_over H s b x v := by
  have r1 := r.f 0 0
  have c0 : CI m [0, 5, 6, 8, 9, 10] h (hp_sI h m 0 0) := (CI.f0).mono (by decide)
  unfold f_X12_overhears A_over
  rw [pI_n r.1.1, bd_n (rc_isTwin F x _)]
  cases hx : vi x 2 with
  | none => rw [if_pos (bsm0 rfl)]; exact ⟨_, _, rfl, c0, rfl⟩
  | some t =>
    obtain ⟨t1, t2⟩ := vi_some hx
    obtain ⟨h2, e2, c2, -, w9, -⟩ := rc_laysReached F hF (M := 511) (by decide) r1 (fun z => absurd rfl z)
    have r2 := r1.ci c2 (by decide)
    obtain ⟨h3, e3, c3, w8, -, -⟩ := rc_laysReached F hF (M := Mt t) (Mt_p t t1).1 r2 (fun _ v k hv hk => w9 v k (hv.mono (fun k hk _ => all511 k hk)) hk)
    have r3 := r2.ci c3 (by decide)
    obtain ⟨a4, e4, l4, b4⟩ := rc_over47 F (by omega) r3 t1 w8 65536 0 F 0 (by omega) (by omega) (by omega) (fun f _ => ⟨fun z => by simp at z, fun ⟨u, u1, _⟩ => by omega⟩)
    obtain ⟨a5, e5, l5, b5⟩ := rc_over106 F (by omega) r3 t1 4 0 F a4 (by omega) (by omega) l4
    have fin : f_X12_overhears_39 F m (nI t) (if t = 0 then 240 else 15) 256 m h2 = some (nI a5, h3) := by
      unfold f_X12_overhears_39
      rw [show ((256 : Int32) ||| (if t = 0 then 240 else 15)) = nI (Mt t) by rcases (show t = 0 ∨ t = 1 by omega) with rfl | rfl <;> decide, cV_n r2.1.1 e3, show f_X12_overhears_47 F F m (nI t) 0 0 h3 = _ from e4]
      exact e5
    rw [if_neg (bsm1 rfl), t2, cV_n r1.1.1 (show f_X12_laysReached F m 511 _ = _ from e2)]
    have ans : ∀ f, f < 4 → (a5.testBit f = true ↔ (∃ u, RH H b (Mt t) s u ∧ 0 < dg u (4 * t + f)) ∧ dg s (4 * t + f) = 0) := fun f hf => by
      rw [b5 f hf, b4 f hf]
      constructor
      · rintro ⟨⟨u, -, u2⟩, y⟩
        exact ⟨⟨u, u2⟩, y.elim (fun w => absurd w (by omega)) id⟩
      · rintro ⟨⟨u, u2, u3⟩, y⟩
        exact ⟨⟨u, (u2.ok r.2.1 r.2.2.2.2.1).1.1, u2, u3⟩, Or.inr y⟩
    have cc := (c0.tr (c2.mono (by decide))).tr (c3.mono (by decide) : CI m [0, 5, 6, 8, 9, 10] _ _)
    by_cases z : t = 0
    · rw [if_pos z] at fin
      rw [if_pos (show nI t = 0 by rw [z]; rfl), fin]
      exact ⟨_, _, rfl, cc, a5, l5, rfl, ans⟩
    · rw [if_neg z] at fin
      rw [if_neg (nI_ne0 (by omega) (by omega)), fin]
      exact ⟨_, _, rfl, cc, a5, l5, rfl, ans⟩
/-- a move as a tray holds it -/
def lm (k : Nat) : Int64 := if k = 8 then -1 else lN (10 * (k / 4) + k % 4)
def trM (tr : TRY) (i n : Nat) (ms : List Nat) : TRY := fun j => if j = i then (tr j).map (fun q => (q.1, q.2.1, fun k => if k < n then (match ms[k]? with | none => 0 | some e => lm e) else q.2.2 k)) else tr j
theorem LW.lt9 {H : HM} {b : Nat} {g : GL} : ∀ {ms : List Nat} {s : Nat}, LW H b g ms s → ∀ e ∈ ms, e < 9 := by
  intro ms
  induction ms with
  | nil => intro s _ e he; exact absurd he (by simp)
  | cons k ks ih =>
    intro s h e he
    obtain ⟨-, h2, ⟨u, -, h3⟩, -⟩ := h
    rcases List.mem_cons.mp he with rfl | q
    · exact h2
    · exact ih h3 e q
theorem tm99 : ∀ e, e < 9 → (tm e = 99 ↔ e = 8) ∧ (¬ e = 8 → (tm e).toInt64 = lm e) ∧ (e = 8 → lm e = -1) := by decide +kernel
theorem rc_lists_r (F : Nat) (hF : 70000 ≤ F) {m : Nat} {H : HM} {s b : Nat} {g : GL} {i N : Nat} (hi : i < 4) {ms : List Nat} (hN : N ≤ 40) (hl : N ≤ ms.length) (hw : LW H b g ms s) : ∀ q k n (h : Hp), SRC h m H s b g → k + q = N → q < n → ∃ h', f_X12_lists_86 F n m (nI i) (nI N) (nI k) h = some (nI N, h') ∧ CJ m [] [17] h h' ∧ ∀ j, hp_L h' (m + 17) j = if 40 * i + k ≤ j ∧ j < 40 * i + N then (match ms[j - 40 * i]? with | none => 0 | some e => lm e) else hp_L h (m + 17) j := by
  intro q
  induction q with
  | zero =>
    intro k n h r hk hn
    obtain ⟨n, rfl⟩ : ∃ j, n = j + 1 := ⟨n - 1, by omega⟩
    show ∃ h', f_X12_lists_86_b F (f_X12_lists_86 F n) m (nI i) (nI N) (nI k) h = _ ∧ _
    unfold f_X12_lists_86_b
    rw [if_pos (nI_le (by omega) (by omega))]
    exact ⟨h, rfl, CJ.rf _ _ _ _, fun j => by rw [if_neg (by omega)]⟩
  | succ q ih =>
    intro k n h r hk hn
    obtain ⟨n, rfl⟩ : ∃ j, n = j + 1 := ⟨n - 1, by omega⟩
    have rs := r.1
    have hkl : k < ms.length := by omega
    obtain ⟨a, e1, w1⟩ := rc_moveAt F hF r hw.sd (I := k) (by omega)
    have ea : a = tm ms[k] := by
      rcases w1 with ⟨z1, -⟩ | ⟨-, ms', z1, -, z2⟩
      · have := hw.sd
        rcases this with ⟨y1, y2⟩ | ⟨y1, -⟩
        · exfalso
          have sd := hw.sd
          cases ms with
          | nil => exact absurd hkl (by simp)
          | cons k0 ks0 =>
            have : gto H b g s (k0 :: ks0) ∨ True := Or.inr trivial
            have hlen : (k0 :: ks0).length = 268435456 := z1
            -- a row of moves to a goal lies in LW itself
            have key : ∀ (ms : List Nat) (s : Nat), LW H b g ms s → gto H b g s ms := by
              intro ms
              induction ms with
              | nil =>
                intro s h
                rcases h with ⟨c1, -⟩ | ⟨-, ⟨m0, c2, c3, c4⟩, -⟩
                · exact absurd c1 (by decide)
                · cases m0 with
                  | nil => exact c3
                  | cons _ _ => exact absurd c4 (by simp [cst, ck])
              | cons k1 ks1 ih1 =>
                intro s h
                obtain ⟨-, -, ⟨u, u1, u2⟩, -⟩ := h
                exact gto_cons.mpr ⟨u, u1, ih1 u u2⟩
            have h9 : ∀ e ∈ (k0 :: ks0), e < 9 := hw.lt9
            exact y2 (k0 :: ks0) (fun e he => ⟨h9 e he, all511 e (h9 e he)⟩) (key _ _ hw)
        · omega
      · have := z1.uniq hw
        subst this
        rw [z2]
        unfold wa
        rw [List.getElem?_eq_getElem hkl]
    have h9 := hw.lt9 ms[k] (List.getElem_mem hkl)
    obtain ⟨t1, t2, t3⟩ := tm99 ms[k] h9
    show ∃ h', f_X12_lists_86_b F (f_X12_lists_86 F n) m (nI i) (nI N) (nI k) h = _ ∧ _
    unfold f_X12_lists_86_b f_X12_lists_128
    rw [if_neg (nI_ge (by omega) (by omega)), rs.1.g 17 34 (by decide) rfl, cV_n rs.1.1 e1, cV_n rs.1.1 e1, rs.1.lw (40 * i + k) (i40 i k) (by omega), rs.1.lw (40 * i + k) (i40 i k) (by omega), nI_1, ea]
    have fin : ∃ h', f_X12_lists_86 F n m (nI i) (nI N) (nI (k + 1)) (hp_sL h (m + 17) (40 * i + k) (lm ms[k])) = some (nI N, h') ∧ CJ m [] [17] h h' ∧ ∀ j, hp_L h' (m + 17) j = if 40 * i + k ≤ j ∧ j < 40 * i + N then (match ms[j - 40 * i]? with | none => 0 | some e => lm e) else hp_L h (m + 17) j := by
      obtain ⟨h', e, c, w⟩ := ih (k + 1) n (hp_sL h (m + 17) (40 * i + k) (lm ms[k])) ⟨rs.eqA (rs.1.sL _ _ _) rfl, r.2.1, r.2.2⟩ (by omega) (by omega)
      refine ⟨h', e, (CJ.sL (by decide)).tr c, fun j => ?_⟩
      rw [w j, sL_at]
      by_cases y : j = 40 * i + k
      · rw [if_neg (by omega), if_pos y, if_pos (by omega), y, Nat.add_sub_cancel_left, List.getElem?_eq_getElem hkl]
      · rw [if_neg y]
        by_cases y2 : 40 * i + (k + 1) ≤ j ∧ j < 40 * i + N
        · rw [if_pos y2, if_pos (show 40 * i + k ≤ j ∧ j < 40 * i + N by omega)]
        · rw [if_neg y2, if_neg (show ¬ (40 * i + k ≤ j ∧ j < 40 * i + N) by omega)]
    by_cases z : ms[k] = 8
    · rw [if_pos (t1.mpr z)]
      rw [t3 z] at fin
      exact fin
    · rw [if_neg (fun y => z (t1.mp y)), t2 z]
      exact fin
def A_lists (H : HM) (s b : Nat) (tr : TRY) (x y z v : Int32) (tr' : TRY) : Prop := match tra tr x with
  | none => v = trc tr x ∧ tr' = tr
  | some q => match gsets H y z with
    | none => v = -3 ∧ tr' = tr
    | some p => (SD H b 511 (.inl p) false s 268435456 ∧ v = -5 ∧ tr' = tr) ∨ ∃ ms, ms.length < 100000 ∧ LW H b (.inl p) ms s ∧ v = nI (min ms.length q.2.1) ∧ tr' = trM tr x.toInt.toNat (min ms.length q.2.1) ms
theorem RT.many {h h' : Hp} {m : Nat} {tr : TRY} (r : RT h m tr) {i n : Nat} {ms : List Nat} {q : Nat × Nat × (Nat → Int64)} (hi : i < 4) (ht : tr i = some q) (hn : n ≤ q.2.1) (e15 : hp_I h' (m + 15) = hp_I h (m + 15)) (e16 : hp_I h' (m + 16) = hp_I h (m + 16)) (e17 : ∀ j, hp_L h' (m + 17) j = if 40 * i + 0 ≤ j ∧ j < 40 * i + n then (match ms[j - 40 * i]? with | none => 0 | some e => lm e) else hp_L h (m + 17) j) : RT h' m (trM tr i n ms) := by
  intro j hj
  have rj := r j hj
  have ri := r i hi
  rw [ht] at ri
  have rN : q.2.1 ≤ 40 := ri.2.2.2.1
  show match (if j = i then (tr j).map (fun q => (q.1, q.2.1, fun k => if k < n then (match ms[k]? with | none => 0 | some e => lm e) else q.2.2 k)) else tr j : Option (Nat × Nat × (Nat → Int64))) with
    | none => hp_I h' (m + 15) j = -1
    | some q => hp_I h' (m + 15) j = nI q.1 ∧ q.1 ≤ 3 ∧ hp_I h' (m + 16) j = nI q.2.1 ∧ q.2.1 ≤ 40 ∧ ∀ k, k < q.2.1 → hp_L h' (m + 17) (40 * j + k) = q.2.2 k
  rw [e15, e16]
  by_cases z : j = i
  · subst z
    rw [if_pos rfl, ht]
    refine ⟨ri.1, ri.2.1, ri.2.2.1, ri.2.2.2.1, fun l hl => ?_⟩
    show hp_L h' (m + 17) (40 * j + l) = if l < n then (match ms[l]? with | none => 0 | some e => lm e) else q.2.2 l
    have hl : l < q.2.1 := hl
    rw [e17]
    by_cases z2 : l < n
    · rw [if_pos (by omega), if_pos z2, Nat.add_sub_cancel_left]
    · rw [if_neg (by omega), if_neg z2]; exact ri.2.2.2.2 l hl
  · rw [if_neg z]
    cases hp : tr j with
    | none => rw [hp] at rj; exact rj
    | some p =>
      rw [hp] at rj
      obtain ⟨so', N', ce'⟩ := p
      obtain ⟨r1, r2, r3, r4, r5⟩ := rj
      have r4 : N' ≤ 40 := r4
      exact ⟨r1, r2, r3, r4, fun l hl => by
        have hl : l < N' := hl
        rw [e17, if_neg (by omega)]; exact r5 l hl⟩
theorem rc_lists (F : Nat) (hF : 70000 ≤ F) {m : Nat} {h : Hp} {H : HM} {s b : Nat} (r : RS h m H s b) {tr : TRY} (rt : RT h m tr) (x y z : Int32) : ∃ v h' tr', f_X12_lists F m x y z h = some (v, h') ∧ CJ m [0, 5, 6, 8, 9, 10] [17] h h' ∧ RT h' m tr' ∧ A_lists H s b tr x y z v tr' := by
  have r1 := r.f 0 0
  have t1 : RT (hp_sI h m 0 0) m tr := rt.ci CI.f0 (by decide) (by decide)
  have c0 : CI m [0, 5, 6, 8, 9, 10] h (hp_sI h m 0 0) := (CI.f0).mono (by decide)
  unfold f_X12_lists A_lists
  rw [pI_n r.1.1, cV_n r1.1.1 (rc_noTray F r1.1 t1 x)]
  cases hq : tra tr x with
  | none => rw [if_neg (trc_ne tr x)]; exact ⟨_, _, tr, rfl, c0.j _, t1, rfl, rfl⟩
  | some q =>
    obtain ⟨i, hi, rfl, hti⟩ := tra_some hq
    rw [if_pos rfl, cV_n r1.1.1 (rc_areSets F r1 y z)]
    dsimp only
    cases hp : gsets H y z with
    | none => rw [if_pos (bsm0 rfl)]; exact ⟨_, _, tr, rfl, c0.j _, t1, rfl, rfl⟩
    | some p =>
      obtain ⟨h2, e2, c2, g2⟩ := rc_goals F r1 hp
      have r2 := r1.ci c2 (by decide)
      obtain ⟨h3, d, e3, c3, s3, w10, w3, -, w4, -⟩ := rc_laysStill F hF (M := 511) (free := false) (by decide) r2 g2 (fun z => absurd rfl z)
      have r3 := r2.ci c3 (by decide)
      have t3 : RT h3 m tr := (t1.ci c2 (by decide) (by decide)).ci c3 (by decide) (by decide)
      have cc : CI m [0, 5, 6, 8, 9, 10] h h3 := (c0.tr (c2.mono (by decide))).tr (c3.mono (by decide))
      have hle := s3.le
      rw [if_neg (bsm1 rfl), cV_n r1.1.1 e2, cV_n r2.1.1 (show f_X12_laysStill F m 511 0 h2 = _ from e3)]
      dsimp only
      by_cases zd : d = 268435456
      · rw [if_pos (show nI d = 268435456 by rw [zd]; rfl)]
        exact ⟨_, _, tr, rfl, cc.j _, t3, Or.inl ⟨by rw [← zd]; exact s3, rfl, rfl⟩⟩
      · have hsrc : SRC h3 m H s b (.inl p) := ⟨r3, w3, w4⟩
        obtain ⟨a0, e0, wm⟩ := rc_moveAt F hF hsrc s3 (I := 0) (by decide)
        obtain ⟨hd, ms, m1, m2, -⟩ := wm.resolve_left (fun w => zd w.1)
        have ri := t3 i hi
        rw [hti] at ri
        obtain ⟨q1, q2, q3, q4, q5⟩ := ri
        have q4 : q.2.1 ≤ 40 := q4
        rw [if_neg (show ¬ nI d = 268435456 from fun y => zd (nI_inj (b := 268435456) (by omega) (by decide) y)), r3.1.g 16 33 (by decide) rfl, r3.1.a 16 i rfl (by decide) (show i < 4 from hi), q3]
        unfold f_X12_lists_81
        have key : ∀ n, n = min ms.length q.2.1 → ∃ v h' tr', f_X12_lists_86 F F m (nI i) (nI n) 0 h3 = some (v, h') ∧ CJ m [0, 5, 6, 8, 9, 10] [17] h h' ∧ RT h' m tr' ∧ ((SD H b 511 (.inl p) false s 268435456 ∧ v = -5 ∧ tr' = tr) ∨ ∃ ms, ms.length < 100000 ∧ LW H b (.inl p) ms s ∧ v = nI (min ms.length q.2.1) ∧ tr' = trM tr (nI i).toInt.toNat (min ms.length q.2.1) ms) := by
          intro n en
          obtain ⟨h', e, c, w⟩ := rc_lists_r F hF hi (N := n) (by omega) (by omega) m1 n 0 F h3 hsrc (by omega) (by omega)
          refine ⟨nI n, h', trM tr i n ms, e, (cc.j _).tr (c.mono (by decide)), t3.many hi hti (by omega) (c.at (by decide)) (c.at (by decide)) w, Or.inr ⟨ms, by omega, m1, by rw [en], ?_⟩⟩
          rw [nI_toInt (by omega), en]
          rfl
        by_cases y : q.2.1 ≤ d
        · rw [if_pos (nI_le y (by omega)), r3.1.g 16 33 (by decide) rfl, r3.1.a 16 i rfl (by decide) (show i < 4 from hi), q3]
          exact key q.2.1 (by omega)
        · rw [if_neg (nI_ge (by omega) (by omega))]
          exact key d (by omega)
