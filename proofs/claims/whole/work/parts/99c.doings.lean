/-! L3, the class: which doings are done is weighed -/
/-- what of a house is there before it is weighed -/
def HDr (h : Hp) (a : Nat) (H : HM) : Prop := HSh h a ∧ HMok H ∧ (hp_I h a 0 = nI (hm_f H) ∧ hp_I h a 1 = nI (hm_d H) ∧ hp_I h a 2 = nI (hm_l H)) ∧
  (∀ d f, d < 6 → f < 4 → hp_I h (a + 2) (4 * d + f) = nI (hm_n H d f)) ∧ ∀ d, d < 6 → hp_I h (a + 3) d = nI (hm_b H d)
theorem HSh.sh {h h' : Hp} {a : Nat} (s : HSh h a) (e : SH h h') : HSh h' a := s.cg (fun k _ => by rw [e.1, e.2.1]; exact ⟨rfl, rfl⟩) (by rw [e.2.2.1])
theorem HDr.cg {h h' : Hp} {a : Nat} {H : HM} (c : HDr h a H) (s : SH h h') (e : hp_I h' a = hp_I h a ∧ hp_I h' (a + 2) = hp_I h (a + 2) ∧ hp_I h' (a + 3) = hp_I h (a + 3)) : HDr h' a H := by
  obtain ⟨c1, c2, c3, c4, c5⟩ := c
  obtain ⟨e1, e2, e3⟩ := e
  refine ⟨c1.sh s, c2, ?_, ?_, ?_⟩
  · rw [e1]; exact c3
  · rw [e2]; exact c4
  · rw [e3]; exact c5
theorem dd_needOf (F : Nat) {h : Hp} {a : Nat} {H : HM} (c : HDr h a H) {d f : Nat} (hd : d < 6) (hf : f < 4) : f_X2_needOf F a (nI d) (nI f) h = some (nI (hm_n H d f), h) := by
  unfold f_X2_needOf
  rw [bd_n (cc_isPlace F hd hf h), if_neg (by decide), c.1.g 2 6 (by decide), c.1.a 2 (4 * d + f) (i4d d f) (by decide) (show 4 * d + f < 24 by omega), c.2.2.2.1 d f hd hf]
theorem dd_butBits (F : Nat) {h : Hp} {a : Nat} {H : HM} (c : HDr h a H) {d : Nat} (hd : d < 6) : f_X2_butBits F a (nI d) h = some (nI (hm_b H d), h) := by
  unfold f_X2_butBits
  rw [if_neg (nI_pos (by omega)), if_neg (show ¬ (6 : Int32) ≤ nI d from i_ge hd (by decide)), c.1.g 3 7 (by decide), c.1.a 3 d rfl (by decide) (show d < 6 from hd), c.2.2.2.2 d hd]
theorem dd_isDone_r (F : Nat) {h : Hp} {a : Nat} {H : HM} (c : HDr h a H) {d o : Nat} (hd : d < 6) (ho : o < 256) : ∀ r k n, k + r = hm_f H → r < n → f_X2_isDone_2 F n a (nI d) (nI o) (nI k) h = some (nI (b2 (dsr H o 0 d k r)), h) := by
  have f4 : hm_f H ≤ 4 := c.2.1.1
  intro r
  induction r with
  | zero =>
    intro k n hk hn
    obtain ⟨n, rfl⟩ : ∃ j, n = j + 1 := ⟨n - 1, by omega⟩
    show f_X2_isDone_2_b F (f_X2_isDone_2 F n) a (nI d) (nI o) (nI k) h = _
    unfold f_X2_isDone_2_b
    rw [gI_n c.1.1, c.2.2.1.1, if_pos (nI_le (by omega) (by omega))]
    rfl
  | succ r ih =>
    intro k n hk hn
    obtain ⟨n, rfl⟩ : ∃ j, n = j + 1 := ⟨n - 1, by omega⟩
    have hk4 : k < 4 := by omega
    have hg := dg_lt o k
    have hnd := c.2.1.2.2.1 d k hd hk4
    have hbd := c.2.1.2.2.2.1 d hd
    have ih1 := ih (k + 1) n (by omega) (by omega)
    show f_X2_isDone_2_b F (f_X2_isDone_2 F n) a (nI d) (nI o) (nI k) h = some (nI (b2 (dsb H o 0 d k && dsr H o 0 d (k + 1) r)), h)
    have eb : dsb H o 0 d k = (decide (hm_n H d k ≤ dg o k) && !((hm_b H d).testBit k && decide (0 < dg o k))) := by
      unfold dsb
      rw [show 4 * 0 + k = k by omega]
    unfold f_X2_isDone_2_b f_X2_isDone_49
    rw [gI_n c.1.1, c.2.2.1.1, if_neg (nI_ge (by omega) (by omega)), lt_e, two_k, dg_and (show o < 65536 by omega) (show k < 8 by omega), cV_n c.1.1 (dd_needOf F c hd hk4), eb, nI_1]
    by_cases z1 : dg o k < hm_n H d k
    · rw [if_pos (nI_lt z1 (by omega)), decide_eq_false (show ¬ hm_n H d k ≤ dg o k by omega)]; rfl
    · rw [if_neg (fun w => z1 ((nI_ltI (by omega) (by omega)).mp w)), decide_eq_true (show hm_n H d k ≤ dg o k by omega)]
      by_cases z2 : 0 < dg o k
      · rw [if_neg (nI_nle z2 (by omega)), cV_n c.1.1 (dd_butBits F c hd), tb_and (by omega) (by omega), decide_eq_true z2]
        cases ht : (hm_b H d).testBit k with
        | true => rw [show b1 (true = true) = 1 from rfl, if_neg (show ¬ nI 1 = 0 by decide)]; rfl
        | false =>
          rw [show b1 (false = true) = 0 from rfl, if_pos (show nI 0 = 0 from rfl), ih1]
          rfl
      · rw [if_pos (show nI _ ≤ 0 by rw [show dg o k = 0 by omega]; decide), decide_eq_false z2, ih1, Bool.and_false]
        rfl
theorem dd_isDone (F : Nat) (hF : 100 ≤ F) {h : Hp} {a : Nat} {H : HM} (c : HDr h a H) {d o : Nat} (hd : d < 6) (ho : o < 256) : f_X2_isDone F a (nI d) (nI o) h = some (nI (b2 (dse H o 0 d)), h) := by
  have f4 : hm_f H ≤ 4 := c.2.1.1
  unfold f_X2_isDone dse
  exact dd_isDone_r F c hd ho (hm_f H) 0 F (by omega) (by omega)
theorem dd_27 (F : Nat) (hF : 100 ≤ F) {h : Hp} {a : Nat} {H : HM} (c : HDr h a H) {o : Nat} (ho : o < 256) (K2 : Nat → Int32 → Hp → Option (Unit × Hp)) : ∀ r k n, k + r = hm_d H → r < n → f_X2_weighDoings_27 F K2 n a (nI o) (nI (msk (dse H o 0) k)) (nI k) h = K2 a (nI (o + 1)) (hp_sI h (a + 4) o (nI (dsa H o 0))) := by
  have d6 : hm_d H ≤ 6 := c.2.1.2.1
  intro r
  induction r with
  | zero =>
    intro k n hk hn
    obtain ⟨n, rfl⟩ : ∃ j, n = j + 1 := ⟨n - 1, by omega⟩
    show f_X2_weighDoings_27_b F K2 (f_X2_weighDoings_27 F K2 n) a (nI o) (nI (msk (dse H o 0) k)) (nI k) h = _
    unfold f_X2_weighDoings_27_b
    rw [gI_n c.1.1, c.2.2.1.2.1, if_pos (nI_le (by omega) (by omega)), c.1.g 4 8 (by decide), c.1.w 4 o rfl (by decide) (show o < 256 from ho), nI_1, show k = hm_d H by omega]
    rfl
  | succ r ih =>
    intro k n hk hn
    obtain ⟨n, rfl⟩ : ∃ j, n = j + 1 := ⟨n - 1, by omega⟩
    have ih1 := ih (k + 1) n (by omega) (by omega)
    show f_X2_weighDoings_27_b F K2 (f_X2_weighDoings_27 F K2 n) a (nI o) (nI (msk (dse H o 0) k)) (nI k) h = _
    unfold f_X2_weighDoings_27_b f_X2_weighDoings_50
    rw [gI_n c.1.1, c.2.2.1.2.1, if_neg (nI_ge (by omega) (by omega)), cV_n c.1.1 (dd_isDone F hF c (show k < 6 by omega) ho), nI_1, lt_e, shl1 k (by omega)]
    have em := or_msk (p := dse H o 0) (n := k) (by omega)
    cases hq : dse H o 0 k with
    | true =>
      rw [if_pos hq] at em
      rw [show b2 true = 1 from rfl, if_neg (show ¬ nI 1 = 0 by decide), em, ih1]
    | false =>
      rw [show b2 false = 0 from rfl, if_pos (show nI 0 = 0 from rfl), msk_s hq, ih1]
theorem dd_weigh_r (F : Nat) (hF : 2000 ≤ F) {a : Nat} {H : HM} : ∀ r o n (h : Hp), HDr h a H → o + r = 4 ^ hm_f H → r < n → ∃ h', f_X2_weighDoings_2 F n a (nI o) h = some ((), h') ∧ FQ (a + 4) h h' ∧ ∀ j, hp_I h' (a + 4) j = if o ≤ j ∧ j < 4 ^ hm_f H then nI (dsa H j 0) else hp_I h (a + 4) j := by
  intro r
  induction r with
  | zero =>
    intro o n h c hk hn
    have f4 : hm_f H ≤ 4 := c.2.1.1
    have h4 : (4 : Nat) ^ hm_f H ≤ 256 := Nat.le_trans (Nat.pow_le_pow_right (by decide) f4) (by decide)
    obtain ⟨n, rfl⟩ : ∃ j, n = j + 1 := ⟨n - 1, by omega⟩
    refine ⟨h, ?_, FQ.rf _ _, fun j => by rw [if_neg (by omega)]⟩
    show f_X2_weighDoings_2_b F (f_X2_weighDoings_2 F n) a (nI o) h = _
    unfold f_X2_weighDoings_2_b
    rw [gI_n c.1.1, c.2.2.1.1, two_k, shl1 (2 * hm_f H) (by omega), Nat.pow_mul, if_pos (show nI (4 ^ hm_f H) ≤ nI o from nI_le (by omega) (by omega))]
  | succ r ih =>
    intro o n h c hk hn
    have f4 : hm_f H ≤ 4 := c.2.1.1
    have h4 : (4 : Nat) ^ hm_f H ≤ 256 := Nat.le_trans (Nat.pow_le_pow_right (by decide) f4) (by decide)
    have d6 : hm_d H ≤ 6 := c.2.1.2.1
    obtain ⟨n, rfl⟩ : ∃ j, n = j + 1 := ⟨n - 1, by omega⟩
    have f1 : FQ (a + 4) h (hp_sI h (a + 4) o (nI (dsa H o 0))) := FQ.sI
    have c1 : HDr (hp_sI h (a + 4) o (nI (dsa H o 0))) a H := c.cg f1.1 ⟨f1.2.2 _ (by omega), f1.2.2 _ (by omega), f1.2.2 _ (by omega)⟩
    obtain ⟨h', e, f, v⟩ := ih (o + 1) n _ c1 (by omega) (by omega)
    refine ⟨h', ?_, f1.tr f, fun j => ?_⟩
    · show f_X2_weighDoings_2_b F (f_X2_weighDoings_2 F n) a (nI o) h = _
      unfold f_X2_weighDoings_2_b
      rw [gI_n c.1.1, c.2.2.1.1, two_k, shl1 (2 * hm_f H) (by omega), Nat.pow_mul, if_neg (show ¬ nI (4 ^ hm_f H) ≤ nI o from nI_ge (by omega) (by omega)), c.1.g 4 8 (by decide), c.1.al 4 (by decide), if_neg (nI_ge (show o < hs_l 4 from (by show o < 256; omega)) (by decide)), ← e]
      exact dd_27 F (by omega) c (show o < 256 by omega) (f_X2_weighDoings_2 F n) (hm_d H) 0 F (by omega) (by omega)
    · rw [v j, sI_at]
      by_cases z : o + 1 ≤ j ∧ j < 4 ^ hm_f H
      · rw [if_pos z, if_pos (by omega)]
      · rw [if_neg z]
        by_cases y : j = o
        · rw [if_pos y, if_pos (by omega), y]
        · rw [if_neg y, if_neg (by omega)]
theorem dd_weigh (F : Nat) (hF : 2000 ≤ F) {h : Hp} {a : Nat} {H : HM} (c : HDr h a H) : ∃ h', f_X2_weighDoings F a h = some ((), h') ∧ FQ (a + 4) h h' ∧ ∀ j, j < 4 ^ hm_f H → hp_I h' (a + 4) j = nI (dsa H j 0) := by
  have f4 : hm_f H ≤ 4 := c.2.1.1
  have h4 : (4 : Nat) ^ hm_f H ≤ 256 := Nat.le_trans (Nat.pow_le_pow_right (by decide) f4) (by decide)
  unfold f_X2_weighDoings
  obtain ⟨h', e, f, v⟩ := dd_weigh_r F hF (4 ^ hm_f H) 0 F h c (by omega) (by omega)
  exact ⟨h', e, f, fun j hj => by rw [v j, if_pos ⟨Nat.zero_le _, hj⟩]⟩
