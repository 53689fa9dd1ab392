/-! L3, the class: a house and what it answers -/
theorem al_n {α : Type} {t a n : Nat} {h : Hp} (ht : hp_t h a = t) (hl : hp_l h a = n) (K : Int32 → Option α) : al t h a K = K (nI n) := by
  unfold al
  rw [gd_t ht, hl]
def hs_l : Nat → Nat := fun k => match k with
  | 1 => 4 | 2 => 24 | 3 => 6 | 4 => 256 | _ => 2000
/-- a house at a, its arrays behind it -/
def HSh (h : Hp) (a : Nat) : Prop := hp_t h a = 3 ∧ ∀ k, 0 < k → k < 6 → hp_R h a (4 + k) = some (a + k) ∧ hp_t h (a + k) = 20 ∧ hp_l h (a + k) = hs_l k
theorem hs_l31 {k : Nat} (h0 : 0 < k) (h1 : k < 6) : hs_l k < 2 ^ 31 := by
  rcases (show k = 1 ∨ k = 2 ∨ k = 3 ∨ k = 4 ∨ k = 5 by omega) with rfl | rfl | rfl | rfl | rfl <;> decide
theorem HSh.g {α : Type} {h : Hp} {a : Nat} (s : HSh h a) (k f : Nat) (hk : 0 < k ∧ k < 6 ∧ 4 + k = f) (K : Nat → Option α) : gR 3 h a f K = K (a + k) := gR_n s.1 (by rw [← hk.2.2]; exact (s.2 k hk.1 hk.2.1).1) K
theorem HSh.a {α : Type} {h : Hp} {a : Nat} (s : HSh h a) (k j : Nat) {i : Int32} (hi : i = nI j) (hk : 0 < k ∧ k < 6) (hj : j < hs_l k) (K : Int32 → Option α) : aI 20 h (a + k) i K = K (hp_I h (a + k) j) := aI_n (s.2 k hk.1 hk.2).2.1 (s.2 k hk.1 hk.2).2.2 hi hj (hs_l31 hk.1 hk.2) K
theorem HSh.w {α : Type} {h : Hp} {a : Nat} (s : HSh h a) (k j : Nat) {i v : Int32} (hi : i = nI j) (hk : 0 < k ∧ k < 6) (hj : j < hs_l k) (K : Hp → Option α) : wI h (a + k) i v K = K (hp_sI h (a + k) j v) := wI_n (s.2 k hk.1 hk.2).2.1 (s.2 k hk.1 hk.2).2.2 hi hj (hs_l31 hk.1 hk.2) K
theorem HSh.al {α : Type} {h : Hp} {a : Nat} (s : HSh h a) (k : Nat) (hk : 0 < k ∧ k < 6) (K : Int32 → Option α) : al 20 h (a + k) K = K (nI (hs_l k)) := al_n (s.2 k hk.1 hk.2).2.1 (s.2 k hk.1 hk.2).2.2 K
/-- where what comes is kept -/
def cpl (b t k1 k2 : Nat) : Nat := 200 * b + ((5 * t + k1) * 5 + k2) * 4
def HC (h : Hp) (a : Nat) (H : HM) : Prop := HSh h a ∧ HMok H ∧ (hp_I h a 0 = nI (hm_f H) ∧ hp_I h a 1 = nI (hm_d H) ∧ hp_I h a 2 = nI (hm_l H)) ∧
  (∀ d f, d < 6 → f < 4 → hp_I h (a + 2) (4 * d + f) = nI (hm_n H d f)) ∧ (∀ d, d < 6 → hp_I h (a + 3) d = nI (hm_b H d)) ∧
  (∀ o, o < 4 ^ hm_f H → hp_I h (a + 4) o = nI (dsa H o 0)) ∧
  ∀ b t f k1 k2, b < 10 → t < 2 → f < hm_f H → k1 ≤ hm_f H → k2 ≤ hm_f H → hp_I h (a + 5) (cpl b t k1 k2 + f) = oN (hm_c H b t f k1 k2)
theorem HSh.cg {h h' : Hp} {a : Nat} (s : HSh h a) (e : ∀ k, k < 6 → hp_t h' (a + k) = hp_t h (a + k) ∧ hp_l h' (a + k) = hp_l h (a + k)) (e2 : hp_R h' a = hp_R h a) : HSh h' a := by
  refine ⟨?_, fun k h0 h1 => ?_⟩
  · have := (e 0 (by decide)).1; rw [Nat.add_zero] at this; rw [this]; exact s.1
  · rw [e2, (e k h1).1, (e k h1).2]; exact s.2 k h0 h1
theorem HC.cg {h h' : Hp} {a : Nat} {H : HM} (c : HC h a H) (e : ∀ k, k < 6 → hp_t h' (a + k) = hp_t h (a + k) ∧ hp_l h' (a + k) = hp_l h (a + k)) (e2 : hp_R h' a = hp_R h a) (e3 : ∀ k, k < 6 → hp_I h' (a + k) = hp_I h (a + k)) : HC h' a H := by
  obtain ⟨c1, c2, c3, c4, c5, c6, c7⟩ := c
  refine ⟨c1.cg e e2, c2, ?_, ?_, ?_, ?_, ?_⟩
  · have := e3 0 (by decide); rw [Nat.add_zero] at this; rw [this]; exact c3
  · rw [e3 2 (by decide)]; exact c4
  · rw [e3 3 (by decide)]; exact c5
  · rw [e3 4 (by decide)]; exact c6
  · rw [e3 5 (by decide)]; exact c7
theorem HC.f4 {h : Hp} {a : Nat} {H : HM} (c : HC h a H) : hm_f H ≤ 4 := c.2.1.1
theorem HC.d6 {h : Hp} {a : Nat} {H : HM} (c : HC h a H) : hm_d H ≤ 6 := c.2.1.2.1
theorem HC.t {h : Hp} {a : Nat} {H : HM} (c : HC h a H) : hp_t h a = 3 := c.1.1
theorem HC.fs {α : Type} {h : Hp} {a : Nat} {H : HM} (c : HC h a H) (K : Int32 → Option α) : gI 3 h a 0 K = K (nI (hm_f H)) := by rw [gI_n c.t, c.2.2.1.1]
theorem HC.ds {α : Type} {h : Hp} {a : Nat} {H : HM} (c : HC h a H) (K : Int32 → Option α) : gI 3 h a 1 K = K (nI (hm_d H)) := by rw [gI_n c.t, c.2.2.1.2.1]
theorem HC.ls {α : Type} {h : Hp} {a : Nat} {H : HM} (c : HC h a H) (K : Int32 → Option α) : gI 3 h a 2 K = K (nI (hm_l H)) := by rw [gI_n c.t, c.2.2.1.2.2]
theorem sh42 (f t : Nat) : 4 * nI f + 2 * nI t = nI (2 * (2 * f + t)) := by
  rw [show 4 * nI f = nI (4 * f) from pk_mul 4 f, two_k, nI_add, show 4 * f + 2 * t = 2 * (2 * f + t) by omega]
theorem cc_ageIn (F : Nat) {s t f : Nat} (ht : t < 2) (hf : f < 4) (h : Hp) : f_X2_ageIn F (nI (cs s)) (nI t) (nI f) h = some (nI (dg s (4 * t + f)), h) := by
  unfold f_X2_ageIn
  rw [sh42, dg_and (cs_lt s) (show 2 * f + t < 8 by omega), dg_cs ht hf]
theorem cc_doneBy (F : Nat) {h : Hp} {a : Nat} {H : HM} (c : HC h a H) {s t : Nat} (hs : STok H s) (ht : t < 2) : f_X2_doneBy F a (nI (cs s)) (nI t) h = some (nI (dsa H s t), h) := by
  have d0 := dg_cs (s := s) (f := 0) ht (by decide)
  have d1 := dg_cs (s := s) (f := 1) ht (by decide)
  have d2 := dg_cs (s := s) (f := 2) ht (by decide)
  have d3 := dg_cs (s := s) (f := 3) ht (by decide)
  simp only [Nat.mul_zero, Nat.zero_add, Nat.reduceMul, Nat.add_zero] at d0 d1 d2 d3
  have e : dg (cs s) t + 4 * dg (cs s) (2 + t) + 16 * dg (cs s) (4 + t) + 64 * dg (cs s) (6 + t) = o4 s t := by rw [d0, d1, d2, d3]; rfl
  have hl := o4_lt hs ht c.f4
  have h4 : (4 : Nat) ^ hm_f H ≤ 256 := Nat.le_trans (Nat.pow_le_pow_right (by decide) c.f4) (by decide)
  unfold f_X2_doneBy
  rw [lt_e, lt_e, lt_e, cc_own (cs_lt s) ht, ow_4, own_bits _ (dg_lt _ _) _ (dg_lt _ _) _ (dg_lt _ _) _ (dg_lt _ _), e, c.1.g 4 8 (by decide), c.1.al 4 (by decide), if_neg (nI_ge (show o4 s t < hs_l 4 from Nat.lt_of_lt_of_le hl h4) (by decide)), c.1.g 4 8 (by decide), c.1.a 4 (o4 s t) rfl (by decide) (Nat.lt_of_lt_of_le hl h4), c.2.2.2.2.2.1 _ hl, dsa_o4 c.f4]
theorem cc_caseOf (F : Nat) (b t k1 k2 : Nat) (h : Hp) : f_X2_caseOf F (nI b) (nI t) (nI k1) (nI k2) h = some (nI (cpl b t k1 k2), h) := by
  unfold f_X2_caseOf cpl
  rw [show (200 : Int32) = nI 200 from rfl, show (5 : Int32) = nI 5 from rfl, show (4 : Int32) = nI 4 from rfl, pk_mul, pk_mul, nI_add, pk_mul, nI_add, pk_mul, nI_add, show b * 200 + ((t * 5 + k1) * 5 + k2) * 4 = 200 * b + ((5 * t + k1) * 5 + k2) * 4 by omega]
theorem cc_caseAt (F : Nat) {s t : Nat} (ht : t < 2) (a b : Nat) (h : Hp) : f_X2_caseAt F a (nI (cs s)) (nI b) (nI t) h = some (nI (cpl b t (kn s t) (kn s (1 - t))), h) := by
  unfold f_X2_caseAt
  rw [bd_n (cc_knownTo F ht h), one_sub ht, bd_n (cc_knownTo F (show 1 - t < 2 by omega) h), bd_n (cc_caseOf F b t _ _ h)]
theorem st4_add {c k v : Nat} (hc : c < 65536) (hk : k < 8) (hv : dg c k ≤ v) : st4 c k v = c + (v - dg c k) * 4 ^ k := by
  have e := mk_dg hc
  unfold st4
  unfold mkS at e ⊢
  rcases (show k = 0 ∨ k = 1 ∨ k = 2 ∨ k = 3 ∨ k = 4 ∨ k = 5 ∨ k = 6 ∨ k = 7 by omega) with rfl | rfl | rfl | rfl | rfl | rfl | rfl | rfl <;> simp only [Nat.reduceEqDiff, if_true, if_false, Nat.reducePow] <;> omega
theorem st4_self {c k : Nat} (hc : c < 65536) : st4 c k (dg c k) = c := by
  refine dg_ext (st4_lt (dg_lt _ _)) hc fun j hj => ?_
  rw [dg_st (dg_lt _ _) hj]
  by_cases e : j = k
  · rw [if_pos e, e]
  · rw [if_neg e]
theorem bt_1 : ∀ i, i < 32 → bt 1 i = decide (i = 0) := by decide +kernel
theorem or_st {c k : Nat} (hc : c < 65536) (hk : k < 8) (h0 : dg c k = 0) : nI c ||| ((1 : Int32) <<< (nI (2 * k) &&& 31)) = nI (st4 c k 1) := by
  refine nI_bits (st4_lt (by decide)) (fun i hi => ?_) (fun i h1 h2 => ?_)
  · rw [b_or, b_shl (2 * k) (by omega) _ (by omega), bt_1 (i - 2 * k) (by omega), bt_dg (by omega), dg_st (by decide) (by omega)]
    by_cases e : i / 2 = k
    · rw [if_pos e, e, h0]
      rcases (show i = 2 * k ∨ i = 2 * k + 1 by omega) with q | q
      · subst q; simp
      · subst q
        simp
        decide
    · rw [if_neg e]
      rcases Nat.lt_or_ge i (2 * k) with q | q
      · have e1 : ¬ 2 * k ≤ i := by omega
        simp [e1]
      · have e2 : ¬ i - 2 * k = 0 := by omega
        simp [e2]
  · rw [b_or, bt_hi hc h1 h2, b_shl (2 * k) (by omega) _ h2, bt_1 (i - 2 * k) (by omega), decide_eq_false (show ¬ i - 2 * k = 0 by omega)]
    simp
theorem add_st {c k v : Nat} (hc : c < 65536) (hk : k < 8) (hv : dg c k < v) (h4 : v < 4) : nI c + (nI (v - dg c k) <<< (nI (2 * k) &&& 31)) = nI (st4 c k v) := by
  have hp : (4 : Nat) ^ k ≤ 4 ^ 7 := Nat.pow_le_pow_right (by decide) (by omega)
  have hp7 : (4 : Nat) ^ 7 = 16384 := rfl
  have h2 : (v - dg c k) * 4 ^ k ≤ 3 * 4 ^ k := Nat.mul_le_mul_right _ (by omega)
  rw [pk_shlN _ (2 * k) (s_l (2 * k) (by omega)) (by rw [Nat.pow_mul]; show (v - dg c k) * 4 ^ k < _; omega), nI_add, Nat.pow_mul, st4_add hc hk (by omega)]
theorem cc_after32 (F : Nat) {s t f c : Nat} (hs : s < 65536) (ht : t < 2) (hf : f < 4) (hc : c < 4) (h : Hp) : f_X2_afterCase_32 F (nI (cs s)) (nI t) (nI f) (nI c) h = some (nI (cs (tos s t f c)), h) := by
  have d0 := dg_lt s (4 * t + f)
  have d1 := dg_lt s (4 * (1 - t) + f)
  have key : ∀ s1, s1 < 65536 → dg s1 (4 * (1 - t) + f) = dg s (4 * (1 - t) + f) → f_X2_afterCase_69 F (nI (cs s)) (nI t) (nI f) (nI c) (nI (cs s1)) h = some (nI (cs (st4 s1 (4 * (1 - t) + f) (if c ≤ dg s (4 * (1 - t) + f) then dg s (4 * (1 - t) + f) else c))), h) := by
    intro s1 hs1 e1
    unfold f_X2_afterCase_69
    rw [one_sub ht, bd_n (cc_ageIn F (show 1 - t < 2 by omega) hf h), lt_e]
    by_cases q : c ≤ dg s (4 * (1 - t) + f)
    · have z : nI c - nI (dg s (4 * (1 - t) + f)) ≤ 0 := Int32.le_iff_toInt_le.mpr (by rw [pk_sub_toInt (by omega) (by omega)]; show _ ≤ (0 : Int); omega)
      rw [if_pos z, if_pos q, ← e1, st4_self hs1]
    · rw [if_neg q, pk_sub (by omega), if_neg (nI_nle (by omega) (by omega)), sh42]
      have e2 := dg_cs (s := s1) (t := 1 - t) (f := f) (by omega) hf
      rw [← e1, ← e2, add_st (cs_lt s1) (by omega) (by omega) hc, ← cs_st (by omega) hf hc]
  unfold f_X2_afterCase_32 tos
  rw [if_pos (nI_pos' (by omega)), bd_n (cc_ageIn F ht hf h)]
  by_cases q : dg s (4 * t + f) = 0
  · rw [if_pos (show nI _ = 0 by rw [q]; rfl), lt_e, if_pos q, sh42, or_st (cs_lt s) (by omega) (by rw [dg_cs ht hf]; exact q), ← cs_st ht hf (by decide), key _ (st4_lt (by decide)) (by rw [dg_st (by decide) (by omega), if_neg (by omega)])]
  · rw [if_neg (nI_ne0 (by omega) (by omega)), if_neg q, st4_self hs, key s hs rfl]
theorem cc_afterCase (F : Nat) {h : Hp} {a : Nat} {H : HM} (c : HC h a H) {s b t f : Nat} (hs : STok H s) (hb : b < 10) (ht : t < 2) (hf : f < hm_f H) : f_X2_afterCase F a (nI (cs s)) (nI (cpl b t (kn s t) (kn s (1 - t)))) (nI t) (nI f) h = some (oN ((tld H b s t f).map cs), h) := by
  have f4 := c.f4
  have k1 := kn_f hs ht f4
  have k2 := kn_f hs (show 1 - t < 2 by omega) f4
  have hl : cpl b t (kn s t) (kn s (1 - t)) + f < 2000 := by unfold cpl; omega
  have e := c.2.2.2.2.2.2 b t f _ _ hb ht hf k1 k2
  unfold f_X2_afterCase tld tel
  rw [lt_e, nI_add, if_neg (nI_pos (by omega)), c.1.g 5 9 (by decide), c.1.al 5 (by decide), if_neg (nI_ge (show _ < hs_l 5 from hl) (by decide)), c.1.g 5 9 (by decide), c.1.a 5 _ rfl (by decide) (show _ < hs_l 5 from hl), e]
  cases hc : hm_c H b t f (kn s t) (kn s (1 - t)) with
  | none => unfold f_X2_afterCase_32; rw [if_neg (show ¬ (0 : Int32) ≤ oN none by decide)]; rfl
  | some v => exact cc_after32 F hs.1 ht (by omega) (c.2.1.2.2.2.2.1 _ _ _ _ _ _ hc) h
theorem cc_afterTelling (F : Nat) {h : Hp} {a : Nat} {H : HM} (c : HC h a H) {s b t f : Nat} (hs : STok H s) (hb : b < 10) (ht : t < 2) (hf : f < hm_f H) : f_X2_afterTelling F a (nI (cs s)) (nI b) (nI t) (nI f) h = some (oN ((tld H b s t f).map cs), h) := by
  unfold f_X2_afterTelling
  rw [cV_n c.t (cc_caseAt F ht a b h), cV_n c.t (cc_afterCase F c hs hb ht hf)]
theorem tld_ok {H : HM} (hH : HMok H) {s b t f u : Nat} (hs : STok H s) (ht : t < 2) (hf : f < hm_f H) (h : tld H b s t f = some u) : STok H u := by
  unfold tld at h
  cases hc : tel H b s t f with
  | none => rw [hc] at h; cases h
  | some v =>
    rw [hc] at h
    have h : tos s t f v = u := Option.some.inj h
    rw [← h]
    exact tos_ok hs ht hf hH.1 (hH.2.2.2.2.1 _ _ _ _ _ _ hc)
theorem cc_day (F s : Nat) (h : Hp) : f_X2_afterDay F (nI (cs s)) h = some (nI (cs (dy s)), h) := by rw [cs_dy]; exact cc_afterDay F (cs_lt s) h
theorem cc_doAtLeast (F : Nat) {h : Hp} {a : Nat} {H : HM} (c : HC h a H) {s p q : Nat} (hs : STok H s) (hp : p < 64) (hq : q < 64) : f_X2_doAtLeast F a (nI (cs s)) (nI p) (nI q) h = some (nI (b2 (gl H (.inl (p, q)) s)), h) := by
  unfold f_X2_doAtLeast gl
  have d0 := dsa_lt c.2.1 s 0
  have d1 := dsa_lt c.2.1 s 1
  rw [cV_n c.t (show f_X2_doneBy F a (nI (cs s)) 0 h = _ from cc_doneBy F c hs (t := 0) (by decide)), nx_and]
  by_cases q1 : dsa H s 0 &&& p = p
  · rw [if_pos (by rw [q1]), cV_n c.t (show f_X2_doneBy F a (nI (cs s)) 1 h = _ from cc_doneBy F c hs (t := 1) (by decide)), nx_and]
    by_cases q2 : dsa H s 1 &&& q = q
    · rw [if_pos (by rw [q2])]
      show _ = some (nI (b2 (decide (dsa H s 0 &&& p = p) && decide (dsa H s 1 &&& q = q))), h)
      rw [decide_eq_true q1, decide_eq_true q2]; rfl
    · have := and_lt (b := q) d1
      rw [if_neg (fun z => q2 (nI_inj (by omega) (by omega) z))]
      show _ = some (nI (b2 (decide (dsa H s 0 &&& p = p) && decide (dsa H s 1 &&& q = q))), h)
      rw [decide_eq_false q2, Bool.and_false]; rfl
  · have := and_lt (b := p) d0
    rw [if_neg (fun z => q1 (nI_inj (by omega) (by omega) z))]
    show _ = some (nI (b2 (decide (dsa H s 0 &&& p = p) && decide (dsa H s 1 &&& q = q))), h)
    rw [decide_eq_false q1, Bool.false_and]; rfl
theorem cc_doJust (F : Nat) {h : Hp} {a : Nat} {H : HM} (c : HC h a H) {s p q : Nat} (hs : STok H s) (hp : p < 64) (hq : q < 64) : f_X2_doJust F a (nI (cs s)) (nI p) (nI q) h = some (nI (b2 (decide (dsa H s 0 = p) && decide (dsa H s 1 = q))), h) := by
  unfold f_X2_doJust
  have d0 := dsa_lt c.2.1 s 0
  have d1 := dsa_lt c.2.1 s 1
  rw [cV_n c.t (show f_X2_doneBy F a (nI (cs s)) 0 h = _ from cc_doneBy F c hs (t := 0) (by decide))]
  by_cases q1 : dsa H s 0 = p
  · rw [if_pos (by rw [q1]), cV_n c.t (show f_X2_doneBy F a (nI (cs s)) 1 h = _ from cc_doneBy F c hs (t := 1) (by decide))]
    by_cases q2 : dsa H s 1 = q
    · rw [if_pos (by rw [q2]), decide_eq_true q1, decide_eq_true q2]; rfl
    · rw [if_neg (fun z => q2 (nI_inj (by omega) (by omega) z)), decide_eq_false q2, Bool.and_false]; rfl
  · rw [if_neg (fun z => q1 (nI_inj (by omega) (by omega) z)), decide_eq_false q1, Bool.false_and]; rfl
def bcE (a : Int32) : Int32 :=
  let x1 := a - ((ju a 1) &&& 1431655765)
  let x2 := (x1 &&& 858993459) + ((ju x1 2) &&& 858993459)
  let x3 := (x2 + (ju x2 4)) &&& 252645135
  let x4 := x3 + (ju x3 8)
  let x5 := x4 + (ju x4 16)
  x5 &&& 63
theorem bcE_e : ∀ v, v < 64 → bcE (nI v) = nI (pc v) := by decide +kernel
theorem cc_bitCount (F : Nat) {v : Nat} (hv : v < 64) (h : Hp) : f_J6_bitCount_0f7a4 F (nI v) h = some (nI (pc v), h) := by
  show some (bcE (nI v), h) = _
  rw [bcE_e v hv]
theorem cc_doneByBoth (F : Nat) {h : Hp} {a : Nat} {H : HM} (c : HC h a H) {s : Nat} (hs : STok H s) : f_X2_doneByBoth F a (nI (cs s)) h = some (nI (pb2 H s), h) := by
  unfold f_X2_doneByBoth
  rw [cV_n c.t (show f_X2_doneBy F a (nI (cs s)) 0 h = _ from cc_doneBy F c hs (t := 0) (by decide)), bd_n (cc_bitCount F (dsa_lt c.2.1 s 0) h), cV_n c.t (show f_X2_doneBy F a (nI (cs s)) 1 h = _ from cc_doneBy F c hs (t := 1) (by decide)), bd_n (cc_bitCount F (dsa_lt c.2.1 s 1) h), nI_add]
  rfl
theorem cc_isPlace (F : Nat) {d f : Nat} (hd : d < 6) (hf : f < 4) (h : Hp) : f_X2_isPlace F (nI d) (nI f) h = some (1, h) := by
  unfold f_X2_isPlace
  rw [if_neg (nI_pos (by omega)), if_neg (show ¬ (6 : Int32) ≤ nI d from i_ge hd (by decide)), if_neg (nI_pos (by omega)), if_neg (show ¬ (4 : Int32) ≤ nI f from i_ge hf (by decide))]
theorem i4d (d f : Nat) : nI d * 4 + nI f = nI (4 * d + f) := by rw [show nI d * 4 = nI (d * 4) from pk_mul d 4, nI_add, Nat.mul_comm]
theorem cc_needOf (F : Nat) {h : Hp} {a : Nat} {H : HM} (c : HC h a H) {d f : Nat} (hd : d < 6) (hf : f < 4) : f_X2_needOf F a (nI d) (nI f) h = some (nI (hm_n H d f), h) := by
  unfold f_X2_needOf
  rw [bd_n (cc_isPlace F hd hf h), if_neg (by decide), c.1.g 2 6 (by decide), c.1.a 2 (4 * d + f) (i4d d f) (by decide) (show 4 * d + f < 24 by omega), c.2.2.2.1 d f hd hf]
theorem cc_butBits (F : Nat) {h : Hp} {a : Nat} {H : HM} (c : HC h a H) {d : Nat} (hd : d < 6) : f_X2_butBits F a (nI d) h = some (nI (hm_b H d), h) := by
  unfold f_X2_butBits
  rw [if_neg (nI_pos (by omega)), if_neg (show ¬ (6 : Int32) ≤ nI d from i_ge hd (by decide)), c.1.g 3 7 (by decide), c.1.a 3 d rfl (by decide) (show d < 6 from hd), c.2.2.2.2.1 d hd]
theorem cc_needBits_r (F : Nat) {h : Hp} {a : Nat} {H : HM} (c : HC h a H) {d : Nat} (hd : d < 6) : ∀ r k n, k + r = hm_f H → r < n → f_X2_needBits_4 F n a (nI d) (nI (msk (ndb H d) k)) (nI k) h = some (nI (msk (ndb H d) (hm_f H)), h) := by
  have h4 := c.f4
  intro r
  induction r with
  | zero =>
    intro k n hk hn
    obtain ⟨n, rfl⟩ : ∃ j, n = j + 1 := ⟨n - 1, by omega⟩
    show f_X2_needBits_4_b F (f_X2_needBits_4 F n) a (nI d) (nI (msk (ndb H d) k)) (nI k) h = _
    unfold f_X2_needBits_4_b
    rw [c.fs, if_pos (nI_le (by omega) (by omega)), show k = hm_f H by omega]
  | succ r ih =>
    intro k n hk hn
    obtain ⟨n, rfl⟩ : ∃ j, n = j + 1 := ⟨n - 1, by omega⟩
    show f_X2_needBits_4_b F (f_X2_needBits_4 F n) a (nI d) (nI (msk (ndb H d) k)) (nI k) h = _
    unfold f_X2_needBits_4_b f_X2_needBits_27
    have hk4 : k < 4 := by omega
    have hn4 := c.2.1.2.2.1 d k hd hk4
    rw [c.fs, if_neg (nI_ge (by omega) (by omega)), cV_n c.t (cc_needOf F c hd hk4), lt_e, nI_1, shl1 k (by omega)]
    have em := or_msk (p := ndb H d) (n := k) (by omega)
    have ih1 := ih (k + 1) n (by omega) (by omega)
    by_cases q : 0 < hm_n H d k
    · rw [if_pos (show ndb H d k = true from decide_eq_true q)] at em
      rw [if_neg (nI_nle q (by omega)), em, ih1]
    · rw [if_neg (show ¬ ndb H d k = true by rw [show ndb H d k = false from decide_eq_false q]; decide)] at em
      rw [if_pos (show nI _ ≤ 0 by rw [show hm_n H d k = 0 by omega]; decide)]
      rw [show nI (msk (ndb H d) k) = nI (msk (ndb H d) (k + 1)) from (by rw [← em]; exact (show nI (msk (ndb H d) k) = nI (msk (ndb H d) k) ||| nI 0 by rw [nx_or, Nat.or_zero])), ih1]
theorem cc_needBits (F : Nat) (hF : 100 ≤ F) {h : Hp} {a : Nat} {H : HM} (c : HC h a H) {d : Nat} (hd : d < 6) : f_X2_needBits F a (nI d) h = some (nI (msk (ndb H d) (hm_f H)), h) := by
  unfold f_X2_needBits
  exact cc_needBits_r F c hd (hm_f H) 0 F (by omega) (by have := c.f4; omega)
/-- the facts that a twin knows -/
def kwb (s t : Nat) (f : Nat) : Bool := decide (0 < dg s (4 * t + f))
theorem cc_knownBits_r (F : Nat) {h : Hp} {a : Nat} {H : HM} (c : HC h a H) {s t : Nat} (ht : t < 2) : ∀ r k n, k + r = hm_f H → r < n → f_X2_knownBits_5 F n a (nI (cs s)) (nI t) (nI (msk (kwb s t) k)) (nI k) h = some (nI (msk (kwb s t) (hm_f H)), h) := by
  have h4 := c.f4
  intro r
  induction r with
  | zero =>
    intro k n hk hn
    obtain ⟨n, rfl⟩ : ∃ j, n = j + 1 := ⟨n - 1, by omega⟩
    show f_X2_knownBits_5_b F (f_X2_knownBits_5 F n) a (nI (cs s)) (nI t) (nI (msk (kwb s t) k)) (nI k) h = _
    unfold f_X2_knownBits_5_b
    rw [c.fs, if_pos (nI_le (by omega) (by omega)), show k = hm_f H by omega]
  | succ r ih =>
    intro k n hk hn
    obtain ⟨n, rfl⟩ : ∃ j, n = j + 1 := ⟨n - 1, by omega⟩
    show f_X2_knownBits_5_b F (f_X2_knownBits_5 F n) a (nI (cs s)) (nI t) (nI (msk (kwb s t) k)) (nI k) h = _
    unfold f_X2_knownBits_5_b f_X2_knownBits_31
    have hk4 : k < 4 := by omega
    have hg := dg_lt s (4 * t + k)
    rw [c.fs, if_neg (nI_ge (by omega) (by omega)), bd_n (cc_ageIn F ht hk4 h), lt_e, nI_1, shl1 k (by omega)]
    have em := or_msk (p := kwb s t) (n := k) (by omega)
    have ih1 := ih (k + 1) n (by omega) (by omega)
    by_cases q : 0 < dg s (4 * t + k)
    · rw [if_pos (show kwb s t k = true from decide_eq_true q)] at em
      rw [if_neg (nI_nle q (by omega)), em, ih1]
    · rw [if_neg (show ¬ kwb s t k = true by rw [show kwb s t k = false from decide_eq_false q]; decide)] at em
      rw [if_pos (show nI _ ≤ 0 by rw [show dg s (4 * t + k) = 0 by omega]; decide)]
      rw [show nI (msk (kwb s t) k) = nI (msk (kwb s t) (k + 1)) from (by rw [← em]; exact (show nI (msk (kwb s t) k) = nI (msk (kwb s t) k) ||| nI 0 by rw [nx_or, Nat.or_zero])), ih1]
theorem cc_knownBits (F : Nat) (hF : 100 ≤ F) {h : Hp} {a : Nat} {H : HM} (c : HC h a H) {s t : Nat} (ht : t < 2) : f_X2_knownBits F a (nI (cs s)) (nI t) h = some (nI (msk (kwb s t) (hm_f H)), h) := by
  unfold f_X2_knownBits
  exact cc_knownBits_r F c ht (hm_f H) 0 F (by omega) (by have := c.f4; omega)
theorem p16 : ∀ f, f ≤ 4 → (1 : Int32) <<< ((4 * nI f) &&& 31) = nI (16 ^ f) := by
  have : ∀ f, f < 5 → (1 : Int32) <<< ((4 * nI f) &&& 31) = nI (16 ^ f) := by decide +kernel
  exact fun f hf => this f (by omega)
theorem cc_room (F : Nat) {h : Hp} {a : Nat} {H : HM} (c : HC h a H) : f_X2_room F a h = some (nI (16 ^ hm_f H), h) := by
  unfold f_X2_room
  rw [c.fs, p16 _ c.f4]
theorem p16_le {f : Nat} (h : f ≤ 4) : 16 ^ f ≤ 65536 := Nat.le_trans (Nat.pow_le_pow_right (by decide) h) (by decide)
