/-! L3: deeds in the reference -/
theorem RS.upd {h h' : Hp} {m : Nat} {H : HM} {s b s' b' : Nat} (r : RS h m H s b) (hS : SR h' m) (h1 : ∀ k, (k < 43 ∨ 144 ≤ k ∧ k < 1044) → hp_I h' (m + 1) k = hp_I h (m + 1) k) (h2 : ∀ k, k < 8 → hp_I h' (m + 1) (43 + k) = nI (dg s' k)) (h3 : hp_I h' (m + 1) 51 = nI b') (h4 : STok H s') (h5 : b' < 10) : RS h' m H s' b' := by
  obtain ⟨r1, r2, ⟨q0, q1, q2, q3, q4, q5, q6⟩, r4, r5, r6⟩ := r
  refine ⟨hS, r2, ⟨?_, ?_, ?_, fun d f hd hf => ?_, fun d hd => ?_, h2, h3⟩, r4.cg (fun k hk => h1 k (by omega)) r2.1, h4, h5⟩
  · rw [h1 0 (by omega)]; exact q0
  · rw [h1 1 (by omega)]; exact q1
  · rw [h1 2 (by omega)]; exact q2
  · rw [h1 _ (by omega)]; exact q3 d f hd hf
  · rw [h1 _ (by omega)]; exact q4 d hd
theorem STok.dy {H : HM} {s : Nat} (h : STok H s) : STok H (dy s) := ⟨dy_lt s, fun t f ht hf hq => by rw [dg_dy (by omega), h.2 t f ht hf hq]; rfl⟩
theorem STok.st {H : HM} {s k v : Nat} (h : STok H s) (hv : v < 4) (hk : ∀ t f, t < 2 → f < 4 → hm_f H ≤ f → 4 * t + f ≠ k) : STok H (st4 s k v) := ⟨st4_lt hv, fun t f ht hf hq => by rw [dg_st hv (by omega), if_neg (hk t f ht hf hq)]; exact h.2 t f ht hf hq⟩
theorem tos_ok {H : HM} {s t f c : Nat} (h : STok H s) (ht : t < 2) (hf : f < hm_f H) (h4 : hm_f H ≤ 4) (hc : c < 4) : STok H (tos s t f c) := by
  unfold tos
  have a1 : (if dg s (4 * t + f) = 0 then 1 else dg s (4 * t + f)) < 4 := by split; decide; exact dg_lt _ _
  have a2 : (if c ≤ dg s (4 * (1 - t) + f) then dg s (4 * (1 - t) + f) else c) < 4 := by split; exact dg_lt _ _; exact hc
  exact (h.st a1 (fun t' f' _ _ _ => by omega)).st a2 (fun t' f' _ _ _ => by omega)
theorem RS.isStand {h : Hp} {m : Nat} {H : HM} {s b s' : Nat} (r : RS h m H s b) (F : Nat) (hF : 100 ≤ F) (h4 : STok H s') : ∃ h', f_X12_isStand F m (nI s') h = some ((), h') ∧ CI m [1] h h' ∧ RS h' m H s' b ∧ ∀ j, (j < 43 ∨ 51 ≤ j) → hp_I h' (m + 1) j = hp_I h (m + 1) j := by
  refine ⟨_, rc_isStand F hF r.1 h4.1, CI.c (by decide), ?_, fun j hj => ?_⟩
  · refine r.upd (r.1.c _ _) (fun k hk => ?_) (fun k hk => ?_) ?_ h4 r.2.2.2.2.2
    · rw [hp_c_at]; exact wst_out _ _ 8 k (by omega)
    · rw [hp_c_at]; exact wst_at _ _ 8 k hk
    · rw [hp_c_at, wst_out _ _ 8 51 (by omega)]; exact r.2.2.1.2.2.2.2.2.2
  · rw [hp_c_at]; exact wst_out _ _ 8 j (by omega)
/-- why a deed can't be: 0 if it can -/
def dwhy (H : HM) (s b : Nat) (v : Int) : Nat :=
  if v = -1 then 0 else if 200 ≤ v ∧ v ≤ 209 then 0
  else if 0 ≤ v ∧ v ≤ 19 then (if v.toNat % 10 < hm_f H then (if tel H b s (v.toNat / 10) (v.toNat % 10) = none then 3 else 0) else 1)
  else if 100 ≤ v ∧ v ≤ 119 then (if v.toNat % 10 < hm_f H then (if dg s (4 * ((v.toNat - 100) / 10) + v.toNat % 10) = 0 then 2 else 0) else 1)
  else 1
/-- the stand and the bond behind a deed that can be -/
def dact (H : HM) (s b : Nat) (v : Int) : Nat × Nat :=
  if v = -1 then (dy s, b) else if v < 20 then ((tld H b s (v.toNat / 10) (v.toNat % 10)).getD s, b)
  else if v < 120 then (st4 s (4 * ((v.toNat - 100) / 10) + v.toNat % 10) 0, b) else (s, v.toNat - 200)
theorem b1_0 {p : Prop} [Decidable p] (h : ¬ p) : nI (b1 p) = 0 := by unfold b1; rw [if_neg h]; rfl
theorem b1_1 {p : Prop} [Decidable p] (h : p) : ¬ nI (b1 p) = 0 := by unfold b1; rw [if_pos h]; decide
theorem rc_whyTellL (F : Nat) (hF : 2000 ≤ F) {m : Nat} {h : Hp} {H : HM} {s b : Nat} (r : RS h m H s b) (x y : Int64) : ∃ h', f_X12_whyTell F m x y h = some (nI (if (0 ≤ x.toInt ∧ x.toInt ≤ 1) ∧ (0 ≤ y.toInt ∧ y.toInt < hm_f H) then (if tel H b s x.toInt.toNat y.toInt.toNat = none then 3 else 0) else 1), h') ∧ CI m [5, 6] h h' := by
  have h4 := r.f4
  unfold f_X12_whyTell
  rw [bd_n (rc_isTwinL F x h)]
  by_cases q : 0 ≤ x.toInt ∧ x.toInt ≤ 1
  · rw [if_neg (b1_1 q), cV_n r.1.1 (rc_isFactL F r.1 (by omega) r.fc y)]
    by_cases q2 : 0 ≤ y.toInt ∧ y.toInt < hm_f H
    · rw [if_neg (b1_1 q2), if_pos ⟨q, q2⟩, cV_n r.1.1 (r.stand F (by omega))]
      have e1 : x.toInt32 = nI x.toInt.toNat := by
        rw [← lN_i]; congr 1
        apply Int64.toInt_inj.mp
        rw [lN_toInt (by omega)]; omega
      have e2 : y.toInt32 = nI y.toInt.toNat := by
        rw [← lN_i]; congr 1
        apply Int64.toInt_inj.mp
        rw [lN_toInt (by omega)]; omega
      obtain ⟨h2, e3, c2⟩ := rc_mayTell F hF r.1 r.2.1 r.2.2.1 r.2.2.2.1 r.2.2.2.2.2 r.2.2.2.2.1 (t := x.toInt.toNat) (f := y.toInt.toNat) (by omega) (by omega)
      rw [e1, e2, cV_n r.1.1 e3]
      refine ⟨h2, ?_, c2⟩
      cases ht : tel H b s x.toInt.toNat y.toInt.toNat with
      | none => rw [if_pos (bsm0 rfl), if_pos rfl]; rfl
      | some c => rw [if_neg (bsm1 rfl), if_neg (by simp)]; rfl
    · rw [if_pos (b1_0 q2), if_neg (fun z => q2 z.2)]
      exact ⟨h, rfl, CI.rf _ _ _⟩
  · rw [if_pos (b1_0 q), if_neg (fun z => q z.1)]
    exact ⟨h, rfl, CI.rf _ _ _⟩
theorem rc_whyForgetL (F : Nat) (hF : 100 ≤ F) {m : Nat} {h : Hp} {H : HM} {s b : Nat} (r : RS h m H s b) (x y : Int64) : f_X12_whyForget F m x y h = some (nI (if (0 ≤ x.toInt ∧ x.toInt ≤ 1) ∧ (0 ≤ y.toInt ∧ y.toInt < hm_f H) then (if dg s (4 * x.toInt.toNat + y.toInt.toNat) = 0 then 2 else 0) else 1), h) := by
  have h4 := r.f4
  unfold f_X12_whyForget
  rw [bd_n (rc_isTwinL F x h)]
  by_cases q : 0 ≤ x.toInt ∧ x.toInt ≤ 1
  · rw [if_neg (b1_1 q), cV_n r.1.1 (rc_isFactL F r.1 (by omega) r.fc y)]
    by_cases q2 : 0 ≤ y.toInt ∧ y.toInt < hm_f H
    · rw [if_neg (b1_1 q2), if_pos ⟨q, q2⟩, cV_n r.1.1 (r.stand F (by omega))]
      have e1 : x.toInt32 = nI x.toInt.toNat := by
        rw [← lN_i]; congr 1
        apply Int64.toInt_inj.mp
        rw [lN_toInt (by omega)]; omega
      have e2 : y.toInt32 = nI y.toInt.toNat := by
        rw [← lN_i]; congr 1
        apply Int64.toInt_inj.mp
        rw [lN_toInt (by omega)]; omega
      have hd := dg_lt s (4 * x.toInt.toNat + y.toInt.toNat)
      rw [e1, e2, bd_n (rc_ageIn F r.s16 (by omega) (by omega) h)]
      by_cases q3 : dg s (4 * x.toInt.toNat + y.toInt.toNat) = 0
      · rw [if_pos (show nI _ = 0 by rw [q3]; rfl), if_pos q3]; rfl
      · rw [if_neg (nI_ne0 (by omega) (by omega)), if_neg q3]; rfl
    · rw [if_pos (b1_0 q2), if_neg (fun z => q2 z.2)]; rfl
  · rw [if_pos (b1_0 q), if_neg (fun z => q z.1)]; rfl
theorem l64 {v : Int64} (h : 0 ≤ v.toInt) (h2 : v.toInt < 2 ^ 31) : v = lN v.toInt.toNat := by
  apply Int64.toInt_inj.mp
  rw [lN_toInt (by omega)]; omega
theorem rc_whyNot (F : Nat) (hF : 2000 ≤ F) {m : Nat} {h : Hp} {H : HM} {s b : Nat} (r : RS h m H s b) (v : Int64) : ∃ h', f_X12_whyNot F m v h = some (nI (dwhy H s b v.toInt), h') ∧ CI m [5, 6] h h' := by
  unfold f_X12_whyNot dwhy
  by_cases q : v = -1
  · rw [if_pos q, if_pos (show v.toInt = -1 by rw [q]; rfl)]
    exact ⟨h, rfl, CI.rf _ _ _⟩
  · rw [if_neg q, if_neg (show ¬ v.toInt = -1 from fun z => q (Int64.toInt_inj.mp z)), bd_n (rc_wi F v 200 209 h)]
    by_cases q2 : 200 ≤ v.toInt ∧ v.toInt ≤ 209
    · rw [if_neg (b1_1 (p := (200 : Int64).toInt ≤ v.toInt ∧ v.toInt ≤ (209 : Int64).toInt) q2), if_pos q2]
      exact ⟨h, rfl, CI.rf _ _ _⟩
    · rw [if_pos (b1_0 (p := (200 : Int64).toInt ≤ v.toInt ∧ v.toInt ≤ (209 : Int64).toInt) q2), if_neg q2, bd_n (rc_wi F v 0 19 h)]
      by_cases q3 : 0 ≤ v.toInt ∧ v.toInt ≤ 19
      · rw [if_neg (b1_1 (p := (0 : Int64).toInt ≤ v.toInt ∧ v.toInt ≤ (19 : Int64).toInt) q3), if_pos q3]
        obtain ⟨k, hk, rfl⟩ : ∃ k, k ≤ 19 ∧ v = lN k := ⟨v.toInt.toNat, by omega, l64 q3.1 (by omega)⟩
        rw [show lN k / 10 = lN (k / 10) from pk_lDiv (b := 10) (by omega) (by decide) (by decide), show lN k - lN (k / 10) * 10 = lN (k % 10) by rw [← show lN k / 10 = lN (k / 10) from pk_lDiv (b := 10) (by omega) (by decide) (by decide)]; exact pk_lRem (b := 10) (by omega) (by decide) (by decide)]
        obtain ⟨h', e, c⟩ := rc_whyTellL F hF r (lN (k / 10)) (lN (k % 10))
        rw [cV_n r.1.1 e]
        refine ⟨h', ?_, c⟩
        rw [lN_toInt (by omega), lN_toInt (by omega), lN_toInt (by omega), Int.toNat_natCast, Int.toNat_natCast, Int.toNat_natCast]
        by_cases q4 : k % 10 < hm_f H
        · rw [if_pos (by omega), if_pos q4]
        · rw [if_neg (by omega), if_neg q4]
      · rw [if_pos (b1_0 (p := (0 : Int64).toInt ≤ v.toInt ∧ v.toInt ≤ (19 : Int64).toInt) q3), if_neg q3, bd_n (rc_wi F v 100 119 h)]
        by_cases q5 : 100 ≤ v.toInt ∧ v.toInt ≤ 119
        · rw [if_neg (b1_1 (p := (100 : Int64).toInt ≤ v.toInt ∧ v.toInt ≤ (119 : Int64).toInt) q5), if_pos q5]
          obtain ⟨k, hk, rfl⟩ : ∃ k, k ≤ 119 ∧ v = lN k := ⟨v.toInt.toNat, by omega, l64 (by omega) (by omega)⟩
          rw [lN_toInt (by omega)] at q5
          rw [show lN k - 100 = lN (k - 100) from lN_sub (b := 100) (by omega), show lN (k - 100) / 10 = lN ((k - 100) / 10) from pk_lDiv (b := 10) (by omega) (by decide) (by decide), show lN k - lN k / 10 * 10 = lN (k % 10) from pk_lRem (b := 10) (by omega) (by decide) (by decide)]
          rw [cV_n r.1.1 (rc_whyForgetL F (by omega) r (lN ((k - 100) / 10)) (lN (k % 10)))]
          refine ⟨h, ?_, CI.rf _ _ _⟩
          rw [lN_toInt (by omega), lN_toInt (by omega), lN_toInt (by omega), Int.toNat_natCast, Int.toNat_natCast, Int.toNat_natCast]
          by_cases q4 : k % 10 < hm_f H
          · rw [if_pos (by omega), if_pos q4]
          · rw [if_neg (by omega), if_neg q4]
        · rw [if_pos (b1_0 (p := (100 : Int64).toInt ≤ v.toInt ∧ v.toInt ≤ (119 : Int64).toInt) q5), if_neg q5]
          exact ⟨h, rfl, CI.rf _ _ _⟩
theorem dwhy_cases {H : HM} {s b : Nat} {v : Int} (h : dwhy H s b v = 0) : v = -1 ∨ (∃ k : Nat, v = k ∧ k ≤ 19 ∧ k % 10 < hm_f H ∧ tel H b s (k / 10) (k % 10) ≠ none) ∨ (∃ k : Nat, v = k ∧ 100 ≤ k ∧ k ≤ 119 ∧ k % 10 < hm_f H) ∨ (∃ k : Nat, v = k ∧ 200 ≤ k ∧ k ≤ 209) := by
  unfold dwhy at h
  by_cases q : v = -1
  · exact Or.inl q
  rw [if_neg q] at h
  by_cases q2 : 200 ≤ v ∧ v ≤ 209
  · exact Or.inr (Or.inr (Or.inr ⟨v.toNat, by omega, by omega, by omega⟩))
  rw [if_neg q2] at h
  by_cases q3 : 0 ≤ v ∧ v ≤ 19
  · rw [if_pos q3] at h
    by_cases q4 : v.toNat % 10 < hm_f H
    · rw [if_pos q4] at h
      by_cases q5 : tel H b s (v.toNat / 10) (v.toNat % 10) = none
      · rw [if_pos q5] at h; omega
      · exact Or.inr (Or.inl ⟨v.toNat, by omega, by omega, q4, q5⟩)
    · rw [if_neg q4] at h; omega
  rw [if_neg q3] at h
  by_cases q6 : 100 ≤ v ∧ v ≤ 119
  · rw [if_pos q6] at h
    by_cases q4 : v.toNat % 10 < hm_f H
    · exact Or.inr (Or.inr (Or.inl ⟨v.toNat, by omega, by omega, by omega, q4⟩))
    · rw [if_neg q4] at h; omega
  · rw [if_neg q6] at h; omega
theorem rc_acts (F : Nat) (hF : 2000 ≤ F) {m : Nat} {h : Hp} {H : HM} {s b : Nat} (r : RS h m H s b) {v : Int} (hv : dwhy H s b v = 0) {x : Int32} (hx : x.toInt = v) : ∃ h', f_X12_acts F m x h = some ((), h') ∧ CI m [1, 5, 6] h h' ∧ RS h' m H (dact H s b v).1 (dact H s b v).2 ∧ ∀ j, (j < 43 ∨ 52 ≤ j) → hp_I h' (m + 1) j = hp_I h (m + 1) j := by
  have h4 := r.f4
  unfold f_X12_acts dact
  rcases dwhy_cases hv with q | ⟨k, rfl, k1, k2, k3⟩ | ⟨k, rfl, k1, k2, k3⟩ | ⟨k, rfl, k1, k2⟩
  · have e : x = -1 := Int32.toInt_inj.mp (by rw [hx, q]; rfl)
    rw [if_pos e, if_pos q, cV_n r.1.1 (r.stand F (by omega)), bd_n (rc_dayTo F (by omega) r.s16 h)]
    obtain ⟨h', e1, c1, r1, w1⟩ := r.isStand F (by omega) r.2.2.2.2.1.dy
    rw [cV_n r.1.1 e1]
    exact ⟨h', rfl, c1.mono (by decide), r1, fun j hj => w1 j (by omega)⟩
  · have e : x = nI k := Int32.toInt_inj.mp (by rw [hx, nI_toInt (by omega)])
    subst e
    rw [if_neg (show ¬ nI k = -1 from fun z => by have := congrArg Int32.toInt z; rw [nI_toInt (by omega)] at this; exact absurd this (by show ¬ (k : Int) = -1; omega)), if_neg (show ¬ (20 : Int32) ≤ nI k from i_ge (a := 20) (by omega) (by decide)), if_neg (by omega), if_pos (by omega), cV_n r.1.1 (r.stand F (by omega)), show nI k / 10 = nI (k / 10) from pk_div (d := 10) (by omega) (by decide) (by decide), show nI k - nI (k / 10) * 10 = nI (k % 10) by rw [← show nI k / 10 = nI (k / 10) from pk_div (d := 10) (by omega) (by decide) (by decide)]; exact pk_rem (d := 10) (by omega) (by decide) (by decide), Int.toNat_natCast]
    cases ht : tel H b s (k / 10) (k % 10) with
    | none => exact absurd ht k3
    | some c =>
      have hc4 : c < 4 := r.2.1.2.2.2.2.1 _ _ _ _ _ _ ht
      obtain ⟨h2, e2, c2⟩ := rc_toldTo F hF r.1 r.2.1 r.2.2.1 r.2.2.2.1 r.2.2.2.2.2 r.2.2.2.2.1 (show k / 10 < 2 by omega) k2 ht
      have r2 := r.ci c2 (by decide)
      obtain ⟨h', e1, c1, r1, w1⟩ := r2.isStand F (by omega) (tos_ok r.2.2.2.2.1 (show k / 10 < 2 by omega) k2 h4 hc4)
      rw [cV_n r.1.1 e2, cV_n r2.1.1 e1]
      refine ⟨h', rfl, (c2.mono (by decide)).tr (c1.mono (by decide)), ?_, fun j hj => ?_⟩
      · unfold tld; rw [ht]; exact r1
      · rw [w1 j (by omega), c2.at (by decide)]
  · have e : x = nI k := Int32.toInt_inj.mp (by rw [hx, nI_toInt (by omega)])
    subst e
    rw [if_neg (show ¬ nI k = -1 from fun z => by have := congrArg Int32.toInt z; rw [nI_toInt (by omega)] at this; exact absurd this (by show ¬ (k : Int) = -1; omega)), if_pos (show (20 : Int32) ≤ nI k from nI_le (a := 20) (by omega) (by omega)), if_neg (show ¬ (120 : Int32) ≤ nI k from i_ge (a := 120) (by omega) (by decide)), if_neg (by omega), if_neg (by omega), if_pos (by omega), Int.toNat_natCast, r.1.g 1 1 (by decide) rfl]
    rw [show nI k - 100 = nI (k - 100) from pk_sub (b := 100) (by omega), show nI (k - 100) / 10 = nI ((k - 100) / 10) from pk_div (d := 10) (by omega) (by decide) (by decide), show nI k - nI k / 10 * 10 = nI (k % 10) from pk_rem (d := 10) (by omega) (by decide) (by decide), r.1.w 1 (43 + 4 * ((k - 100) / 10) + k % 10) (i43 _ _) (by decide) (show _ < 3132 by omega)]
    refine ⟨_, rfl, CI.sI (by decide), r.upd (r.1.sI _ _ _) (fun j hj => ?_) (fun j hj => ?_) ?_ (r.2.2.2.2.1.st (by decide) (fun t f _ _ _ => by omega)) r.2.2.2.2.2, fun j hj => ?_⟩
    · rw [hp_I_sI, if_neg (by omega)]
    · rw [hp_I_sI, dg_st (by decide) hj]
      by_cases q : j = 4 * ((k - 100) / 10) + k % 10
      · rw [if_pos (by omega), if_pos q]; rfl
      · rw [if_neg (by omega), if_neg q]; exact r.2.2.1.2.2.2.2.2.1 j hj
    · rw [hp_I_sI, if_neg (by omega)]; exact r.2.2.1.2.2.2.2.2.2
    · rw [hp_I_sI, if_neg (by omega)]
  · have e : x = nI k := Int32.toInt_inj.mp (by rw [hx, nI_toInt (by omega)])
    subst e
    rw [if_neg (show ¬ nI k = -1 from fun z => by have := congrArg Int32.toInt z; rw [nI_toInt (by omega)] at this; exact absurd this (by show ¬ (k : Int) = -1; omega)), if_pos (show (20 : Int32) ≤ nI k from nI_le (a := 20) (by omega) (by omega)), if_pos (show (120 : Int32) ≤ nI k from nI_le (a := 120) (by omega) (by omega)), if_neg (by omega), if_neg (by omega), if_neg (by omega), Int.toNat_natCast, r.1.g 1 1 (by decide) rfl, show nI k - 200 = nI (k - 200) from pk_sub (b := 200) (by omega), r.1.w 1 51 (show (51 : Int32) = nI 51 from rfl) (by decide) (by decide)]
    refine ⟨_, rfl, CI.sI (by decide), r.upd (r.1.sI _ _ _) (fun j hj => ?_) (fun j hj => ?_) ?_ r.2.2.2.2.1 (show k - 200 < 10 by omega), fun j hj => ?_⟩
    · rw [hp_I_sI, if_neg (by omega)]
    · rw [hp_I_sI, if_neg (by omega)]; exact r.2.2.1.2.2.2.2.2.1 j hj
    · rw [hp_I_sI, if_pos ⟨rfl, rfl⟩]
    · rw [hp_I_sI, if_neg (by omega)]
