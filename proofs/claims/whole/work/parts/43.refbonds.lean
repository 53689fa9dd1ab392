/-! L3: bonds that fit; what to tell next -/
theorem l10 : ∀ k, k < 20 → lN k - lN k / 10 * 10 = lN (k % 10) := by decide +kernel
def ist (H : HM) (v : Int) : Prop := 0 ≤ v ∧ v ≤ 19 ∧ v.toNat % 10 < hm_f H
theorem rc_isTelling (F : Nat) {m : Nat} {h : Hp} {H : HM} {s b : Nat} (rs : RS h m H s b) (v : Int64) : (f_X12_isTelling F m v h = some (1, h) ∧ ist H v.toInt) ∨ (f_X12_isTelling F m v h = some (0, h) ∧ ¬ ist H v.toInt) := by
  have f4 := rs.f4
  unfold f_X12_isTelling
  rw [bd_n (rc_wi F v 0 19 h)]
  by_cases w : (0 : Int64).toInt ≤ v.toInt ∧ v.toInt ≤ (19 : Int64).toInt
  · have w1 : 0 ≤ v.toInt := w.1
    have w2 : v.toInt ≤ 19 := w.2
    rw [if_neg (b1_1 w)]
    have e := l64 w1 (by omega)
    rw [show v - v / 10 * 10 = lN (v.toInt.toNat % 10) by
      rw [e]
      rw [l10 _ (by omega), lN_toInt (by omega)]
      rfl, cV_n rs.1.1 (rc_isFactL F rs.1 (by omega) rs.fc _), lN_toInt (by omega)]
    by_cases y : v.toInt.toNat % 10 < hm_f H
    · rw [if_neg (b1_1 ⟨by omega, by omega⟩)]; exact Or.inl ⟨rfl, w1, w2, y⟩
    · rw [if_pos (b1_0 (fun z => y (by omega)))]; exact Or.inr ⟨rfl, fun z => y z.2.2⟩
  · rw [if_pos (b1_0 w)]; exact Or.inr ⟨rfl, fun z => w ⟨z.1, z.2.1⟩⟩
noncomputable def istb (H : HM) (v : Int) : Bool := @decide (v = -1 ∨ ist H v) (Classical.propDecidable _)
theorem istb_e {H : HM} {v : Int} : istb H v = true ↔ (v = -1 ∨ ist H v) := @decide_eq_true_iff _ (Classical.propDecidable _)
noncomputable def allt (H : HM) (ce : Nat → Int64) : Nat → Nat → Bool
  | _, 0 => true
  | k, q + 1 => istb H (ce k).toInt && allt H ce (k + 1) q
noncomputable def bdk (H : HM) (tr : TRY) (x y z : Int32) : Sum Int32 (Nat × (Nat → Int64) × Nat × Nat) := match tra tr x with
  | none => .inl (trc tr x)
  | some q => if 1 ≤ q.2.1 ∧ q.2.1 ≤ 12 then (if allt H q.2.2 0 q.2.1 = true then (match gsets H y z with | none => .inl (-3) | some p => .inr (q.2.1, q.2.2, p.1, p.2)) else .inl (-3)) else .inl (-4)
theorem bdk_ne {H : HM} {tr : TRY} {x y z c : Int32} (h : bdk H tr x y z = .inl c) : ¬ c = 0 := by
  unfold bdk at h
  cases hq : tra tr x with
  | none => rw [hq] at h; have h := Sum.inl.inj h; rw [← h]; exact trc_ne tr x
  | some q =>
    rw [hq] at h
    dsimp only at h
    by_cases z1 : 1 ≤ q.2.1 ∧ q.2.1 ≤ 12
    · rw [if_pos z1] at h
      by_cases z2 : allt H q.2.2 0 q.2.1 = true
      · rw [if_pos z2] at h
        cases hg : gsets H y z with
        | none => rw [hg] at h; have h := Sum.inl.inj h; rw [← h]; decide
        | some p => rw [hg] at h; cases h
      · rw [if_neg z2] at h; have h := Sum.inl.inj h; rw [← h]; decide
    · rw [if_neg z1] at h; have h := Sum.inl.inj h; rw [← h]; decide
theorem bdk_inr {H : HM} (hd : hm_d H ≤ 6) {tr : TRY} {x y z : Int32} {p : Nat × (Nat → Int64) × Nat × Nat} (h : bdk H tr x y z = .inr p) : 1 ≤ p.1 ∧ p.1 ≤ 12 ∧ y = nI p.2.2.1 ∧ z = nI p.2.2.2 ∧ p.2.2.1 < 64 ∧ p.2.2.2 < 64 ∧ ∃ i so, i < 4 ∧ x = nI i ∧ tr i = some (so, p.1, p.2.1) := by
  unfold bdk at h
  cases hq : tra tr x with
  | none => rw [hq] at h; cases h
  | some q =>
    rw [hq] at h
    dsimp only at h
    by_cases z1 : 1 ≤ q.2.1 ∧ q.2.1 ≤ 12
    · rw [if_pos z1] at h
      by_cases z2 : allt H q.2.2 0 q.2.1 = true
      · rw [if_pos z2] at h
        cases hg : gsets H y z with
        | none => rw [hg] at h; cases h
        | some p' =>
          rw [hg] at h
          have h := Sum.inr.inj h
          subst h
          obtain ⟨i, hi, e, ht⟩ := tra_some hq
          obtain ⟨g1, g2, g3, g4⟩ := gsets_some hd hg
          exact ⟨z1.1, z1.2, g1, g2, g3, g4, i, q.1, hi, e, ht⟩
      · rw [if_neg z2] at h; cases h
    · rw [if_neg z1] at h; cases h
theorem rc_noBonds_r (F : Nat) {m i : Nat} (hi : i < 4) {H : HM} {s b N : Nat} {ce : Nat → Int64} {h : Hp} (hN : N ≤ 12) (rs : RS h m H s b) (h16 : hp_I h (m + 16) i = nI N) (h17 : ∀ k, k < N → hp_L h (m + 17) (40 * i + k) = ce k) (y z : Int32) : ∀ q k n, k + q = N → q < n → f_X12_noBonds_38 F n m (nI i) y z (nI k) h = some ((if allt H ce k q = true then (match gsets H y z with | none => -3 | some _ => 0) else -3), h) := by
  intro q
  induction q with
  | zero =>
    intro k n hk hn
    obtain ⟨n, rfl⟩ : ∃ j, n = j + 1 := ⟨n - 1, by omega⟩
    show f_X12_noBonds_38_b F (f_X12_noBonds_38 F n) m (nI i) y z (nI k) h = _
    unfold f_X12_noBonds_38_b
    rw [rs.1.g 16 33 (by decide) rfl, rs.1.a 16 i rfl (by decide) (show i < 4 from hi), h16, if_pos (nI_le (by omega) (by omega)), cV_n rs.1.1 (rc_areSets F rs y z), if_pos (show allt H ce k 0 = true from rfl)]
    cases gsets H y z with
    | none => rw [if_pos (bsm0 rfl)]
    | some p => rw [if_neg (bsm1 rfl)]
  | succ q ih =>
    intro k n hk hn
    obtain ⟨n, rfl⟩ : ∃ j, n = j + 1 := ⟨n - 1, by omega⟩
    show f_X12_noBonds_38_b F (f_X12_noBonds_38 F n) m (nI i) y z (nI k) h = _
    unfold f_X12_noBonds_38_b f_X12_noBonds_90
    have ih1 := ih (k + 1) n (by omega) (by omega)
    have yes : istb H (ce k).toInt = true → f_X12_noBonds_38 F n m (nI i) y z (nI (k + 1)) h = some ((if allt H ce k (q + 1) = true then (match gsets H y z with | none => -3 | some _ => 0) else -3), h) := fun w => by
      rw [ih1]
      show _ = some ((if (istb H (ce k).toInt && allt H ce (k + 1) q) = true then _ else _), h)
      rw [w]; rfl
    rw [rs.1.g 16 33 (by decide) rfl, rs.1.a 16 i rfl (by decide) (show i < 4 from hi), h16, if_neg (nI_ge (by omega) (by omega)), rs.1.g 17 34 (by decide) rfl, rs.1.la (40 * i + k) (i40 i k) (by omega), h17 k (by omega), nI_1]
    by_cases w : ce k = -1
    · rw [if_pos w]
      exact yes (istb_e.mpr (Or.inl (by rw [w]; rfl)))
    · rw [if_neg w, rs.1.g 17 34 (by decide) rfl, rs.1.la (40 * i + k) (i40 i k) (by omega), h17 k (by omega)]
      rcases rc_isTelling F rs (ce k) with ⟨e1, e2⟩ | ⟨e1, e2⟩
      · rw [cV_n rs.1.1 e1, if_neg (by decide)]
        exact yes (istb_e.mpr (Or.inr e2))
      · rw [cV_n rs.1.1 e1, if_pos rfl]
        show _ = some ((if (istb H (ce k).toInt && allt H ce (k + 1) q) = true then _ else _), h)
        rw [if_neg (fun v => by
          rw [Bool.and_eq_true] at v
          rcases istb_e.mp v.1 with v | v
          · exact w (Int64.toInt_inj.mp (by rw [v]; rfl))
          · exact e2 v)]
theorem rc_noBonds (F : Nat) (hF : 2000 ≤ F) {m : Nat} {H : HM} {s b : Nat} {h : Hp} (rs : RS h m H s b) {tr : TRY} (rt : RT h m tr) (x y z : Int32) : f_X12_noBonds F m x y z h = some (tdc (bdk H tr x y z), h) := by
  unfold f_X12_noBonds bdk
  rw [cV_n rs.1.1 (rc_noTray F rs.1 rt x)]
  cases hq : tra tr x with
  | none => rw [if_neg (trc_ne tr x)]; rfl
  | some q =>
    obtain ⟨i, hi, rfl, hti⟩ := tra_some hq
    have ri := rt i hi
    rw [hti] at ri
    obtain ⟨so, N, ce⟩ := q
    obtain ⟨q1, q2, q3, q4, q5⟩ := ri
    have q4 : N ≤ 40 := q4
    rw [if_pos rfl, rs.1.g 16 33 (by decide) rfl, rs.1.a 16 i rfl (by decide) (show i < 4 from hi), q3, i64_nI (show N < 2 ^ 31 by omega), bd_n (show f_X12_within F (lN N) 1 12 h = _ from rc_within F (a := 1) (b := 12) (by omega) (by decide) (by decide) h)]
    dsimp only
    by_cases w : 1 ≤ N ∧ N ≤ 12
    · rw [if_neg (b1_1 w), if_pos w, show f_X12_noBonds_38 F F m (nI i) y z 0 h = _ from rc_noBonds_r F hi w.2 rs q3 q5 y z N 0 F (by omega) (by omega)]
      by_cases w2 : allt H ce 0 N = true
      · rw [if_pos w2, if_pos w2]
        cases gsets H y z <;> rfl
      · rw [if_neg w2, if_neg w2]; rfl
    · rw [if_pos (b1_0 w), if_neg w]; rfl
/-- a bond fits -/
def bdb (H : HM) (s : Nat) (p : Nat × (Nat → Int64) × Nat × Nat) (bo : Nat) : Bool := decide ((rnT H p.2.1 0 p.1 s bo).1 = p.1) && (decide (dsa H (rnT H p.2.1 0 p.1 s bo).2.2.1 0 = p.2.2.1) && decide (dsa H (rnT H p.2.1 0 p.1 s bo).2.2.1 1 = p.2.2.2))
theorem RS.bond {h : Hp} {m : Nat} {H : HM} {s b : Nat} (r : RS h m H s b) {bo : Nat} (hb : bo < 10) : RS (hp_sI h (m + 1) 51 (nI bo)) m H s bo := by
  refine r.upd (r.1.sI _ _ _) (fun k hk => ?_) (fun k hk => ?_) ?_ r.2.2.2.2.1 hb
  · rw [sI_at, if_neg (by omega)]
  · rw [sI_at, if_neg (by omega)]; exact r.2.2.1.2.2.2.2.2.1 k hk
  · rw [sI_at, if_pos rfl]
theorem rc_bondsOf_r (F : Nat) (hF : 2000 ≤ F) {m i : Nat} (hi : i < 4) {H : HM} {s b so : Nat} {p : Nat × (Nat → Int64) × Nat × Nat} {tr : TRY} (hti : tr i = some (so, p.1, p.2.1)) (hN : p.1 ≤ 40) (ha : p.2.2.1 < 64) (hc : p.2.2.2 < 64) {h0 : Hp} : ∀ q k n (h : Hp), RS h m H s b → RT h m tr → hp_I h (m + 1) = hp_I h0 (m + 1) → (∀ j, j < 9 → hp_I h (m + 7) j = hp_I h0 (m + 1) (43 + j)) → k + q = 10 → q < n → ∃ h', f_X12_bondsOf_10 F n m (nI i) (nI p.2.2.1) (nI p.2.2.2) (nI (msk (bdb H s p) k)) (nI k) h = some (nI (msk (bdb H s p) 10), h') ∧ CI m [0, 1, 5, 6, 7] h h' ∧ hp_I h' (m + 1) = hp_I h0 (m + 1) := by
  intro q
  induction q with
  | zero =>
    intro k n h rs rt hA hw hk hn
    obtain ⟨n, rfl⟩ : ∃ j, n = j + 1 := ⟨n - 1, by omega⟩
    show ∃ h', f_X12_bondsOf_10_b F (f_X12_bondsOf_10 F n) m (nI i) _ _ _ (nI k) h = _ ∧ _
    unfold f_X12_bondsOf_10_b
    rw [if_pos (show (9 : Int32) < nI k from nI_lt (a := 9) (by omega) (by omega)), show k = 10 by omega]
    exact ⟨h, rfl, CI.rf _ _ _, hA⟩
  | succ q ih =>
    intro k n h rs rt hA hw hk hn
    obtain ⟨n, rfl⟩ : ∃ j, n = j + 1 := ⟨n - 1, by omega⟩
    have hk10 : k < 10 := by omega
    have r1 := rs.bond hk10
    have c1 : CI m [0, 1, 5, 6, 7] h (hp_sI h (m + 1) 51 (nI k)) := CI.sI (by decide)
    have t1 : RT (hp_sI h (m + 1) 51 (nI k)) m tr := rt.ci c1 (by decide) (by decide)
    obtain ⟨h2, e2, c2, r2, w19, w2⟩ := rc_tells F hF hi r1 t1 hti
    obtain ⟨h3, e3, c3, w3⟩ := rc_isAgain F (by omega) r2.1
    have hs2 := r2.s16
    have l0 := dsa_lt rs.2.1 (rnT H p.2.1 0 p.1 s k).2.2.1 0
    have l1 := dsa_lt rs.2.1 (rnT H p.2.1 0 p.1 s k).2.2.1 1
    have hle := rnT_le H p.2.1 p.1 0 s k
    have t2 := t1.ci c2 (by decide) (by decide)
    have r16 := t2 i hi
    rw [hti] at r16
    have e16 : hp_I h2 (m + 16) i = nI p.1 := r16.2.2.1
    have ea : hp_I h3 (m + 1) = hp_I h0 (m + 1) := by
      funext j
      rw [w3 j]
      by_cases z : 43 ≤ j ∧ j < 52
      · rw [if_pos z, c2.at (by decide), sI_ne _ _ _ (show m + 7 ≠ m + 1 by omega), hw _ (by omega), show 43 + (j - 43) = j by omega]
      · rw [if_neg z, w2 j (by omega), sI_at, if_neg (by omega), hA]
    have r3 : RS h3 m H s b := rs.eqA (c3.1.SR r2.1) (ea.trans hA.symm)
    have cc : CI m [0, 1, 5, 6, 7] h h3 := (c1.tr (c2.mono (by decide))).tr (c3.mono (by decide))
    have em := or_msk (p := bdb H s p) (n := k) (by omega)
    obtain ⟨h', e, c, w⟩ := ih (k + 1) n h3 r3 (t2.ci c3 (by decide) (by decide)) ea (fun j hj => by rw [c3.at (by decide), c2.at (by decide), sI_ne _ _ _ (show m + 7 ≠ m + 1 by omega), hw j hj]) (by omega) (by omega)
    show ∃ h', f_X12_bondsOf_10_b F (f_X12_bondsOf_10 F n) m (nI i) _ _ _ (nI k) h = _ ∧ _
    unfold f_X12_bondsOf_10_b f_X12_bondsOf_79 f_X12_bondsOf_80
    rw [if_neg (show ¬ (9 : Int32) < nI k from fun z => by have := (nI_ltI (a := 9) (b := k) (by omega) (by omega)).mp z; omega), rs.1.g 1 1 (by decide) rfl, rs.1.w 1 51 (show (51 : Int32) = nI 51 from rfl) (by decide) (by decide), cV_n r1.1.1 e2, r2.1.g 16 33 (by decide) rfl, r2.1.a 16 i rfl (by decide) (show i < 4 from hi), e16, cV_n r2.1.1 (r2.stand F (by omega)), cV_n r2.1.1 (show f_X12_doesAll F m (nI (rnT H p.2.1 0 p.1 s k).2.2.1) 0 h2 = _ from rc_doesAll F (by omega) r2.1 r2.2.1 r2.2.2.1 hs2 (t := 0) (by decide)), cV_n r2.1.1 (r2.stand F (by omega)), cV_n r2.1.1 (show f_X12_doesAll F m (nI (rnT H p.2.1 0 p.1 s k).2.2.1) 1 h2 = _ from rc_doesAll F (by omega) r2.1 r2.2.1 r2.2.2.1 hs2 (t := 1) (by decide)), lt_e, lt_e, cV_n r2.1.1 e3, cV_n r2.1.1 e3, nI_1, shl1 k (by omega)]
    have no : bdb H s p k = false → ∃ h', f_X12_bondsOf_10 F n m (nI i) (nI p.2.2.1) (nI p.2.2.2) (nI (msk (bdb H s p) k) ||| 0) (nI (k + 1)) h3 = some (nI (msk (bdb H s p) 10), h') ∧ CI m [0, 1, 5, 6, 7] h h' ∧ hp_I h' (m + 1) = hp_I h0 (m + 1) := fun z => by
      rw [if_neg (by rw [z]; decide)] at em
      rw [em]
      exact ⟨h', e, cc.tr c, w⟩
    by_cases z1 : (rnT H p.2.1 0 p.1 s k).1 = p.1
    · rw [if_pos (show nI _ = nI p.1 by rw [z1])]
      by_cases z2 : dsa H (rnT H p.2.1 0 p.1 s k).2.2.1 0 = p.2.2.1
      · rw [if_pos (show nI _ = nI p.2.2.1 by rw [z2])]
        by_cases z3 : dsa H (rnT H p.2.1 0 p.1 s k).2.2.1 1 = p.2.2.2
        · rw [if_pos (show nI _ = nI p.2.2.2 by rw [z3])]
          rw [if_pos (show bdb H s p k = true by unfold bdb; rw [decide_eq_true z1, decide_eq_true z2, decide_eq_true z3]; rfl)] at em
          rw [em]
          exact ⟨h', e, cc.tr c, w⟩
        · rw [if_neg (fun y => z3 (nI_inj (by omega) (by omega) y))]
          exact no (by unfold bdb; rw [decide_eq_false z3, Bool.and_false, Bool.and_false])
      · rw [if_neg (fun y => z2 (nI_inj (by omega) (by omega) y))]
        exact no (by unfold bdb; rw [decide_eq_false z2, Bool.false_and, Bool.and_false])
    · rw [if_neg (fun y => z1 (nI_inj (by omega) (by omega) y))]
      exact no (by unfold bdb; rw [decide_eq_false z1, Bool.false_and])
theorem rc_bondsOf (F : Nat) (hF : 2000 ≤ F) {m i : Nat} (hi : i < 4) {H : HM} {s b so : Nat} {p : Nat × (Nat → Int64) × Nat × Nat} {tr : TRY} {h : Hp} (rs : RS h m H s b) (rt : RT h m tr) (hti : tr i = some (so, p.1, p.2.1)) (hN : p.1 ≤ 40) (ha : p.2.2.1 < 64) (hc : p.2.2.2 < 64) : ∃ h', f_X12_bondsOf F m (nI i) (nI p.2.2.1) (nI p.2.2.2) h = some (nI (msk (bdb H s p) 10), h') ∧ CI m [0, 1, 5, 6, 7] h h' ∧ hp_I h' (m + 1) = hp_I h (m + 1) := by
  unfold f_X12_bondsOf
  obtain ⟨h3, e3, c3, w3⟩ := rc_keeps F (by omega) rs.1
  have r3 : RS h3 m H s b := rs.ci c3 (by decide)
  obtain ⟨h', e, c, w⟩ := rc_bondsOf_r F hF hi hti hN ha hc (h0 := h) 10 0 F h3 r3 (rt.ci c3 (by decide) (by decide)) (c3.at (by decide)) w3 (by omega) (by omega)
  rw [cV_n rs.1.1 e3]
  exact ⟨h', e, (c3.mono (by decide)).tr c, w⟩
noncomputable def sp_bonds (H : HM) (s : Nat) (tr : TRY) (x y z : Int32) : Int32 := match bdk H tr x y z with
  | .inl c => c
  | .inr p => nI (msk (bdb H s p) 10)
theorem rc_bonds (F : Nat) (hF : 2000 ≤ F) {m : Nat} {H : HM} {s b : Nat} {h : Hp} (r : RS h m H s b) {tr : TRY} (rt : RT h m tr) (x y z : Int32) : ∃ h', f_X12_bonds F m x y z h = some (sp_bonds H s tr x y z, h') ∧ CI m [0, 1, 5, 6, 7] h h' ∧ hp_I h' (m + 1) = hp_I h (m + 1) := by
  have r1 := r.f 0 0
  have t1 : RT (hp_sI h m 0 0) m tr := rt.ci CI.f0 (by decide) (by decide)
  have c0 : CI m [0, 1, 5, 6, 7] h (hp_sI h m 0 0) := (CI.f0).mono (by decide)
  have fin : hp_I (hp_sI h m 0 0) (m + 1) = hp_I h (m + 1) := f0A h m 0 0 1 (by decide)
  unfold f_X12_bonds sp_bonds
  rw [pI_n r.1.1, cV_n r1.1.1 (rc_noBonds F hF r1 t1 x y z)]
  cases hk : bdk H tr x y z with
  | inl c => rw [if_neg (show ¬ tdc (Sum.inl c) = 0 from bdk_ne hk)]; exact ⟨_, rfl, c0, fin⟩
  | inr p =>
    obtain ⟨p1, p2, p4, p5, p6, p7, i, so, hi, e, ht⟩ := bdk_inr r.d6 hk
    obtain ⟨h', e', c', w'⟩ := rc_bondsOf F hF hi r1 t1 ht (by omega) p6 p7
    rw [if_pos (show tdc (Sum.inr p) = 0 from rfl), e, p4, p5, cV_n r1.1.1 e']
    exact ⟨h', rfl, c0.tr c', w'.trans fin⟩
/-- whether one can be told doesn't hang on the bond -/
def HMn (H : HM) : Prop := ∀ b b' t f k1 k2, b < 10 → b' < 10 → t < 2 → f < hm_f H → k1 ≤ hm_f H → k2 ≤ hm_f H → (hm_c H b t f k1 k2 = none → hm_c H b' t f k1 k2 = none)
/-- the other one's age behind a telling, by the bond -/
def agb (H : HM) (s t f bo : Nat) : Nat := match tld H bo s t f with
  | none => 0
  | some u => dg u (4 * (1 - t) + f)
def cag (H : HM) (s t f S a : Nat) : Nat → Nat := cb (fun bo => S.testBit bo && decide (agb H s t f bo = a))
def mx4 (c : Nat → Nat) : Nat := max (max (max (c 0) (c 1)) (c 2)) (c 3)
theorem agb_lt (H : HM) (s t f bo : Nat) : agb H s t f bo < 4 := by
  unfold agb
  cases tld H bo s t f with
  | none => exact (by decide : (0 : Nat) < 4)
  | some u => exact dg_lt _ _
theorem rc_often15 (F : Nat) {m : Nat} (a b c d e : Int32) : ∀ q k n (h : Hp), SR h m → k + q = 4 → q < n → (∀ j, j < k → hp_I h (m + 13) j = 0) → ∃ h', f_X12_mostOften_15 F n m a b c d e (nI k) h = f_X12_mostOften_38 F F m a b c d e 0 h' ∧ CI m [13] h h' ∧ ∀ j, j < 4 → hp_I h' (m + 13) j = 0 := by
  intro q
  induction q with
  | zero =>
    intro k n h hS hk hn hz
    obtain ⟨n, rfl⟩ : ∃ j, n = j + 1 := ⟨n - 1, by omega⟩
    show ∃ h', f_X12_mostOften_15_b F (f_X12_mostOften_15 F n) m a b c d e (nI k) h = _ ∧ _
    unfold f_X12_mostOften_15_b
    rw [if_pos (show (3 : Int32) < nI k from nI_lt (a := 3) (by omega) (by omega))]
    exact ⟨h, rfl, CI.rf _ _ _, fun j hj => hz j (by omega)⟩
  | succ q ih =>
    intro k n h hS hk hn hz
    obtain ⟨n, rfl⟩ : ∃ j, n = j + 1 := ⟨n - 1, by omega⟩
    show ∃ h', f_X12_mostOften_15_b F (f_X12_mostOften_15 F n) m a b c d e (nI k) h = _ ∧ _
    unfold f_X12_mostOften_15_b
    rw [if_neg (show ¬ (3 : Int32) < nI k from fun z => by have := (nI_ltI (a := 3) (b := k) (by omega) (by omega)).mp z; omega), hS.g 13 30 (by decide) rfl, hS.w 13 k rfl (by decide) (show k < 4 by omega), nI_1]
    obtain ⟨h', e', c', w'⟩ := ih (k + 1) n _ (hS.sI (m + 13) k 0) (by omega) (by omega) (fun j hj => by
      rw [sI_at]
      by_cases z : j = k
      · rw [if_pos z]
      · rw [if_neg z]; exact hz j (by omega))
    exact ⟨h', e', (CI.sI (by decide)).tr c', w'⟩
theorem rc_often38 (F : Nat) (hF : 2000 ≤ F) {m : Nat} {H : HM} {s b0 t f S : Nat} {h0 : Hp} (ht : t < 2) (hf : f < hm_f H) (hS10 : S < 2 ^ 31) (hall : ∀ bo, bo < 10 → tel H bo s t f ≠ none) (h51 : hp_I h0 (m + 1) 51 = nI b0) : ∀ q k n (h : Hp) (b : Nat), RS h m H s b → (∀ j, j ≠ 51 → hp_I h (m + 1) j = hp_I h0 (m + 1) j) → (∀ a, a < 4 → hp_I h (m + 13) a = nI (cag H s t f S a k)) → k + q = 10 → q < n → ∃ h', f_X12_mostOften_38 F n m (nI t) (nI f) (nI S) (nI b0) (nI (mx4 (fun a => cag H s t f S a k))) (nI k) h = some (nI (mx4 (fun a => cag H s t f S a 10)), h') ∧ CI m [1, 5, 6, 13] h h' ∧ hp_I h' (m + 1) = hp_I h0 (m + 1) := by
  intro q
  induction q with
  | zero =>
    intro k n h b rs hA h13 hk hn
    obtain ⟨n, rfl⟩ : ∃ j, n = j + 1 := ⟨n - 1, by omega⟩
    show ∃ h', f_X12_mostOften_38_b F (f_X12_mostOften_38 F n) m _ _ _ _ _ (nI k) h = _ ∧ _
    unfold f_X12_mostOften_38_b
    rw [if_pos (show (9 : Int32) < nI k from nI_lt (a := 9) (by omega) (by omega)), rs.1.g 1 1 (by decide) rfl, rs.1.w 1 51 (show (51 : Int32) = nI 51 from rfl) (by decide) (by decide), show k = 10 by omega]
    refine ⟨_, rfl, CI.sI (by decide), ?_⟩
    funext j
    rw [sI_at]
    by_cases z : j = 51
    · rw [if_pos z, z, h51]
    · rw [if_neg z, hA j z]
  | succ q ih =>
    intro k n h b rs hA h13 hk hn
    obtain ⟨n, rfl⟩ : ∃ j, n = j + 1 := ⟨n - 1, by omega⟩
    have hk10 : k < 10 := by omega
    have f4 := rs.f4
    have r1 := rs.bond hk10
    have c1 : CI m [1, 5, 6, 13] h (hp_sI h (m + 1) 51 (nI k)) := CI.sI (by decide)
    obtain ⟨c, hc⟩ : ∃ c, tel H k s t f = some c := by
      cases hx : tel H k s t f with
      | none => exact absurd hx (hall k hk10)
      | some c => exact ⟨c, rfl⟩
    obtain ⟨h2, e2, c2⟩ := rc_toldTo F hF r1.1 r1.2.1 r1.2.2.1 r1.2.2.2.1 r1.2.2.2.2.2 r1.2.2.2.2.1 ht hf hc
    have r2 := r1.ci c2 (by decide)
    have hc4 : c < 4 := rs.2.1.2.2.2.2.1 _ _ _ _ _ _ hc
    have eag : agb H s t f k = dg (tos s t f c) (4 * (1 - t) + f) := by unfold agb tld; rw [hc]; rfl
    have hal := agb_lt H s t f k
    have hcb : ∀ a, cag H s t f S a k ≤ k := fun a => cb_le _ k
    have e13 : ∀ a, a < 4 → hp_I h2 (m + 13) a = nI (cag H s t f S a k) := fun a ha => by rw [c2.at (by decide), sI_ne _ _ _ (show m + 13 ≠ m + 1 by omega)]; exact h13 a ha
    show ∃ h', f_X12_mostOften_38_b F (f_X12_mostOften_38 F n) m _ _ _ _ _ (nI k) h = _ ∧ _
    unfold f_X12_mostOften_38_b
    rw [if_neg (show ¬ (9 : Int32) < nI k from fun z => by have := (nI_ltI (a := 9) (b := k) (by omega) (by omega)).mp z; omega), rs.1.g 1 1 (by decide) rfl, rs.1.w 1 51 (show (51 : Int32) = nI 51 from rfl) (by decide) (by decide), cV_n r1.1.1 (r1.stand F (by omega)), cV_n r1.1.1 e2, one_sub ht, bd_n (rc_ageIn F (tos_lt hc4) (show 1 - t < 2 by omega) (by omega) h2), ← eag, r2.1.g 13 30 (by decide) rfl, r2.1.a 13 (agb H s t f k) rfl (by decide) (show agb H s t f k < 4 from hal), e13 _ hal, i64_nI hS10, bd_n (rc_isIn F hS10 (by omega) h2)]
    -- the tail with a number d of those added
    have key : ∀ d, d ≤ 1 → d = b2 (S.testBit k) → ∃ h', f_X12_mostOften_96 F (f_X12_mostOften_38 F n) m (nI t) (nI f) (nI S) (nI b0) (nI (mx4 (fun a => cag H s t f S a k))) (nI k) (nI (agb H s t f k)) (nI d) (nI (cag H s t f S (agb H s t f k) k)) (nI (agb H s t f k)) (m + 13) h2 = some (nI (mx4 (fun a => cag H s t f S a 10)), h') ∧ CI m [1, 5, 6, 13] h h' ∧ hp_I h' (m + 1) = hp_I h0 (m + 1) := by
      intro d hd1 hd
      unfold f_X12_mostOften_96 f_X12_mostOften_122
      rw [nI_add, r2.1.w 13 (agb H s t f k) rfl (by decide) (show agb H s t f k < 4 from hal)]
      have S3 := r2.1.sI (m + 13) (agb H s t f k) (nI (cag H s t f S (agb H s t f k) k + d))
      have cs : ∀ a, cag H s t f S a (k + 1) = cag H s t f S a k + (if a = agb H s t f k then d else 0) := fun a => by
        show cb _ k + b2 (S.testBit k && decide (agb H s t f k = a)) = _
        by_cases z : a = agb H s t f k
        · rw [if_pos z, decide_eq_true z.symm, Bool.and_true, hd]; rfl
        · rw [if_neg z, decide_eq_false (fun y => z y.symm), Bool.and_false]; rfl
      have e13' : ∀ a, a < 4 → hp_I (hp_sI h2 (m + 13) (agb H s t f k) (nI (cag H s t f S (agb H s t f k) k + d))) (m + 13) a = nI (cag H s t f S a (k + 1)) := fun a ha => by
        rw [sI_at, cs a]
        by_cases z : a = agb H s t f k
        · rw [if_pos z, if_pos z, z]
        · rw [if_neg z, if_neg z, Nat.add_zero]; exact e13 a ha
      have r3 : RS (hp_sI h2 (m + 13) (agb H s t f k) (nI (cag H s t f S (agb H s t f k) k + d))) m H s k := r2.ci (ks := [13]) (CI.sI (by decide)) (by decide)
      have hA' : ∀ j, j ≠ 51 → hp_I (hp_sI h2 (m + 13) (agb H s t f k) (nI (cag H s t f S (agb H s t f k) k + d))) (m + 1) j = hp_I h0 (m + 1) j := fun j hj => by
        rw [sI_ne _ _ _ (show m + 1 ≠ m + 13 by omega), c2.at (by decide), sI_at, if_neg hj, hA j hj]
      have cc : CI m [1, 5, 6, 13] h (hp_sI h2 (m + 13) (agb H s t f k) (nI (cag H s t f S (agb H s t f k) k + d))) := (c1.tr (c2.mono (by decide))).tr (CI.sI (by decide))
      obtain ⟨h', e, c', w⟩ := ih (k + 1) n _ k r3 hA' e13' (by omega) (by omega)
      have hca := hcb (agb H s t f k)
      have mle : mx4 (fun a => cag H s t f S a k) ≤ 10 := by
        have := hcb 0; have := hcb 1; have := hcb 2; have := hcb 3
        simp only [mx4]; omega
      have mxs : mx4 (fun a => cag H s t f S a (k + 1)) = max (mx4 (fun a => cag H s t f S a k)) (cag H s t f S (agb H s t f k) k + d) := by
        simp only [mx4]
        have i0 := cs 0; have i1 := cs 1; have i2 := cs 2; have i3 := cs 3
        generalize hA0 : agb H s t f k = A at *
        rcases (show A = 0 ∨ A = 1 ∨ A = 2 ∨ A = 3 by omega) with rfl | rfl | rfl | rfl <;> simp only [Nat.reduceEqDiff, if_true, if_false] at i0 i1 i2 i3 <;> omega
      rw [S3.g 13 30 (by decide) rfl, S3.a 13 (agb H s t f k) rfl (by decide) (show agb H s t f k < 4 from hal), sI_at, if_pos rfl, nI_1]
      by_cases z : cag H s t f S (agb H s t f k) k + d ≤ mx4 (fun a => cag H s t f S a k)
      · rw [if_pos (nI_le z (by omega))]
        rw [mxs, show max (mx4 (fun a => cag H s t f S a k)) (cag H s t f S (agb H s t f k) k + d) = mx4 (fun a => cag H s t f S a k) by omega] at e
        exact ⟨h', e, cc.tr c', w⟩
      · rw [if_neg (nI_ge (by omega) (by omega)), S3.g 13 30 (by decide) rfl, S3.a 13 (agb H s t f k) rfl (by decide) (show agb H s t f k < 4 from hal), sI_at, if_pos rfl]
        rw [mxs, show max (mx4 (fun a => cag H s t f S a k)) (cag H s t f S (agb H s t f k) k + d) = cag H s t f S (agb H s t f k) k + d by omega] at e
        exact ⟨h', e, cc.tr c', w⟩
    by_cases z : S.testBit k = true
    · rw [if_neg (b1_1 z)]
      exact key 1 (Nat.le_refl _) (by rw [z]; rfl)
    · rw [if_pos (b1_0 z)]
      exact key 0 (by omega) (by rw [Bool.not_eq_true _ |>.mp z]; rfl)
/-- how many bonds a telling leaves at worst -/
def mof (H : HM) (s t f S : Nat) : Nat := mx4 (fun a => cag H s t f S a 10)
theorem rc_mostOften (F : Nat) (hF : 2000 ≤ F) {m : Nat} {H : HM} {s b t f S : Nat} {h : Hp} (rs : RS h m H s b) (ht : t < 2) (hf : f < hm_f H) (hS : S < 2 ^ 31) (hall : ∀ bo, bo < 10 → tel H bo s t f ≠ none) : ∃ h', f_X12_mostOften F m (nI t) (nI f) (nI S) h = some (nI (mof H s t f S), h') ∧ CI m [1, 5, 6, 13] h h' ∧ hp_I h' (m + 1) = hp_I h (m + 1) := by
  unfold f_X12_mostOften
  have h51 := rs.2.2.1.2.2.2.2.2.2
  rw [rs.1.g 1 1 (by decide) rfl, rs.1.a 1 51 (show (51 : Int32) = nI 51 from rfl) (by decide) (by decide), h51]
  obtain ⟨h1, e1, c1, w1⟩ := rc_often15 F (m := m) (nI t) (nI f) (nI S) (nI b) 0 4 0 F h rs.1 (by omega) (by omega) (fun j hj => absurd hj (by omega))
  rw [show f_X12_mostOften_15 F F m (nI t) (nI f) (nI S) (nI b) 0 0 h = _ from e1]
  have r1 := rs.ci c1 (by decide)
  obtain ⟨h', e, c, w⟩ := rc_often38 F hF (h0 := h) ht hf hS hall h51 10 0 F h1 b r1 (fun j _ => by rw [c1.at (by decide)]) (fun a ha => by rw [w1 a ha]; rfl) (by omega) (by omega)
  exact ⟨h', e, (c1.mono (by decide)).tr c, w⟩
def attr (H : HM) (s b S : Nat) : Nat → Nat → Int32 → Nat → Int32
  | _, 0, v, _ => v
  | k, q + 1, v, l => if k % 4 < hm_f H ∧ tel H b s (k / 4) (k % 4) ≠ none then (if mof H s (k / 4) (k % 4) S < l then attr H s b S (k + 1) q (tm k) (mof H s (k / 4) (k % 4) S) else attr H s b S (k + 1) q v l) else attr H s b S (k + 1) q v l
theorem rc_attempt_r (F : Nat) (hF : 2000 ≤ F) {m : Nat} {H : HM} (hn : HMn H) {s b S : Nat} (hS : S < 2 ^ 31) (hS0 : S ≠ 0) {h0 : Hp} : ∀ q k n (h : Hp) (v : Int32) (l : Nat), RS h m H s b → hp_I h (m + 1) = hp_I h0 (m + 1) → k + q = 8 → q < n → l ≤ 11 → ∃ h', f_X12_attempt_41 F n m (nI S) v (nI l) (nI k) h = some (attr H s b S k q v l, h') ∧ CI m [1, 5, 6, 13] h h' ∧ hp_I h' (m + 1) = hp_I h0 (m + 1) := by
  intro q
  induction q with
  | zero =>
    intro k n h v l rs hA hk hn' hl
    obtain ⟨n, rfl⟩ : ∃ j, n = j + 1 := ⟨n - 1, by omega⟩
    show ∃ h', f_X12_attempt_41_b F (f_X12_attempt_41 F n) m _ v (nI l) (nI k) h = _ ∧ _
    unfold f_X12_attempt_41_b
    rw [if_pos (show (8 : Int32) ≤ nI k from nI_le (a := 8) (by omega) (by omega))]
    exact ⟨h, rfl, CI.rf _ _ _, hA⟩
  | succ q ih =>
    intro k n h v l rs hA hk hn' hl
    obtain ⟨n, rfl⟩ : ∃ j, n = j + 1 := ⟨n - 1, by omega⟩
    have f4 := rs.f4
    have hs := rs.2.2.2.2.1
    show ∃ h', f_X12_attempt_41_b F (f_X12_attempt_41 F n) m _ v (nI l) (nI k) h = some (attr H s b S k (q + 1) v l, h') ∧ _
    unfold f_X12_attempt_41_b f_X12_attempt_125
    rw [if_neg (show ¬ (8 : Int32) ≤ nI k from i_ge (a := 8) (by omega) (by decide)), if_neg (nI_ne0 (by omega) hS), lt_e, (k4 k (by omega)).2, (k4 k (by omega)).1, rs.1.g 1 1 (by decide) rfl, rs.1.a 1 1 (show (1 : Int32) = nI 1 from rfl) (by decide) (by decide), rs.fc, nI_1]
    unfold attr
    by_cases z : k % 4 < hm_f H
    · obtain ⟨h2, e2, c2⟩ := rc_mayTell F hF rs.1 rs.2.1 rs.2.2.1 rs.2.2.2.1 rs.2.2.2.2.2 hs (t := k / 4) (by omega) z
      have r2 := rs.ci c2 (by decide)
      have hA2 : hp_I h2 (m + 1) = hp_I h0 (m + 1) := by rw [c2.at (by decide), hA]
      rw [if_neg (nI_ge z (by omega)), cV_n rs.1.1 (rs.stand F (by omega)), cV_n rs.1.1 e2]
      cases ht : tel H b s (k / 4) (k % 4) with
      | none =>
        rw [if_pos (bsm0 rfl), if_neg (fun y => y.2 rfl)]
        obtain ⟨h', e, c, w⟩ := ih (k + 1) n h2 v l r2 hA2 (by omega) (by omega) hl
        exact ⟨h', e, (c2.mono (by decide)).tr c, w⟩
      | some c =>
        have hall : ∀ bo, bo < 10 → tel H bo s (k / 4) (k % 4) ≠ none := fun bo hbo y => by
          have := hn bo b (k / 4) (k % 4) _ _ hbo rs.2.2.2.2.2 (by omega) z (kn_f hs (by omega) f4) (kn_f hs (by omega) f4) y
          unfold tel at ht
          rw [this] at ht; cases ht
        obtain ⟨h3, e3, c3, w3⟩ := rc_mostOften F hF r2 (t := k / 4) (by omega) z hS hall
        have r3 : RS h3 m H s b := r2.eqA (c3.1.SR r2.1) w3
        have hmo : mof H s (k / 4) (k % 4) S ≤ 10 := by
          have hcb : ∀ a, cag H s (k / 4) (k % 4) S a 10 ≤ 10 := fun a => cb_le _ 10
          have := hcb 0; have := hcb 1; have := hcb 2; have := hcb 3
          simp only [mof, mx4]; omega
        rw [if_neg (bsm1 rfl), if_pos ⟨z, by simp⟩, cV_n r2.1.1 e3]
        have cc : CI m [1, 5, 6, 13] h h3 := (c2.mono (by decide)).tr c3
        by_cases y : mof H s (k / 4) (k % 4) S < l
        · rw [if_pos (nI_lt y (by omega)), if_pos y, bd_n (rc_toldMove F (by omega) h3)]
          obtain ⟨h', e, c, w⟩ := ih (k + 1) n h3 (tm k) (mof H s (k / 4) (k % 4) S) r3 (w3.trans hA2) (by omega) (by omega) (by omega)
          exact ⟨h', e, cc.tr c, w⟩
        · rw [if_neg (fun x => y ((nI_ltI (by omega) (by omega)).mp x)), if_neg y]
          obtain ⟨h', e, c, w⟩ := ih (k + 1) n h3 v l r3 (w3.trans hA2) (by omega) (by omega) hl
          exact ⟨h', e, cc.tr c, w⟩
    · rw [if_pos (nI_le (by omega) (by omega)), if_neg (fun y => z y.1)]
      exact ih (k + 1) n h v l rs hA (by omega) (by omega) hl
noncomputable def sp_attempt (H : HM) (s b : Nat) (tr : TRY) (x y z : Int32) : Int32 := match bdk H tr x y z with
  | .inl c => c
  | .inr p => if msk (bdb H s p) 10 = 0 then -1 else attr H s b (msk (bdb H s p) 10) 0 8 (-1) 11
theorem rc_attempt (F : Nat) (hF : 2000 ≤ F) {m : Nat} {H : HM} (hn : HMn H) {s b : Nat} {h : Hp} (r : RS h m H s b) {tr : TRY} (rt : RT h m tr) (x y z : Int32) : ∃ h', f_X12_attempt F m x y z h = some (sp_attempt H s b tr x y z, h') ∧ CI m [0, 1, 5, 6, 7, 13] h h' ∧ hp_I h' (m + 1) = hp_I h (m + 1) := by
  have r1 := r.f 0 0
  have t1 : RT (hp_sI h m 0 0) m tr := rt.ci CI.f0 (by decide) (by decide)
  have c0 : CI m [0, 1, 5, 6, 7, 13] h (hp_sI h m 0 0) := (CI.f0).mono (by decide)
  have fin : hp_I (hp_sI h m 0 0) (m + 1) = hp_I h (m + 1) := f0A h m 0 0 1 (by decide)
  unfold f_X12_attempt sp_attempt
  rw [pI_n r.1.1, cV_n r1.1.1 (rc_noBonds F hF r1 t1 x y z)]
  cases hk : bdk H tr x y z with
  | inl c => rw [if_neg (show ¬ tdc (Sum.inl c) = 0 from bdk_ne hk)]; exact ⟨_, rfl, c0, fin⟩
  | inr p =>
    obtain ⟨p1, p2, p4, p5, p6, p7, i, so, hi, e, ht⟩ := bdk_inr r.d6 hk
    obtain ⟨h2, e2, c2, w2⟩ := rc_bondsOf F hF hi r1 t1 ht (by omega) p6 p7
    have r2 : RS h2 m H s b := r1.eqA (c2.1.SR r1.1) w2
    have hS := msk_lt (bdb H s p) 10
    rw [if_pos (show tdc (Sum.inr p) = 0 from rfl), e, p4, p5, cV_n r1.1.1 e2]
    dsimp only
    by_cases z0 : msk (bdb H s p) 10 = 0
    · rw [if_pos z0]
      obtain ⟨F', hF'⟩ : ∃ G, F = G + 1 := ⟨F - 1, by omega⟩
      refine ⟨h2, ?_, c0.tr (c2.mono (by decide)), w2.trans fin⟩
      rw [show f_X12_attempt_41 F F = f_X12_attempt_41 F (F' + 1) by rw [← hF']]
      show f_X12_attempt_41_b F _ m _ _ _ _ h2 = _
      unfold f_X12_attempt_41_b
      rw [if_neg (by decide), if_pos (show nI _ = 0 by rw [z0]; rfl)]
    · rw [if_neg z0]
      obtain ⟨h', e', c', w'⟩ := rc_attempt_r F hF hn (by omega) z0 (h0 := h2) 8 0 F h2 (-1) 11 r2 rfl (by omega) (by omega) (by omega)
      exact ⟨h', e', (c0.tr (c2.mono (by decide))).tr (c'.mono (by decide)), w'.trans (w2.trans fin)⟩
