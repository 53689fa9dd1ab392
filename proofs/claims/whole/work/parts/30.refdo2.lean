/-! L3: forget, bond, days, undo, in the reference -/
theorem RP.f {h : Hp} {m : Nat} {H : HM} {s b n : Nat} {ps : Nat → Nat × Nat} (r : RP h m H s b n ps) (k : Nat) (v : Int32) : RP (hp_sI h m k v) m H s b n ps := ⟨r.1.f k v, by rw [f0A h m k v 1 (by decide)]; exact r.2.1, r.2.2⟩
/-- the state behind a call: of the same kind, or noted -/
def RPo (h' : Hp) (m : Nat) (H : HM) (s b n : Nat) (ps : Nat → Nat × Nat) (o : Option (Nat × Nat)) : Prop := match o with
  | none => RP h' m H s b n ps
  | some q => RP h' m H q.1 q.2 (pun n) (pus n ps (s, b))
def sp_forget (H : HM) (s b : Nat) (x y : Int32) : Int32 × Option (Nat × Nat) := match vi x 2, vi y (hm_f H) with
  | some t, some f => if dg s (4 * t + f) = 0 then (-12, none) else (nI (dg s (4 * t + f)), some (st4 s (4 * t + f) 0, b))
  | _, _ => (-11, none)
theorem rc_forget (F : Nat) (hF : 2000 ≤ F) {m : Nat} {h : Hp} {H : HM} {s b n : Nat} {ps : Nat → Nat × Nat} (r : RP h m H s b n ps) (x y : Int32) : ∃ h', f_X12_forget F m x y h = some ((sp_forget H s b x y).1, h') ∧ CI m [0, 1, 5, 6, 7] h h' ∧ RPo h' m H s b n ps (sp_forget H s b x y).2 ∧ ∀ j, 143 ≤ j → hp_I h' (m + 1) j = hp_I h (m + 1) j := by
  have h4 := r.1.f4
  have r1 := r.f 0 0
  have c0 : CI m [0, 1, 5, 6, 7] h (hp_sI h m 0 0) := (CI.f0).mono (by decide)
  have e2 := rc_whyForgetL F (by omega) r1.1 x.toInt64 y.toInt64
  rw [i64_toInt, i64_toInt] at e2
  unfold f_X12_forget sp_forget
  rw [pI_n r.1.1.1, cV_n r1.1.1.1 e2]
  have fin : ∀ j, 143 ≤ j → hp_I (hp_sI h m 0 0) (m + 1) j = hp_I h (m + 1) j := fun j _ => by rw [f0A h m 0 0 1 (by decide)]
  cases hx : vi x 2 with
  | none =>
    rw [if_neg (show ¬ ((0 ≤ x.toInt ∧ x.toInt ≤ 1) ∧ 0 ≤ y.toInt ∧ y.toInt < hm_f H) from fun z => vi_none hx (by omega)), if_neg (show ¬ nI 1 = 0 by decide)]
    exact ⟨_, rfl, c0, r1, fin⟩
  | some t =>
    obtain ⟨t1, t2⟩ := vi_some hx
    cases hy : vi y (hm_f H) with
    | none =>
      rw [if_neg (show ¬ ((0 ≤ x.toInt ∧ x.toInt ≤ 1) ∧ 0 ≤ y.toInt ∧ y.toInt < hm_f H) from fun z => vi_none hy z.2), if_neg (show ¬ nI 1 = 0 by decide)]
      exact ⟨_, rfl, c0, r1, fin⟩
    | some f =>
      obtain ⟨f1, f2⟩ := vi_some hy
      dsimp only
      have ex : x.toInt = t := by rw [t2, nI_toInt (by omega)]
      have ey : y.toInt = f := by rw [f2, nI_toInt (by omega)]
      rw [if_pos (show (0 ≤ x.toInt ∧ x.toInt ≤ 1) ∧ 0 ≤ y.toInt ∧ y.toInt < hm_f H by omega), ex, ey, Int.toNat_natCast, Int.toNat_natCast]
      by_cases q : dg s (4 * t + f) = 0
      · rw [if_pos q, if_pos q, if_neg (show ¬ nI 2 = 0 by decide)]
        exact ⟨_, rfl, c0, r1, fin⟩
      · rw [if_neg q, if_neg q, if_pos (show nI 0 = 0 from rfl)]
        obtain ⟨h3, e3, c3, w3⟩ := rc_keeps F (by omega) r1.1.1
        have r3 : RP h3 m H s b n ps := r1.ci c3 (by decide)
        rw [cV_n r1.1.1.1 e3, r3.1.1.g 1 1 (by decide) rfl, t2, f2, r3.1.1.w 1 (43 + 4 * t + f) (i43 t f) (by decide) (show 43 + 4 * t + f < 3132 by omega)]
        have c4 : CI m [1] h3 (hp_sI h3 (m + 1) (43 + 4 * t + f) 0) := CI.sI (by decide)
        have r4 : RS (hp_sI h3 (m + 1) (43 + 4 * t + f) 0) m H (st4 s (4 * t + f) 0) b := by
          refine r3.1.upd (r3.1.1.sI _ _ _) (fun j hj => ?_) (fun j hj => ?_) ?_ (r.1.2.2.2.2.1.st (by decide) (fun t' f' _ _ _ => by omega)) r.1.2.2.2.2.2
          · rw [hp_I_sI, if_neg (by omega)]
          · rw [hp_I_sI, dg_st (by decide) hj]
            by_cases q5 : j = 4 * t + f
            · rw [if_pos (by omega), if_pos q5]; rfl
            · rw [if_neg (by omega), if_neg q5]; exact r3.1.2.2.1.2.2.2.2.2.1 j hj
          · rw [hp_I_sI, if_neg (by omega)]; exact r3.1.2.2.1.2.2.2.2.2.2
        obtain ⟨h7, e7, c7, r7, w7⟩ := RP.note F (by omega) r3 r4 (fun j hj => by rw [hp_I_sI, if_neg (by omega)]) (fun j hj => by
          rw [c4.at (by decide), w3 j hj, c3.at (by decide)])
        rw [cV_n r4.1.1 e7, r7.1.1.g 7 18 (by decide) rfl, r7.1.1.a 7 (4 * t + f) (show 4 * nI t + nI f = nI (4 * t + f) by rw [show 4 * nI t = nI (4 * t) from pk_mul 4 t, nI_add]) (by decide) (show 4 * t + f < 9 by omega)]
        rw [show hp_I h7 (m + 7) (4 * t + f) = nI (dg s (4 * t + f)) by rw [c7.at (by decide), c4.at (by decide), w3 _ (by omega)]; exact r1.1.2.2.1.2.2.2.2.2.1 _ (by omega)]
        refine ⟨h7, rfl, ((c0.tr (c3.mono (by decide))).tr (c4.mono (by decide))).tr (c7.mono (by decide)), r7, fun j hj => ?_⟩
        rw [w7 j (by omega), hp_I_sI, if_neg (by omega), c3.at (by decide), fin j hj]
def sp_bond (s b : Nat) (x : Int32) : Int32 × Option (Nat × Nat) := match vi x 10 with
  | some k => (nI b, some (s, k))
  | none => (-11, none)
theorem rc_bond (F : Nat) (hF : 2000 ≤ F) {m : Nat} {h : Hp} {H : HM} {s b n : Nat} {ps : Nat → Nat × Nat} (r : RP h m H s b n ps) (x : Int32) : ∃ h', f_X12_bond F m x h = some ((sp_bond s b x).1, h') ∧ CI m [0, 1, 5, 6, 7] h h' ∧ RPo h' m H s b n ps (sp_bond s b x).2 ∧ ∀ j, 143 ≤ j → hp_I h' (m + 1) j = hp_I h (m + 1) j := by
  have r1 := r.f 0 0
  have c0 : CI m [0, 1, 5, 6, 7] h (hp_sI h m 0 0) := (CI.f0).mono (by decide)
  have fin : ∀ j, 143 ≤ j → hp_I (hp_sI h m 0 0) (m + 1) j = hp_I h (m + 1) j := fun j _ => by rw [f0A h m 0 0 1 (by decide)]
  unfold f_X12_bond sp_bond
  rw [pI_n r.1.1.1, bd_n (rc_wi F x.toInt64 0 9 _), i64_toInt]
  cases hx : vi x 10 with
  | none =>
    rw [if_pos (b1_0 (fun z : (0 : Int64).toInt ≤ x.toInt ∧ x.toInt ≤ (9 : Int64).toInt => vi_none hx ⟨z.1, by have : x.toInt ≤ 9 := z.2; omega⟩))]
    exact ⟨_, rfl, c0, r1, fin⟩
  | some k =>
    obtain ⟨k1, k2⟩ := vi_some hx
    have ex : x.toInt = k := by rw [k2, nI_toInt (by omega)]
    rw [if_neg (b1_1 (show (0 : Int64).toInt ≤ x.toInt ∧ x.toInt ≤ (9 : Int64).toInt from ⟨by show 0 ≤ x.toInt; omega, by show x.toInt ≤ 9; omega⟩))]
    obtain ⟨h3, e3, c3, w3⟩ := rc_keeps F (by omega) r1.1.1
    have r3 : RP h3 m H s b n ps := r1.ci c3 (by decide)
    rw [cV_n r1.1.1.1 e3, r3.1.1.g 1 1 (by decide) rfl, k2, r3.1.1.w 1 51 (show (51 : Int32) = nI 51 from rfl) (by decide) (by decide)]
    have c4 : CI m [1] h3 (hp_sI h3 (m + 1) 51 (nI k)) := CI.sI (by decide)
    have r4 : RS (hp_sI h3 (m + 1) 51 (nI k)) m H s k := by
      refine r3.1.upd (r3.1.1.sI _ _ _) (fun j hj => ?_) (fun j hj => ?_) ?_ r.1.2.2.2.2.1 k1
      · rw [hp_I_sI, if_neg (by omega)]
      · rw [hp_I_sI, if_neg (by omega)]; exact r3.1.2.2.1.2.2.2.2.2.1 j hj
      · rw [hp_I_sI, if_pos ⟨rfl, rfl⟩]
    obtain ⟨h7, e7, c7, r7, w7⟩ := RP.note F (by omega) r3 r4 (fun j hj => by rw [hp_I_sI, if_neg (by omega)]) (fun j hj => by
      rw [c4.at (by decide), w3 j hj, c3.at (by decide)])
    rw [cV_n r4.1.1 e7, r7.1.1.g 7 18 (by decide) rfl, r7.1.1.a 7 8 (show (8 : Int32) = nI 8 from rfl) (by decide) (by decide)]
    rw [show hp_I h7 (m + 7) 8 = nI b by rw [c7.at (by decide), c4.at (by decide), w3 _ (by omega)]; exact r1.1.2.2.1.2.2.2.2.2.2]
    refine ⟨h7, rfl, ((c0.tr (c3.mono (by decide))).tr (c4.mono (by decide))).tr (c7.mono (by decide)), r7, fun j hj => ?_⟩
    rw [w7 j (by omega), hp_I_sI, if_neg (by omega), c3.at (by decide), fin j hj]
/-- days -/
def dyn : Nat → Nat → Nat
  | 0, s => s
  | k + 1, s => dyn k (dy s)
theorem dyn_ok {H : HM} : ∀ k {s : Nat}, STok H s → STok H (dyn k s) := by
  intro k
  induction k with
  | zero => intro s h; exact h
  | succ k ih => intro s h; exact ih h.dy
/-- a number between a and c -/
def vb (x : Int32) (a c : Nat) : Option Nat := if (a : Int) ≤ x.toInt ∧ x.toInt ≤ c then some x.toInt.toNat else none
theorem vb_some {x : Int32} {a c j : Nat} (h : vb x a c = some j) : a ≤ j ∧ j ≤ c ∧ x = nI j ∧ x.toInt = j := by
  unfold vb at h
  by_cases q : (a : Int) ≤ x.toInt ∧ x.toInt ≤ c
  · rw [if_pos q] at h
    cases h
    refine ⟨by omega, by omega, ?_, by omega⟩
    apply Int32.toInt_inj.mp
    have := x.toInt_lt
    rw [nI_toInt (by omega)]
    omega
  · rw [if_neg q] at h; cases h
theorem vb_none {x : Int32} {a c : Nat} (h : vb x a c = none) : ¬ ((a : Int) ≤ x.toInt ∧ x.toInt ≤ c) := by
  unfold vb at h
  by_cases q : (a : Int) ≤ x.toInt ∧ x.toInt ≤ c
  · rw [if_pos q] at h; cases h
  · exact q
theorem rc_wb (F : Nat) (x : Int32) {a c : Nat} (ha : a < 2 ^ 31) (hc : c < 2 ^ 31) (h : Hp) : f_X12_within F x.toInt64 (lN a) (lN c) h = some (nI (bsm (vb x a c)), h) := by
  rw [rc_wi, i64_toInt, lN_toInt ha, lN_toInt hc]
  unfold b1 vb
  by_cases q : (a : Int) ≤ x.toInt ∧ x.toInt ≤ c
  · rw [if_pos q, if_pos q]; rfl
  · rw [if_neg q, if_neg q]; rfl
def pb2 (H : HM) (s : Nat) : Nat := pc (dsa H s 0) + pc (dsa H s 1)
theorem rc_days_r (F : Nat) (hF : 2000 ≤ F) {m : Nat} {h0 : Hp} {H : HM} {s0 b n0 : Nat} {ps : Nat → Nat × Nat} (r0 : RP h0 m H s0 b n0 ps) {N : Nat} (hN : N ≤ 99) : ∀ r k n (h : Hp) (s : Nat), k + r = N → r < n → RS h m H s b → (∀ j, (52 ≤ j) → hp_I h (m + 1) j = hp_I h0 (m + 1) j) → (∀ j, j < 9 → hp_I h (m + 7) j = hp_I h0 (m + 1) (43 + j)) → ∃ h', f_X12_days_26 F n m (nI N) (nI k) h = some (nI (pb2 H (dyn r s)), h') ∧ CI m [1] h h' ∧ RP h' m H (dyn r s) b (pun n0) (pus n0 ps (s0, b)) ∧ ∀ j, 143 ≤ j → hp_I h' (m + 1) j = hp_I h0 (m + 1) j := by
  intro r
  induction r with
  | zero =>
    intro k n h s hk hn rs hA hw
    obtain ⟨n, rfl⟩ : ∃ j, n = j + 1 := ⟨n - 1, by omega⟩
    show ∃ h', f_X12_days_26_b F (f_X12_days_26 F n) m (nI N) (nI k) h = _ ∧ _
    unfold f_X12_days_26_b
    obtain ⟨h7, e7, c7, r7, w7⟩ := RP.note F (by omega) r0 rs (fun j hj => hA j hj.1) hw
    rw [if_pos (nI_le (by omega) (by omega)), cV_n rs.1.1 e7, cV_n r7.1.1.1 (r7.1.stand F (by omega)), cV_n r7.1.1.1 (rc_doesBoth F (by omega) r7.1.1 r7.1.2.1 r7.1.2.2.1 r7.1.s16)]
    exact ⟨h7, rfl, c7, r7, fun j hj => by rw [w7 j (by omega), hA j (by omega)]⟩
  | succ r ih =>
    intro k n h s hk hn rs hA hw
    obtain ⟨n, rfl⟩ : ∃ j, n = j + 1 := ⟨n - 1, by omega⟩
    show ∃ h', f_X12_days_26_b F (f_X12_days_26 F n) m (nI N) (nI k) h = _ ∧ _
    unfold f_X12_days_26_b
    obtain ⟨h1, e1, c1, r1, w1⟩ := rs.isStand F (by omega) rs.2.2.2.2.1.dy
    rw [if_neg (nI_ge (by omega) (by omega)), cV_n rs.1.1 (rs.stand F (by omega)), bd_n (rc_dayTo F (by omega) rs.s16 h), cV_n rs.1.1 e1, nI_1]
    obtain ⟨h', e, c, rp, w⟩ := ih (k + 1) n h1 (dy s) (by omega) (by omega) r1 (fun j hj => by rw [w1 j (by omega), hA j hj]) (fun j hj => by rw [c1.at (by decide), hw j hj])
    exact ⟨h', e, c1.tr c, rp, w⟩
def sp_days (H : HM) (s b : Nat) (x : Int32) : Int32 × Option (Nat × Nat) := match vb x 1 99 with
  | some k => (nI (pb2 H (dyn k s)), some (dyn k s, b))
  | none => (-3, none)
theorem rc_days (F : Nat) (hF : 2000 ≤ F) {m : Nat} {h : Hp} {H : HM} {s b n : Nat} {ps : Nat → Nat × Nat} (r : RP h m H s b n ps) (x : Int32) : ∃ h', f_X12_days F m x h = some ((sp_days H s b x).1, h') ∧ CI m [0, 1, 5, 6, 7] h h' ∧ RPo h' m H s b n ps (sp_days H s b x).2 ∧ ∀ j, 143 ≤ j → hp_I h' (m + 1) j = hp_I h (m + 1) j := by
  have r1 := r.f 0 0
  have c0 : CI m [0, 1, 5, 6, 7] h (hp_sI h m 0 0) := (CI.f0).mono (by decide)
  have fin : ∀ j, hp_I (hp_sI h m 0 0) (m + 1) j = hp_I h (m + 1) j := fun j => by rw [f0A h m 0 0 1 (by decide)]
  unfold f_X12_days sp_days
  rw [pI_n r.1.1.1, bd_n (show f_X12_within F x.toInt64 1 99 _ = _ from rc_wb F x (a := 1) (c := 99) (by decide) (by decide) _)]
  cases hx : vb x 1 99 with
  | none => rw [if_pos (bsm0 rfl)]; exact ⟨_, rfl, c0, r1, fun j _ => fin j⟩
  | some k =>
    obtain ⟨k1, k2, k3, -⟩ := vb_some hx
    obtain ⟨h3, e3, c3, w3⟩ := rc_keeps F (by omega) r1.1.1
    have r3 : RP h3 m H s b n ps := r1.ci c3 (by decide)
    rw [if_neg (bsm1 rfl), cV_n r1.1.1.1 e3, k3]
    obtain ⟨h', e, c, rp, w⟩ := rc_days_r F hF r3 k2 k 0 F h3 s (by omega) (by omega) r3.1 (fun _ _ => rfl) (fun j hj => by rw [w3 j hj, c3.at (by decide)])
    refine ⟨h', e, (c0.tr (c3.mono (by decide))).tr (c.mono (by decide)), rp, fun j hj => ?_⟩
    rw [w j hj, c3.at (by decide), fin j]
theorem rc_undo_r (F : Nat) {m p : Nat} (hp : p < 10) : ∀ r k n (h : Hp), SR h m → hp_I h (m + 1) 52 = nI p → k + r = 9 → r < n → ∃ h', f_X12_undo_44 F n m (nI k) h = some (nI p, h') ∧ CI m [1] h h' ∧ ∀ j, hp_I h' (m + 1) j = if 43 + k ≤ j ∧ j < 52 then hp_I h (m + 1) (j + 10 + 9 * p) else hp_I h (m + 1) j := by
  intro r
  induction r with
  | zero =>
    intro k n h hS h52 hk hn
    obtain ⟨n, rfl⟩ : ∃ j, n = j + 1 := ⟨n - 1, by omega⟩
    show ∃ h', f_X12_undo_44_b F (f_X12_undo_44 F n) m (nI k) h = _ ∧ _
    unfold f_X12_undo_44_b
    rw [if_pos (show (9 : Int32) ≤ nI k by rw [show k = 9 by omega]; decide), hS.g 1 1 (by decide) rfl, hS.a 1 52 (show (52 : Int32) = nI 52 from rfl) (by decide) (by decide), h52]
    exact ⟨h, rfl, CI.rf _ _ _, fun j => by rw [if_neg (by omega)]⟩
  | succ r ih =>
    intro k n h hS h52 hk hn
    obtain ⟨n, rfl⟩ : ∃ j, n = j + 1 := ⟨n - 1, by omega⟩
    show ∃ h', f_X12_undo_44_b F (f_X12_undo_44 F n) m (nI k) h = _ ∧ _
    unfold f_X12_undo_44_b
    rw [if_neg (show ¬ (9 : Int32) ≤ nI k from i_ge (a := 9) (by omega) (by decide)), hS.g 1 1 (by decide) rfl, hS.g 1 1 (by decide) rfl, hS.g 1 1 (by decide) rfl, hS.a 1 52 (show (52 : Int32) = nI 52 from rfl) (by decide) (by decide), h52, hS.a 1 (53 + 9 * p + k) (i9 p k) (by decide) (show 53 + 9 * p + k < 3132 by omega), hS.w 1 (43 + k) (show 43 + nI k = nI (43 + k) from nI_add 43 k) (by decide) (show 43 + k < 3132 by omega), nI_1]
    obtain ⟨h', e, c, w⟩ := ih (k + 1) n (hp_sI h (m + 1) (43 + k) (hp_I h (m + 1) (53 + 9 * p + k))) (hS.sI _ _ _) (by rw [hp_I_sI, if_neg (by omega)]; exact h52) (by omega) (by omega)
    refine ⟨h', e, (CI.sI (by decide)).tr c, fun j => ?_⟩
    rw [w j, hp_I_sI, hp_I_sI]
    by_cases q : j = 43 + k
    · subst q; rw [if_neg (by omega), if_pos ⟨rfl, rfl⟩, if_pos (by omega)]; congr 1; omega
    · by_cases q2 : 43 + (k + 1) ≤ j ∧ j < 52
      · rw [if_pos q2, if_neg (by omega), if_pos (by omega)]
      · rw [if_neg q2, if_neg (by omega), if_neg (by omega)]
theorem sI_at (h : Hp) (a k j : Nat) (v : Int32) : hp_I (hp_sI h a k v) a j = if j = k then v else hp_I h a j := by
  rw [hp_I_sI]
  by_cases q : j = k
  · rw [if_pos ⟨rfl, q⟩, if_pos q]
  · rw [if_neg (fun z => q z.2), if_neg q]
/-- undo: how many are left, or none if it can't be -/
def sp_undo (n : Nat) (x : Int32) : Option Nat := (vb x 1 10).bind fun k => if k ≤ n then some (n - k) else none
theorem rc_undo (F : Nat) (hF : 2000 ≤ F) {m : Nat} {h : Hp} {H : HM} {s b n : Nat} {ps : Nat → Nat × Nat} (r : RP h m H s b n ps) (x : Int32) : ∃ h', f_X12_undo F m x h = some ((match sp_undo n x with | some k => nI k | none => -3), h') ∧ CI m [0, 1, 5, 6, 7] h h' ∧ (match sp_undo n x with
    | some k => RP h' m H (ps k).1 (ps k).2 k ps
    | none => RP h' m H s b n ps) ∧ ∀ j, 143 ≤ j → hp_I h' (m + 1) j = hp_I h (m + 1) j := by
  have r1 := r.f 0 0
  have c0 : CI m [0, 1, 5, 6, 7] h (hp_sI h m 0 0) := (CI.f0).mono (by decide)
  have fin : ∀ j, hp_I (hp_sI h m 0 0) (m + 1) j = hp_I h (m + 1) j := fun j => by rw [f0A h m 0 0 1 (by decide)]
  obtain ⟨p1, p2, p3⟩ := r1.2.1
  unfold f_X12_undo sp_undo
  rw [pI_n r.1.1.1, bd_n (show f_X12_within F x.toInt64 1 10 _ = _ from rc_wb F x (a := 1) (c := 10) (by decide) (by decide) _)]
  cases hx : vb x 1 10 with
  | none => rw [if_pos (bsm0 rfl)]; exact ⟨_, rfl, c0, r1, fun j _ => fin j⟩
  | some k =>
    obtain ⟨k1, k2, k3, -⟩ := vb_some hx
    rw [if_neg (bsm1 rfl), r1.1.1.g 1 1 (by decide) rfl, r1.1.1.a 1 52 (show (52 : Int32) = nI 52 from rfl) (by decide) (by decide), p1, k3]
    show ∃ h', _ = some ((match (if k ≤ n then some (n - k) else none : Option Nat) with | some k => nI k | none => -3), h') ∧ _ ∧ (match (if k ≤ n then some (n - k) else none : Option Nat) with
      | some k => RP h' m H (ps k).1 (ps k).2 k ps
      | none => RP h' m H s b n ps) ∧ _
    by_cases q : k ≤ n
    · rw [if_pos (nI_le q (by omega)), if_pos q, r1.1.1.g 1 1 (by decide) rfl, r1.1.1.a 1 52 (show (52 : Int32) = nI 52 from rfl) (by decide) (by decide), p1, r1.1.1.w 1 52 (show (52 : Int32) = nI 52 from rfl) (by decide) (by decide), pk_sub q]
      obtain ⟨h', e, c, w⟩ := rc_undo_r F (p := n - k) (by omega) 9 0 F (hp_sI (hp_sI h m 0 0) (m + 1) 52 (nI (n - k))) (r1.1.1.sI _ _ _) (by rw [hp_I_sI, if_pos ⟨rfl, rfl⟩]) (by omega) (by omega)
      have w2 : ∀ j, hp_I h' (m + 1) j = if j = 52 then nI (n - k) else if 43 ≤ j ∧ j < 52 then hp_I (hp_sI h m 0 0) (m + 1) (j + 10 + 9 * (n - k)) else hp_I (hp_sI h m 0 0) (m + 1) j := fun j => by
        rw [w j, sI_at, sI_at]
        by_cases z : j = 52
        · subst z; rw [if_neg (by omega), if_pos rfl, if_pos rfl]
        · rw [if_neg z, if_neg z]
          by_cases z2 : 43 ≤ j ∧ j < 52
          · rw [if_pos (by omega), if_pos z2, if_neg (by omega)]
          · rw [if_neg (by omega), if_neg z2]
      have pq := p3 (n - k) (by omega)
      refine ⟨h', e, (c0.tr (CI.sI (by decide))).tr (c.mono (by decide)), ⟨?_, ⟨?_, by omega, fun i hi => ⟨fun j hj => ?_, ?_⟩⟩, fun i hi => r.2.2 i (by omega)⟩, fun j hj => ?_⟩
      · refine r1.1.upd (c.1.SR (r1.1.1.sI _ _ _)) (fun j hj => ?_) (fun j hj => ?_) ?_ (r.2.2 (n - k) (by omega)).1 (r.2.2 (n - k) (by omega)).2
        · rw [w2 j, if_neg (by omega), if_neg (by omega)]
        · rw [w2, if_neg (by omega), if_pos (by omega), show 43 + j + 10 + 9 * (n - k) = 53 + 9 * (n - k) + j by omega]; exact pq.1 j hj
        · rw [w2, if_neg (by omega), if_pos (by omega), show 51 + 10 + 9 * (n - k) = 61 + 9 * (n - k) by omega]; exact pq.2
      · rw [w2, if_pos rfl]
      · rw [w2, if_neg (by omega), if_neg (by omega)]; exact (p3 i (by omega)).1 j hj
      · rw [w2, if_neg (by omega), if_neg (by omega)]; exact (p3 i (by omega)).2
      · rw [w2, if_neg (by omega), if_neg (by omega), fin j]
    · rw [if_neg (nI_ge (by omega) (by omega)), if_neg q]
      exact ⟨_, rfl, c0, r1, fun j _ => fin j⟩
