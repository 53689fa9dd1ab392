/-! L3: arguments; the reference's simple answers -/
/-- an argument as a number below n -/
def vi (x : Int32) (n : Nat) : Option Nat := if 0 ≤ x.toInt ∧ x.toInt < n then some x.toInt.toNat else none
theorem vi_some {x : Int32} {n j : Nat} (h : vi x n = some j) : j < n ∧ x = nI j := by
  unfold vi at h
  by_cases q : 0 ≤ x.toInt ∧ x.toInt < n
  · rw [if_pos q] at h
    cases h
    refine ⟨by omega, ?_⟩
    apply Int32.toInt_inj.mp
    have := x.toInt_lt
    rw [nI_toInt (by omega)]
    omega
  · rw [if_neg q] at h; cases h
theorem vi_none {x : Int32} {n : Nat} (h : vi x n = none) : ¬ (0 ≤ x.toInt ∧ x.toInt < n) := by
  unfold vi at h
  by_cases q : 0 ≤ x.toInt ∧ x.toInt < n
  · rw [if_pos q] at h; cases h
  · exact q
theorem vi_nI {j n : Nat} (h : j < n) (hn : n < 2 ^ 31) : vi (nI j) n = some j := by
  unfold vi
  rw [nI_toInt (by omega), if_pos (by omega)]
  rfl
theorem i64_toInt (x : Int32) : x.toInt64.toInt = x.toInt := Int32.toInt_toInt64 x
theorem rc_wi (F : Nat) (a b c : Int64) (h : Hp) : f_X12_within F a b c h = some (nI (b1 (b.toInt ≤ a.toInt ∧ a.toInt ≤ c.toInt)), h) := by
  unfold f_X12_within b1
  by_cases q : a < b
  · have := Int64.lt_iff_toInt_lt.mp q
    rw [if_pos q, if_neg (by omega)]; rfl
  · have z : ¬ a.toInt < b.toInt := fun w => q (Int64.lt_iff_toInt_lt.mpr w)
    rw [if_neg q]
    by_cases q2 : c < a
    · have := Int64.lt_iff_toInt_lt.mp q2
      rw [if_pos q2, if_neg (by omega)]; rfl
    · have z2 : ¬ c.toInt < a.toInt := fun w => q2 (Int64.lt_iff_toInt_lt.mpr w)
      rw [if_neg q2, if_pos (by omega)]; rfl
theorem rz_b (p : Prop) [Decidable p] (h : Hp) : rz (nI (b1 p)) h = some (nI (b1 p), h) := by
  unfold rz b1
  by_cases q : p
  · rw [if_pos q]; exact gd_t (by decide) _
  · rw [if_neg q]; exact gd_t (by decide) _
def ob {α : Type} (o : Option α) : Nat := b1 (o.isSome = true)
theorem rc_isTwinL (F : Nat) (x : Int64) (h : Hp) : f_X12_isTwin F x h = some (nI (b1 (0 ≤ x.toInt ∧ x.toInt ≤ 1)), h) := by
  unfold f_X12_isTwin
  rw [bd_n (rc_wi F x 0 1 h)]
  exact rz_b _ h
theorem rc_isTwin (F : Nat) (x : Int32) (h : Hp) : f_X12_isTwin F x.toInt64 h = some (nI (bsm (vi x 2)), h) := by
  rw [rc_isTwinL, i64_toInt]
  unfold b1 vi
  by_cases q : 0 ≤ x.toInt ∧ x.toInt ≤ 1
  · rw [if_pos q, if_pos (by omega)]; rfl
  · rw [if_neg q, if_neg (by omega)]; rfl
theorem sub1_toInt {n : Nat} (h : n < 2 ^ 31) : ((nI n - 1 : Int32)).toInt = (n : Int) - 1 := by
  cases n with
  | zero => decide
  | succ n => rw [nI_pred, nI_toInt (by omega)]; omega
theorem rc_isFactL (F : Nat) {m : Nat} {h : Hp} (hS : SR h m) {n : Nat} (hn : n < 2 ^ 31) (hA : hp_I h (m + 1) 1 = nI n) (x : Int64) : f_X12_isFact F m x h = some (nI (b1 (0 ≤ x.toInt ∧ x.toInt < n)), h) := by
  unfold f_X12_isFact
  rw [hS.g 1 1 (by decide) rfl, hS.a 1 1 (show (1 : Int32) = nI 1 from rfl) (by decide) (by decide), hA, bd_n (rc_wi F x 0 _ h), rz_b, i64_toInt, sub1_toInt hn]
  congr 3
  unfold b1
  by_cases q : 0 ≤ x.toInt ∧ x.toInt < n
  · rw [if_pos q, if_pos (show (0 : Int64).toInt ≤ _ ∧ _ from ⟨q.1, by omega⟩)]
  · rw [if_neg q, if_neg (fun z => q ⟨z.1, by omega⟩)]
theorem rc_isFact (F : Nat) {m : Nat} {h : Hp} (hS : SR h m) {n : Nat} (hn : n < 2 ^ 31) (hA : hp_I h (m + 1) 1 = nI n) (x : Int32) : f_X12_isFact F m x.toInt64 h = some (nI (bsm (vi x n)), h) := by
  rw [rc_isFactL F hS hn hA, i64_toInt]
  unfold b1 vi
  by_cases q : 0 ≤ x.toInt ∧ x.toInt < n
  · rw [if_pos q, if_pos q]; rfl
  · rw [if_neg q, if_neg q]; rfl
theorem rc_isDoing (F : Nat) {m : Nat} {h : Hp} (hS : SR h m) {n : Nat} (hn : n < 2 ^ 31) (hA : hp_I h (m + 1) 2 = nI n) (x : Int32) : f_X12_isDoing F m x h = some (nI (bsm (vi x n)), h) := by
  unfold f_X12_isDoing
  rw [hS.g 1 1 (by decide) rfl, hS.a 1 2 (show (2 : Int32) = nI 2 from rfl) (by decide) (by decide), hA, bd_n (rc_wi F _ 0 _ h), rz_b, i64_toInt, i64_toInt, sub1_toInt hn]
  congr 3
  unfold b1 vi
  by_cases q : 0 ≤ x.toInt ∧ x.toInt < n
  · rw [if_pos q, if_pos (show (0 : Int64).toInt ≤ _ ∧ _ from ⟨q.1, by omega⟩)]; rfl
  · rw [if_neg q, if_neg (fun z => q ⟨z.1, by omega⟩)]; rfl
theorem bsm0 {α : Type} {o : Option α} (h : o = none) : nI (bsm o) = 0 := by rw [h]; rfl
theorem bsm1 {α : Type} {o : Option α} {v : α} (h : o = some v) : ¬ nI (bsm o) = 0 := by rw [h]; show ¬ nI 1 = 0; decide
/-- what the reference holds of house, stand, bond -/
def RS (h : Hp) (m : Nat) (H : HM) (s b : Nat) : Prop := SR h m ∧ HMok H ∧ RB (hp_I h (m + 1)) H s b ∧ LC (hp_I h (m + 1)) H ∧ STok H s ∧ b < 10
theorem RS.ci {h h' : Hp} {m : Nat} {H : HM} {s b : Nat} {ks : List Nat} (r : RS h m H s b) (c : CI m ks h h') (hk : 1 ∉ ks) : RS h' m H s b := by
  obtain ⟨r1, r2, r3, r4, r5, r6⟩ := r
  exact ⟨c.1.SR r1, r2, by rw [c.at hk]; exact r3, by rw [c.at hk]; exact r4, r5, r6⟩
theorem CI.f0 {m : Nat} {v : Int32} {k : Nat} {h : Hp} (hk : k ≠ 5 ∧ k ≠ 13 ∧ k ≠ 14 := by decide) : CI m [0] h (hp_sI h m k v) := ⟨SH.rf h, ⟨rfl, fun f hf => by rw [hp_I_sI, if_neg (by omega)]⟩, fun x hx => by
  have := hx 0 (by decide)
  funext i
  rw [hp_I_sI, if_neg (by omega)]⟩
theorem f0A (h : Hp) (m k : Nat) (v : Int32) (j : Nat) (hj : 0 < j) : hp_I (hp_sI h m k v) (m + j) = hp_I h (m + j) := by
  funext i
  rw [hp_I_sI, if_neg (by omega)]
theorem RS.eqA {h h' : Hp} {m : Nat} {H : HM} {s b : Nat} (r : RS h m H s b) (hS : SR h' m) (hA : hp_I h' (m + 1) = hp_I h (m + 1)) : RS h' m H s b := by
  obtain ⟨r1, r2, r3, r4, r5, r6⟩ := r
  exact ⟨hS, r2, by rw [hA]; exact r3, by rw [hA]; exact r4, r5, r6⟩
theorem RS.f {h : Hp} {m : Nat} {H : HM} {s b : Nat} (r : RS h m H s b) (k : Nat) (v : Int32) : RS (hp_sI h m k v) m H s b := r.eqA (r.1.sI _ _ _) (f0A h m k v 1 (by decide))
theorem RS.stand {h : Hp} {m : Nat} {H : HM} {s b : Nat} (r : RS h m H s b) (F : Nat) (hF : 100 ≤ F) : f_X12_standNow F m h = some (nI s, h) := rc_standNow F hF r.1 r.2.2.2.2.1.1 r.2.2.1.2.2.2.2.2.1
theorem RS.fc {h : Hp} {m : Nat} {H : HM} {s b : Nat} (r : RS h m H s b) : hp_I h (m + 1) 1 = nI (hm_f H) := r.2.2.1.2.1
theorem RS.dc {h : Hp} {m : Nat} {H : HM} {s b : Nat} (r : RS h m H s b) : hp_I h (m + 1) 2 = nI (hm_d H) := r.2.2.1.2.2.1
theorem RS.f4 {h : Hp} {m : Nat} {H : HM} {s b : Nat} (r : RS h m H s b) : hm_f H ≤ 4 := r.2.1.1
theorem RS.d6 {h : Hp} {m : Nat} {H : HM} {s b : Nat} (r : RS h m H s b) : hm_d H ≤ 6 := r.2.1.2.1
theorem RS.s16 {h : Hp} {m : Nat} {H : HM} {s b : Nat} (r : RS h m H s b) : s < 65536 := r.2.2.2.2.1.1
theorem RS.ageIn {h : Hp} {m : Nat} {H : HM} {s b : Nat} (r : RS h m H s b) {t f : Nat} (ht : t < 2) (hf : f < 4) : hp_I h (m + 1) (43 + 4 * t + f) = nI (dg s (4 * t + f)) := by
  rw [Nat.add_assoc]; exact r.2.2.1.2.2.2.2.2.1 (4 * t + f) (by omega)
def sp_age (H : HM) (s : Nat) (x y : Int32) : Int32 := match vi x 2, vi y (hm_f H) with
  | some t, some f => nI (dg s (4 * t + f))
  | _, _ => -2
theorem i43 (t f : Nat) : 43 + 4 * nI t + nI f = nI (43 + 4 * t + f) := by rw [show 4 * nI t = nI (4 * t) from pk_mul 4 t, show 43 + nI (4 * t) = nI (43 + 4 * t) from nI_add 43 (4 * t), nI_add]
theorem rc_age (F : Nat) {m : Nat} {h : Hp} {H : HM} {s b : Nat} (r : RS h m H s b) (x y : Int32) : ∃ h', f_X12_age F m x y h = some (sp_age H s x y, h') ∧ CI m [0] h h' := by
  have r1 := r.f 0 0
  have h4 := r.f4
  refine ⟨hp_sI h m 0 0, ?_, CI.f0⟩
  unfold f_X12_age sp_age
  rw [pI_n r.1.1, bd_n (rc_isTwin F x _)]
  cases hx : vi x 2 with
  | none => rw [if_pos (bsm0 rfl)]
  | some t =>
    obtain ⟨t1, t2⟩ := vi_some hx
    rw [if_neg (bsm1 rfl), cV_n r1.1.1 (rc_isFact F r1.1 (by omega) r1.fc y)]
    cases hy : vi y (hm_f H) with
    | none => rw [if_pos (bsm0 rfl)]
    | some f =>
      obtain ⟨f1, f2⟩ := vi_some hy
      rw [if_neg (bsm1 rfl), r1.1.g 1 1 (by decide) rfl, t2, f2, r1.1.a 1 (43 + 4 * t + f) (i43 t f) (by decide) (show 43 + 4 * t + f < 3132 by omega), r1.ageIn t1 (by omega)]
def sp_does (H : HM) (s : Nat) (x : Int32) : Int32 := match vi x 2 with
  | some t => nI (dsa H s t)
  | none => -2
theorem rc_does (F : Nat) (hF : 100 ≤ F) {m : Nat} {h : Hp} {H : HM} {s b : Nat} (r : RS h m H s b) (x : Int32) : ∃ h', f_X12_does F m x h = some (sp_does H s x, h') ∧ CI m [0] h h' := by
  have r1 := r.f 0 0
  refine ⟨hp_sI h m 0 0, ?_, CI.f0⟩
  unfold f_X12_does sp_does
  rw [pI_n r.1.1, bd_n (rc_isTwin F x _)]
  cases hx : vi x 2 with
  | none => rw [if_pos (bsm0 rfl)]
  | some t =>
    obtain ⟨t1, t2⟩ := vi_some hx
    rw [if_neg (bsm1 rfl), cV_n r1.1.1 (r1.stand F hF), t2, cV_n r1.1.1 (rc_doesAll F hF r1.1 r1.2.1 r1.2.2.1 r1.s16 t1)]
/-- the stand behind a telling, where it may be -/
def tld (H : HM) (b s t f : Nat) : Option Nat := (tel H b s t f).map (tos s t f)
theorem tos_lt {s t f c : Nat} (hc : c < 4) : tos s t f c < 65536 := st4_lt (by split; exact dg_lt _ _; exact hc)
def sp_brings (H : HM) (s b : Nat) (x y z : Int32) : Int32 := match vi x 2, vi y (hm_f H), vi z 2 with
  | some t, some f, some w => (match tld H b s t f with
    | some s' => nI (dg s' (4 * w + f))
    | none => -5)
  | _, _, _ => -2
theorem rc_brings (F : Nat) (hF : 2000 ≤ F) {m : Nat} {h : Hp} {H : HM} {s b : Nat} (r : RS h m H s b) (x y z : Int32) : ∃ h', f_X12_brings F m x y z h = some (sp_brings H s b x y z, h') ∧ CI m [0, 5, 6] h h' := by
  have r1 := r.f 0 0
  have h4 := r.f4
  have c0 : CI m [0, 5, 6] h (hp_sI h m 0 0) := (CI.f0).mono (by decide)
  unfold f_X12_brings sp_brings
  rw [pI_n r.1.1, bd_n (rc_isTwin F x _)]
  cases hx : vi x 2 with
  | none => rw [if_pos (bsm0 rfl)]; exact ⟨_, rfl, c0⟩
  | some t =>
    obtain ⟨t1, t2⟩ := vi_some hx
    rw [if_neg (bsm1 rfl), cV_n r1.1.1 (rc_isFact F r1.1 (by omega) r1.fc y)]
    cases hy : vi y (hm_f H) with
    | none => rw [if_pos (bsm0 rfl)]; exact ⟨_, rfl, c0⟩
    | some f =>
      obtain ⟨f1, f2⟩ := vi_some hy
      rw [if_neg (bsm1 rfl), bd_n (rc_isTwin F z _)]
      cases hz : vi z 2 with
      | none => rw [if_pos (bsm0 rfl)]; exact ⟨_, rfl, c0⟩
      | some w =>
        obtain ⟨w1, w2⟩ := vi_some hz
        obtain ⟨h2, e2, c2⟩ := rc_mayTell F hF r1.1 r1.2.1 r1.2.2.1 r1.2.2.2.1 r1.2.2.2.2.2 r1.2.2.2.2.1 t1 f1
        have r2 := r1.ci c2 (by decide)
        rw [if_neg (bsm1 rfl), cV_n r1.1.1 (r1.stand F (by omega)), t2, f2, cV_n r1.1.1 e2]
        dsimp only
        unfold tld
        cases ht : tel H b s t f with
        | none => rw [if_pos (bsm0 rfl)]; exact ⟨_, rfl, c0.tr (c2.mono (by decide))⟩
        | some c =>
          obtain ⟨h3, e3, c3⟩ := rc_toldTo F hF r2.1 r2.2.1 r2.2.2.1 r2.2.2.2.1 r2.2.2.2.2.2 r2.2.2.2.2.1 t1 f1 ht
          have hc4 : c < 4 := r.2.1.2.2.2.2.1 _ _ _ _ _ _ ht
          rw [if_neg (bsm1 rfl), cV_n r2.1.1 (r2.stand F (by omega)), cV_n r2.1.1 e3, w2, bd_n (rc_ageIn F (tos_lt hc4) w1 (by omega) h3)]
          exact ⟨_, rfl, (c0.tr (c2.mono (by decide))).tr (c3.mono (by decide))⟩
