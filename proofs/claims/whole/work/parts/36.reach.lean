/-! L3: what can be come to, as the reference lays it -/
theorem SR.wq {α : Type} {h : Hp} {m : Nat} (s : SR h m) (j : Nat) {i v : Int32} (hi : i = nI j) (hj : j < 65536) (hv : v = 0 ∨ v = 1) (K : Hp → Option α) : wZ h (m + 8) i v K = K (hp_sI h (m + 8) j v) :=
  wZ_n (n := 65536) (by rw [(s.2 8 (by decide) (by decide)).2.1]; rfl) (s.2 8 (by decide) (by decide)).2.2 hi hj (by decide) hv K
theorem SR.aq {α : Type} {h : Hp} {m : Nat} (s : SR h m) (j : Nat) {i : Int32} (hi : i = nI j) (hj : j < 65536) (K : Int32 → Option α) : aI 22 h (m + 8) i K = K (hp_I h (m + 8) j) :=
  aI_n (n := 65536) (by rw [(s.2 8 (by decide) (by decide)).2.1]; rfl) (s.2 8 (by decide) (by decide)).2.2 hi hj (by decide) K
/-- the marks are those of P -/
def RCH (h : Hp) (m : Nat) (P : Nat → Prop) : Prop := ∀ u, u < 65536 → (hp_I h (m + 8) u = 1 ∧ P u) ∨ (hp_I h (m + 8) u = 0 ∧ ¬ P u)
theorem RCH.cg {h h' : Hp} {m : Nat} {P Q : Nat → Prop} (r : RCH h m P) (e : hp_I h' (m + 8) = hp_I h (m + 8)) (q : ∀ u, u < 65536 → (P u ↔ Q u)) : RCH h' m Q := fun u hu => by
  rw [e, ← q u hu]; exact r u hu
theorem i9k (s k : Nat) : 9 * nI s + nI k = nI (9 * s + k) := by rw [show 9 * nI s = nI (9 * s) from pk_mul 9 s, nI_add]
theorem rc_reach7 (F : Nat) {m now M : Nat} (hn : now < 65536) : ∀ r k n (h : Hp), SR h m → k + r = 65536 → r < n → ∃ h', f_X12_laysReached_7 F n m (nI M) (nI now) (nI k) h = f_X12_laysReached_37 F F m (nI M) (nI now) h' ∧ CI m [8] h h' ∧ ∀ j, hp_I h' (m + 8) j = if k ≤ j ∧ j < 65536 then (if j = now then 1 else 0) else hp_I h (m + 8) j := by
  intro r
  induction r with
  | zero =>
    intro k n h hS hk hn'
    obtain ⟨n, rfl⟩ : ∃ j, n = j + 1 := ⟨n - 1, by omega⟩
    show ∃ h', f_X12_laysReached_7_b F (f_X12_laysReached_7 F n) m (nI M) (nI now) (nI k) h = _ ∧ _
    unfold f_X12_laysReached_7_b
    rw [if_pos (show (65536 : Int32) ≤ nI k from nI_le (a := 65536) (by omega) (by omega))]
    exact ⟨h, rfl, CI.rf _ _ _, fun j => by rw [if_neg (by omega)]⟩
  | succ r ih =>
    intro k n h hS hk hn'
    obtain ⟨n, rfl⟩ : ∃ j, n = j + 1 := ⟨n - 1, by omega⟩
    show ∃ h', f_X12_laysReached_7_b F (f_X12_laysReached_7 F n) m (nI M) (nI now) (nI k) h = _ ∧ _
    unfold f_X12_laysReached_7_b f_X12_laysReached_28
    rw [if_neg (show ¬ (65536 : Int32) ≤ nI k from i_ge (a := 65536) (by omega) (by decide)), hS.g 8 21 (by decide) rfl, hS.wq k rfl (by omega) (Or.inr rfl), hS.wq k rfl (by omega) (Or.inl rfl), nI_1]
    by_cases q : k = now
    · rw [if_pos (show nI k = nI now by rw [q])]
      obtain ⟨h', e, c, w⟩ := ih (k + 1) n _ (hS.sI (m + 8) k 1) (by omega) (by omega)
      refine ⟨h', e, (CI.sI (by decide)).tr c, fun j => ?_⟩
      rw [w j, sI_at]
      by_cases z : j = k
      · rw [if_neg (by omega), if_pos z, if_pos (by omega), if_pos (by omega)]
      · rw [if_neg z]
        by_cases z2 : k + 1 ≤ j ∧ j < 65536
        · rw [if_pos z2, if_pos (show k ≤ j ∧ j < 65536 by omega)]
        · rw [if_neg z2, if_neg (show ¬ (k ≤ j ∧ j < 65536) by omega)]
    · rw [if_neg (show ¬ nI k = nI now from fun z => q (by have := congrArg Int32.toInt z; rw [nI_toInt (by omega), nI_toInt (by omega)] at this; omega))]
      obtain ⟨h', e, c, w⟩ := ih (k + 1) n _ (hS.sI (m + 8) k 0) (by omega) (by omega)
      refine ⟨h', e, (CI.sI (by decide)).tr c, fun j => ?_⟩
      rw [w j, sI_at]
      by_cases z : j = k
      · rw [if_neg (by omega), if_pos z, if_pos (by omega), if_neg (by omega)]
      · rw [if_neg z]
        by_cases z2 : k + 1 ≤ j ∧ j < 65536
        · rw [if_pos z2, if_pos (show k ≤ j ∧ j < 65536 by omega)]
        · rw [if_neg z2, if_neg (show ¬ (k ≤ j ∧ j < 65536) by omega)]
theorem oN_ne {o : Option Nat} (h : ∀ u, o = some u → u < 2 ^ 31) : oN o = -1 ↔ o = none := by
  cases o with
  | none => exact ⟨fun _ => rfl, fun _ => rfl⟩
  | some u =>
    refine ⟨fun z => ?_, fun z => by cases z⟩
    have := congrArg Int32.toInt (show nI u = -1 from z)
    rw [nI_toInt (h u rfl)] at this
    exact absurd this (by show ¬ (u : Int) = -1; omega)
theorem rc_reach46 (F : Nat) (hF : 2000 ≤ F) {m M : Nat} {H : HM} {s0 b s : Nat} (hM : M < 512) (hs : STok H s) (K : Nat → Int32 → Int32 → Hp → Option (Unit × Hp)) : ∀ r k n (h : Hp), RS h m H s0 b → k + r = 9 → r < n → hp_I h (m + 8) s = 1 → (M = 511 ∨ ∀ j, j < 9 → hp_I h (m + 9) (9 * s + j) = oN (mv H b s j)) → ∃ h', f_X12_laysReached_46 F K n m (nI M) (nI s) (nI k) h = K m (nI M) (nI (s + 1)) h' ∧ CI m [5, 6, 8, 9] h h' ∧ (∀ u, (hp_I h' (m + 8) u = 1 ∧ ∃ j, k ≤ j ∧ j < 9 ∧ M.testBit j = true ∧ mv H b s j = some u) ∨ (hp_I h' (m + 8) u = hp_I h (m + 8) u ∧ ¬ ∃ j, k ≤ j ∧ j < 9 ∧ M.testBit j = true ∧ mv H b s j = some u)) ∧ (∀ j, k ≤ j → j < 9 → hp_I h' (m + 9) (9 * s + j) = oN (mv H b s j)) ∧ (∀ i, (i < 9 * s + k ∨ 9 * s + 9 ≤ i) → hp_I h' (m + 9) i = hp_I h (m + 9) i) ∧ (¬ M = 511 → hp_I h' (m + 9) = hp_I h (m + 9)) := by
  have hsl := hs.1
  intro r
  induction r with
  | zero =>
    intro k n h rs hk hn h8 h9
    obtain ⟨n, rfl⟩ : ∃ j, n = j + 1 := ⟨n - 1, by omega⟩
    show ∃ h', f_X12_laysReached_46_b F K (f_X12_laysReached_46 F K n) m (nI M) (nI s) (nI k) h = _ ∧ _
    unfold f_X12_laysReached_46_b f_X12_laysReached_136
    rw [if_pos (show (9 : Int32) ≤ nI k from nI_le (a := 9) (by omega) (by omega)), nI_1]
    exact ⟨h, rfl, CI.rf _ _ _, fun u => Or.inr ⟨rfl, fun ⟨j, h1, h2, _⟩ => by omega⟩, fun j h1 h2 => absurd h2 (by omega), fun _ _ => rfl, fun _ => rfl⟩
  | succ r ih =>
    intro k n h rs hk hn h8 h9
    obtain ⟨n, rfl⟩ : ∃ j, n = j + 1 := ⟨n - 1, by omega⟩
    have hk9 : k < 9 := by omega
    have ov : ∀ u, mv H b s k = some u → u < 65536 := fun u hu => (mv_ok rs.2.1 hs hk9 hu).1.1
    -- the tail: what is done with a number at place k
    have tail : ∀ h1, RS h1 m H s0 b → hp_I h1 (m + 8) s = 1 → (M = 511 ∨ ∀ j, j < 9 → hp_I h1 (m + 9) (9 * s + j) = oN (mv H b s j)) → hp_I h1 (m + 9) (9 * s + k) = oN (mv H b s k) → ∃ h', f_X12_laysReached_88 F K (f_X12_laysReached_46 F K n) m (nI M) (nI s) (nI k) h1 = K m (nI M) (nI (s + 1)) h' ∧ CI m [5, 6, 8, 9] h1 h' ∧ (∀ u, (hp_I h' (m + 8) u = 1 ∧ ∃ j, k ≤ j ∧ j < 9 ∧ M.testBit j = true ∧ mv H b s j = some u) ∨ (hp_I h' (m + 8) u = hp_I h1 (m + 8) u ∧ ¬ ∃ j, k ≤ j ∧ j < 9 ∧ M.testBit j = true ∧ mv H b s j = some u)) ∧ (∀ j, k + 1 ≤ j → j < 9 → hp_I h' (m + 9) (9 * s + j) = oN (mv H b s j)) ∧ (∀ i, (i < 9 * s + (k + 1) ∨ 9 * s + 9 ≤ i) → hp_I h' (m + 9) i = hp_I h1 (m + 9) i) ∧ (¬ M = 511 → hp_I h' (m + 9) = hp_I h1 (m + 9)) := by
      intro h1 r1 e8 e9 ek
      unfold f_X12_laysReached_88 f_X12_laysReached_114 f_X12_laysReached_130
      rw [i64_nI (by omega), bd_n (rc_isIn F (by omega) (by omega) h1), nI_1]
      by_cases qb : M.testBit k = true
      · rw [if_neg (b1_1 qb), r1.1.g 9 22 (by decide) rfl, r1.1.a 9 (9 * s + k) (i9k s k) (by decide) (show 9 * s + k < 589824 by omega), ek]
        cases hv : mv H b s k with
        | none =>
          rw [if_pos (show oN none = -1 from rfl)]
          obtain ⟨h', e, c, w8, w9, w10, w11⟩ := ih (k + 1) n h1 r1 (by omega) (by omega) e8 e9
          refine ⟨h', e, c, fun u => ?_, fun j a1 a2 => w9 j a1 a2, w10, w11⟩
          rcases w8 u with ⟨a1, j, j1, j2, j3, j4⟩ | ⟨a1, a2⟩
          · exact Or.inl ⟨a1, j, by omega, j2, j3, j4⟩
          · refine Or.inr ⟨a1, fun ⟨j, j1, j2, j3, j4⟩ => ?_⟩
            by_cases z : j = k
            · rw [z, hv] at j4; cases j4
            · exact a2 ⟨j, by omega, j2, j3, j4⟩
        | some v =>
          have hv6 := ov v hv
          rw [if_neg (fun z => by have := (oN_ne (o := some v) (fun u hu => by have := Option.some.inj hu; omega)).mp z; cases this), r1.1.g 8 21 (by decide) rfl, r1.1.wq v (show oN (some v) = nI v from rfl) hv6 (Or.inr rfl)]
          have r2 : RS (hp_sI h1 (m + 8) v 1) m H s0 b := r1.ci (ks := [8]) (CI.sI (by decide)) (by decide)
          have e9' : hp_I (hp_sI h1 (m + 8) v 1) (m + 9) = hp_I h1 (m + 9) := sI_ne _ _ _ (by omega)
          obtain ⟨h', e, c, w8, w9, w10, w11⟩ := ih (k + 1) n _ r2 (by omega) (by omega) (by rw [sI_at]; by_cases z : s = v; rw [if_pos z]; rw [if_neg z]; exact e8) (by rw [e9']; exact e9)
          refine ⟨h', e, (CI.sI (by decide)).tr c, fun u => ?_, fun j a1 a2 => w9 j a1 a2, fun i hi => by rw [w10 i hi, e9'], fun z => by rw [w11 z, e9']⟩
          rcases w8 u with ⟨a1, j, j1, j2, j3, j4⟩ | ⟨a1, a2⟩
          · exact Or.inl ⟨a1, j, by omega, j2, j3, j4⟩
          · rw [sI_at] at a1
            by_cases z : u = v
            · rw [if_pos z] at a1
              exact Or.inl ⟨a1, k, by omega, hk9, qb, by rw [z]; exact hv⟩
            · rw [if_neg z] at a1
              refine Or.inr ⟨a1, fun ⟨j, j1, j2, j3, j4⟩ => ?_⟩
              by_cases z2 : j = k
              · rw [z2, hv] at j4; exact z (Option.some.inj j4).symm
              · exact a2 ⟨j, by omega, j2, j3, j4⟩
      · rw [if_pos (b1_0 qb), if_pos rfl]
        obtain ⟨h', e, c, w8, w9, w10, w11⟩ := ih (k + 1) n h1 r1 (by omega) (by omega) e8 e9
        refine ⟨h', e, c, fun u => ?_, fun j a1 a2 => w9 j a1 a2, w10, w11⟩
        rcases w8 u with ⟨a1, j, j1, j2, j3, j4⟩ | ⟨a1, a2⟩
        · exact Or.inl ⟨a1, j, by omega, j2, j3, j4⟩
        · refine Or.inr ⟨a1, fun ⟨j, j1, j2, j3, j4⟩ => ?_⟩
          by_cases z : j = k
          · rw [z] at j3; exact qb j3
          · exact a2 ⟨j, by omega, j2, j3, j4⟩
    show ∃ h', f_X12_laysReached_46_b F K (f_X12_laysReached_46 F K n) m (nI M) (nI s) (nI k) h = _ ∧ _
    unfold f_X12_laysReached_46_b
    rw [if_neg (show ¬ (9 : Int32) ≤ nI k from i_ge (a := 9) (by omega) (by decide)), rs.1.g 8 21 (by decide) rfl, rs.1.aq s rfl hsl, if_neg (show ¬ hp_I h (m + 8) s = 0 by rw [h8]; decide)]
    by_cases qM : M = 511
    · rw [if_pos (show nI M = 511 by rw [qM]; rfl), rs.1.g 9 22 (by decide) rfl]
      obtain ⟨h1, e1, c1⟩ := rc_movedTo F hF rs hs hk9
      have r1 := rs.ci c1 (by decide)
      rw [cV_n rs.1.1 e1, r1.1.w 9 (9 * s + k) (i9k s k) (by decide) (show 9 * s + k < 589824 by omega)]
      have r2 : RS (hp_sI h1 (m + 9) (9 * s + k) (oN (mv H b s k))) m H s0 b := r1.ci (ks := [9]) (CI.sI (by decide)) (by decide)
      have e8 : hp_I (hp_sI h1 (m + 9) (9 * s + k) (oN (mv H b s k))) (m + 8) = hp_I h (m + 8) := by rw [sI_ne _ _ _ (by omega), c1.at (by decide)]
      obtain ⟨h', e, c, w8, w9, w10, w11⟩ := tail _ r2 (by rw [e8]; exact h8) (Or.inl qM) (by rw [sI_at, if_pos rfl])
      refine ⟨h', e, ((c1.mono (by decide)).tr (CI.sI (by decide))).tr c, fun u => by rw [← e8]; exact w8 u, fun j a1 a2 => ?_, fun i hi => ?_, fun z => absurd qM z⟩
      · by_cases z : j = k
        · rw [z, w10 _ (by omega), sI_at, if_pos rfl]
        · exact w9 j (by omega) a2
      · rw [w10 i (by omega), sI_at, if_neg (by omega), c1.at (by decide)]
    · rw [if_neg (show ¬ nI M = 511 from fun z => qM (by have := congrArg Int32.toInt z; rw [nI_toInt (by omega)] at this; have h5 : (511 : Int32).toInt = 511 := rfl; omega))]
      have h9' : ∀ j, j < 9 → hp_I h (m + 9) (9 * s + j) = oN (mv H b s j) := h9.resolve_left qM
      obtain ⟨h', e, c, w8, w9, w10, w11⟩ := tail h rs h8 h9 (h9' k hk9)
      refine ⟨h', e, c, w8, fun j a1 a2 => by rw [w11 qM]; exact h9' j a2, fun i hi => by rw [w11 qM], w11⟩
/-- marks ahead of the stand s -/
def RHs (H : HM) (b M now s u : Nat) : Prop := u = now ∨ ∃ v k, v < s ∧ RH H b M now v ∧ k < 9 ∧ M.testBit k = true ∧ mv H b v k = some u
theorem RHs.at {H : HM} (hH : HMok H) {b M now s : Nat} (hn : STok H now) : RHs H b M now s s ↔ RH H b M now s := by
  constructor
  · rintro (h | ⟨v, k, -, h2, h3, h4, h5⟩)
    · rw [h]; exact RH.rf _ _ _ _
    · exact h2.step h3 h4 h5
  · intro h
    rcases h.inv with q | ⟨v, k, h2, h3, h4, h5, h6⟩
    · exact Or.inl q
    · have := mv_ok hH (h2.ok hH hn).1 h3 h5
      exact Or.inr ⟨v, k, by omega, h2, h3, h4, h5⟩
theorem RHs.all {H : HM} (hH : HMok H) {b M now u : Nat} (hn : STok H now) : RHs H b M now 65536 u ↔ RH H b M now u := by
  constructor
  · rintro (h | ⟨v, k, -, h2, h3, h4, h5⟩)
    · rw [h]; exact RH.rf _ _ _ _
    · exact h2.step h3 h4 h5
  · intro h
    rcases h.inv with q | ⟨v, k, h2, h3, h4, h5, h6⟩
    · exact Or.inl q
    · exact Or.inr ⟨v, k, (h2.ok hH hn).1.1, h2, h3, h4, h5⟩
theorem rc_reach37 (F : Nat) (hF : 2000 ≤ F) {m M : Nat} {H : HM} {now b : Nat} (hM : M < 512) : ∀ r s n (h : Hp), RS h m H now b → s + r = 65536 → r < n → now ≤ s → RCH h m (RHs H b M now s) → (M = 511 → ∀ v k, v < s → RH H b M now v → k < 9 → hp_I h (m + 9) (9 * v + k) = oN (mv H b v k)) → (¬ M = 511 → ∀ v k, RH H b M now v → k < 9 → hp_I h (m + 9) (9 * v + k) = oN (mv H b v k)) → ∃ h', f_X12_laysReached_37 F n m (nI M) (nI s) h = some ((), h') ∧ CI m [5, 6, 8, 9] h h' ∧ RCH h' m (RH H b M now) ∧ (∀ v k, RH H b M now v → k < 9 → hp_I h' (m + 9) (9 * v + k) = oN (mv H b v k)) ∧ (¬ M = 511 → hp_I h' (m + 9) = hp_I h (m + 9)) := by
  intro r
  induction r with
  | zero =>
    intro s n h rs hk hn hns h8 h9 h10
    obtain ⟨n, rfl⟩ : ∃ j, n = j + 1 := ⟨n - 1, by omega⟩
    show ∃ h', f_X12_laysReached_37_b F (f_X12_laysReached_37 F n) m (nI M) (nI s) h = _ ∧ _
    unfold f_X12_laysReached_37_b
    have hs : s = 65536 := by omega
    subst hs
    rw [if_pos (show (65536 : Int32) ≤ nI 65536 by decide)]
    refine ⟨h, rfl, CI.rf _ _ _, h8.cg rfl (fun u _ => RHs.all rs.2.1 rs.2.2.2.2.1), fun v k hv hk9 => ?_, fun _ => rfl⟩
    by_cases q : M = 511
    · exact h9 q v k (hv.ok rs.2.1 rs.2.2.2.2.1).1.1 hv hk9
    · exact h10 q v k hv hk9
  | succ r ih =>
    intro s n h rs hk hn hns h8 h9 h10
    obtain ⟨n, rfl⟩ : ∃ j, n = j + 1 := ⟨n - 1, by omega⟩
    have hs6 : s < 65536 := by omega
    show ∃ h', f_X12_laysReached_37_b F (f_X12_laysReached_37 F n) m (nI M) (nI s) h = _ ∧ _
    unfold f_X12_laysReached_37_b
    rw [if_neg (show ¬ (65536 : Int32) ≤ nI s from i_ge (a := 65536) (by omega) (by decide))]
    rcases h8 s hs6 with ⟨a1, a2⟩ | ⟨a1, a2⟩
    · have a3 : RH H b M now s := (RHs.at rs.2.1 rs.2.2.2.2.1).mp a2
      have hso := (a3.ok rs.2.1 rs.2.2.2.2.1).1
      obtain ⟨h1, e1, c1, w8, w9, w10, w11⟩ := rc_reach46 F hF hM hso (f_X12_laysReached_37 F n) 9 0 F h rs (by omega) (by omega) a1 (by
        by_cases q : M = 511
        · exact Or.inl q
        · exact Or.inr fun j hj => h10 q s j a3 hj)
      rw [show f_X12_laysReached_46 F (f_X12_laysReached_37 F n) F m (nI M) (nI s) 0 h = _ from e1]
      have r1 := rs.ci c1 (by decide)
      obtain ⟨h', e, c, v8, v9, v10⟩ := ih (s + 1) n h1 r1 (by omega) (by omega) (by omega) (fun u hu => by
        rcases w8 u with ⟨b1, j, j1, j2, j3, j4⟩ | ⟨b1, b2⟩
        · exact Or.inl ⟨b1, Or.inr ⟨s, j, by omega, a3, j2, j3, j4⟩⟩
        · rw [b1]
          rcases h8 u hu with ⟨d1, d2⟩ | ⟨d1, d2⟩
          · refine Or.inl ⟨d1, ?_⟩
            rcases d2 with z | ⟨v, k, z1, z2⟩
            · exact Or.inl z
            · exact Or.inr ⟨v, k, by omega, z2⟩
          · refine Or.inr ⟨d1, ?_⟩
            rintro (z | ⟨v, k, z1, z2, z3, z4, z5⟩)
            · exact d2 (Or.inl z)
            · by_cases q : v = s
              · rw [q] at z5; exact b2 ⟨k, by omega, z3, z4, z5⟩
              · exact d2 (Or.inr ⟨v, k, by omega, z2, z3, z4, z5⟩)) (fun q v k hv hr hk9 => by
        by_cases z : v = s
        · rw [z]; exact w9 k (by omega) hk9
        · rw [w10 _ (by omega)]; exact h9 q v k (by omega) hr hk9) (fun q v k hr hk9 => by
        rw [w11 q]; exact h10 q v k hr hk9)
      exact ⟨h', e, c1.tr c, v8, v9, fun q => by rw [v10 q, w11 q]⟩
    · have a3 : ¬ RH H b M now s := fun z => a2 ((RHs.at rs.2.1 rs.2.2.2.2.1).mpr z)
      obtain ⟨F', hF'⟩ : ∃ G, F = G + 1 := ⟨F - 1, by omega⟩
      have e0 : f_X12_laysReached_46 F (f_X12_laysReached_37 F n) F m (nI M) (nI s) 0 h = f_X12_laysReached_37 F n m (nI M) (nI (s + 1)) h := by
        rw [show f_X12_laysReached_46 F (f_X12_laysReached_37 F n) F = f_X12_laysReached_46 F (f_X12_laysReached_37 F n) (F' + 1) by rw [← hF']]
        show f_X12_laysReached_46_b F (f_X12_laysReached_37 F n) _ m (nI M) (nI s) 0 h = _
        unfold f_X12_laysReached_46_b f_X12_laysReached_136
        rw [if_neg (show ¬ (9 : Int32) ≤ 0 by decide), rs.1.g 8 21 (by decide) rfl, rs.1.aq s rfl hs6, if_pos a1, nI_1]
      rw [e0]
      exact ih (s + 1) n h rs (by omega) (by omega) (by omega) (h8.cg rfl (fun u hu => by
        constructor
        · rintro (z | ⟨v, k, z1, z2⟩)
          · exact Or.inl z
          · exact Or.inr ⟨v, k, by omega, z2⟩
        · rintro (z | ⟨v, k, z1, z2, z3⟩)
          · exact Or.inl z
          · by_cases q : v = s
            · rw [q] at z2; exact absurd z2 a3
            · exact Or.inr ⟨v, k, by omega, z2, z3⟩)) (fun q v k hv hr hk9 => by
        by_cases z : v = s
        · rw [z] at hr; exact absurd hr a3
        · exact h9 q v k (by omega) hr hk9) h10
theorem rc_laysReached (F : Nat) (hF : 70000 ≤ F) {m M : Nat} {H : HM} {now b : Nat} (hM : M < 512) {h : Hp} (rs : RS h m H now b) (h10 : ¬ M = 511 → ∀ v k, RH H b M now v → k < 9 → hp_I h (m + 9) (9 * v + k) = oN (mv H b v k)) : ∃ h', f_X12_laysReached F m (nI M) h = some ((), h') ∧ CI m [5, 6, 8, 9] h h' ∧ RCH h' m (RH H b M now) ∧ (∀ v k, RH H b M now v → k < 9 → hp_I h' (m + 9) (9 * v + k) = oN (mv H b v k)) ∧ (¬ M = 511 → hp_I h' (m + 9) = hp_I h (m + 9)) := by
  unfold f_X12_laysReached
  have hn := rs.s16
  rw [cV_n rs.1.1 (rs.stand F (by omega))]
  obtain ⟨h1, e1, c1, w1⟩ := rc_reach7 F (M := M) hn 65536 0 F h rs.1 (by omega) (by omega)
  rw [show f_X12_laysReached_7 F F m (nI M) (nI now) 0 h = _ from e1]
  have r1 := rs.ci c1 (by decide)
  obtain ⟨h', e, c, v8, v9, v10⟩ := rc_reach37 F (by omega) hM (65536 - now) now F h1 r1 (by omega) (by omega) (Nat.le_refl _) (fun u hu => by
    rw [w1 u, if_pos (by omega)]
    by_cases q : u = now
    · rw [if_pos q]; exact Or.inl ⟨rfl, Or.inl q⟩
    · rw [if_neg q]
      refine Or.inr ⟨rfl, ?_⟩
      rintro (z | ⟨v, k, z1, z2, z3, z4, z5⟩)
      · exact q z
      · have := (z2.ok rs.2.1 rs.2.2.2.2.1).2
        omega) (fun q v k hv hr _ => by
    have := (hr.ok rs.2.1 rs.2.2.2.2.1).2
    omega) (fun q v k hr hk => by rw [c1.at (by decide)]; exact h10 q v k hr hk)
  exact ⟨h', e, (c1.mono (by decide)).tr c, v8, v9, fun q => by rw [v10 q, c1.at (by decide)]⟩
