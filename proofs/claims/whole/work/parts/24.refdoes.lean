/-! L3: doings -/
theorem l_amt : ∀ k, k < 32 → (((nI k).toInt64 &&& 63).toBitVec.smod 64).toNat = k := by decide +kernel
theorem l_shr {n k : Nat} (hn : n < 2 ^ 31) (hk : k < 32) : lN n >>> ((nI k).toInt64 &&& 63) = lN (n / 2 ^ k) := by
  apply Int64.toBitVec_inj.mp
  rw [Int64.toBitVec_shiftRight]
  show (BitVec.ofNat 64 n).sshiftRight (((nI k).toInt64 &&& 63).toBitVec.smod 64).toNat = BitVec.ofNat 64 (n / 2 ^ k)
  have h64 : n % 2 ^ 64 = n := Nat.mod_eq_of_lt (Nat.lt_trans hn (by decide))
  rw [l_amt k hk, BitVec.sshiftRight_eq_of_msb_false (by
    rw [BitVec.msb_eq_decide, BitVec.toNat_ofNat, h64]
    exact decide_eq_false (by omega))]
  apply BitVec.eq_of_toNat_eq
  rw [BitVec.toNat_ushiftRight, BitVec.toNat_ofNat, BitVec.toNat_ofNat, h64, Nat.shiftRight_eq_div_pow]
  exact (Nat.mod_eq_of_lt (Nat.lt_of_le_of_lt (Nat.div_le_self _ _) (Nat.lt_trans hn (by decide)))).symm
theorem l_and1 (n : Nat) : lN n &&& 1 = lN (n % 2) := by
  apply Int64.toBitVec_inj.mp
  show BitVec.ofNat 64 n &&& BitVec.ofNat 64 1 = BitVec.ofNat 64 (n % 2)
  apply BitVec.eq_of_getLsbD_eq
  intro i hi
  rw [BitVec.getLsbD_and, BitVec.getLsbD_ofNat, BitVec.getLsbD_ofNat, BitVec.getLsbD_ofNat]
  simp only [hi, decide_true, Bool.true_and]
  rw [show n % 2 = n % 2 ^ 1 from rfl, Nat.testBit_mod_two_pow]
  cases i with
  | zero => simp
  | succ i => simp [Nat.testBit_succ]
theorem rc_isIn (F : Nat) {n k : Nat} (hn : n < 2 ^ 31) (hk : k < 31) (h : Hp) : f_X12_isIn F (lN n) (nI k) h = some (nI (b1 (n.testBit k = true)), h) := by
  unfold f_X12_isIn
  rw [l_shr hn (by omega), l_and1]
  unfold b1
  rw [Nat.testBit_eq_decide_div_mod_eq]
  by_cases q : n / 2 ^ k % 2 = 1
  · rw [q, if_pos (show lN 1 = 1 from rfl), if_pos (by simp)]; rfl
  · have q0 : n / 2 ^ k % 2 = 0 := by omega
    rw [q0, if_neg (show ¬ lN 0 = 1 by decide), if_neg (by simp)]; rfl
/-- a twin's age lets a doing be, as to fact f -/
def dsb (H : HM) (s t d f : Nat) : Bool := decide (hm_n H d f ≤ dg s (4 * t + f)) && !((hm_b H d).testBit f && decide (0 < dg s (4 * t + f)))
def dsr (H : HM) (s t d : Nat) : Nat → Nat → Bool
  | _, 0 => true
  | k, r + 1 => dsb H s t d k && dsr H s t d (k + 1) r
def dse (H : HM) (s t d : Nat) : Bool := dsr H s t d 0 (hm_f H)
def b2 (b : Bool) : Nat := if b then 1 else 0
theorem rc_doesIn_r (F : Nat) {m : Nat} {h : Hp} (hS : SR h m) {H : HM} (hH : HMok H) {s b : Nat} {s0 : Nat} (hB : RB (hp_I h (m + 1)) H s0 b) (hs : s < 65536) {t d : Nat} (ht : t < 2) (hd : d < 6) : ∀ r k n, k + r = hm_f H → r < n → f_X12_doesIn_3 F n m (nI s) (nI t) (nI d) (nI k) h = some (nI (b2 (dsr H s t d k r)), h) := by
  obtain ⟨b0, b1', b2', b3, b4, b5, b6⟩ := hB
  obtain ⟨o1, o2, o3, o4, o5, -⟩ := hH
  intro r
  induction r with
  | zero =>
    intro k n hk hn
    obtain ⟨n, rfl⟩ : ∃ j, n = j + 1 := ⟨n - 1, by omega⟩
    show f_X12_doesIn_3_b F (f_X12_doesIn_3 F n) m (nI s) (nI t) (nI d) (nI k) h = _
    unfold f_X12_doesIn_3_b
    rw [hS.g 1 1 (by decide) rfl, hS.a 1 1 (show (1 : Int32) = nI 1 from rfl) (by decide) (by decide), b1', if_pos (nI_le (by omega) (by omega))]
    rfl
  | succ r ih =>
    intro k n hk hn
    obtain ⟨n, rfl⟩ : ∃ j, n = j + 1 := ⟨n - 1, by omega⟩
    have hk4 : k < 4 := by omega
    have hg := dg_lt s (4 * t + k)
    have hnd := o3 d k hd hk4
    have hbd := o4 d hd
    show f_X12_doesIn_3_b F (f_X12_doesIn_3 F n) m (nI s) (nI t) (nI d) (nI k) h = _
    unfold f_X12_doesIn_3_b f_X12_doesIn_68
    rw [hS.g 1 1 (by decide) rfl, hS.a 1 1 (show (1 : Int32) = nI 1 from rfl) (by decide) (by decide), b1', if_neg (nI_ge (by omega) (by omega)), bd_n (rc_ageIn F hs ht hk4 h), hS.g 1 1 (by decide) rfl]
    rw [hS.a 1 (13 + 4 * d + k) (show 13 + 4 * nI d + nI k = nI (13 + 4 * d + k) by rw [show 4 * nI d = nI (4 * d) from pk_mul 4 d, show 13 + nI (4 * d) = nI (13 + 4 * d) from nI_add 13 (4 * d), nI_add]) (by decide) (show 13 + 4 * d + k < 3132 by omega), b3 d k hd hk4]
    rw [dsr]
    by_cases q : dg s (4 * t + k) < hm_n H d k
    · rw [if_pos (nI_lt q (by omega))]
      have : dsb H s t d k = false := by unfold dsb; rw [decide_eq_false (by omega)]; rfl
      rw [this]
      rfl
    · rw [if_neg (nI_nlt (by omega) (by omega)), hS.g 1 1 (by decide) rfl, hS.a 1 (37 + d) (show 37 + nI d = nI (37 + d) from nI_add 37 d) (by decide) (show 37 + d < 3132 by omega), b4 d hd, i64_nI (by omega), bd_n (rc_isIn F (by omega) (by omega) h)]
      have hq : decide (hm_n H d k ≤ dg s (4 * t + k)) = true := decide_eq_true (by omega)
      have ih1 := ih (k + 1) n (by omega) (by omega)
      unfold b1
      by_cases q2 : (hm_b H d).testBit k = true
      · rw [if_pos q2, if_neg (show ¬ nI 1 = 0 by decide), bd_n (rc_ageIn F hs ht hk4 h)]
        by_cases q3 : 0 < dg s (4 * t + k)
        · rw [if_neg (nI_nle q3 (by omega))]
          have : dsb H s t d k = false := by unfold dsb; rw [hq, q2, decide_eq_true q3]; rfl
          rw [this]
          rfl
        · rw [if_pos (show nI _ ≤ 0 by rw [show dg s (4 * t + k) = 0 by omega]; decide), nI_1, ih1]
          have : dsb H s t d k = true := by unfold dsb; rw [hq, decide_eq_false q3, Bool.and_false]; rfl
          rw [this, Bool.true_and]
      · rw [if_neg q2, if_pos (show nI 0 = 0 from rfl), nI_1, ih1]
        have : dsb H s t d k = true := by unfold dsb; rw [hq, Bool.not_eq_true _ |>.mp q2]; rfl
        rw [this, Bool.true_and]
theorem rc_doesIn (F : Nat) (hF : 100 ≤ F) {m : Nat} {h : Hp} (hS : SR h m) {H : HM} (hH : HMok H) {s b s0 : Nat} (hB : RB (hp_I h (m + 1)) H s0 b) (hs : s < 65536) {t d : Nat} (ht : t < 2) (hd : d < 6) : f_X12_doesIn F m (nI s) (nI t) (nI d) h = some (nI (b2 (dse H s t d)), h) := by
  unfold f_X12_doesIn
  exact rc_doesIn_r F hS hH hB hs ht hd (hm_f H) 0 F (by omega) (by have := hH.1; omega)
/-- a set of those below n that are so -/
def msk (p : Nat → Bool) : Nat → Nat
  | 0 => 0
  | n + 1 => msk p n + (if p n then 2 ^ n else 0)
theorem msk_lt (p : Nat → Bool) : ∀ n, msk p n < 2 ^ n := by
  intro n
  induction n with
  | zero => exact Nat.one_pos
  | succ n ih =>
    rw [msk, Nat.pow_succ]
    split <;> omega
theorem or_msk {p : Nat → Bool} {n : Nat} (hn : n < 31) : nI (msk p n) ||| (if p n then nI (2 ^ n) else 0) = nI (msk p (n + 1)) := by
  rw [msk]
  by_cases q : p n = true
  · rw [if_pos q, if_pos q, nx_or, or_pow (msk_lt p n)]
  · rw [if_neg q, if_neg q]
    show nI _ ||| nI 0 = _
    rw [nx_or, Nat.or_zero, Nat.add_zero]
/-- the doings that a twin does -/
def dsa (H : HM) (s t : Nat) : Nat := msk (dse H s t) (hm_d H)
theorem dsa_lt {H : HM} (hH : HMok H) (s t : Nat) : dsa H s t < 64 := Nat.lt_of_lt_of_le (msk_lt _ _) (Nat.pow_le_pow_right (n := 2) (by decide) hH.2.1)
theorem rc_doesAll_r (F : Nat) (hF : 100 ≤ F) {m : Nat} {h : Hp} (hS : SR h m) {H : HM} (hH : HMok H) {s b s0 : Nat} (hB : RB (hp_I h (m + 1)) H s0 b) (hs : s < 65536) {t : Nat} (ht : t < 2) : ∀ r k n, k + r = hm_d H → r < n → f_X12_doesAll_5 F n m (nI s) (nI t) (nI (msk (dse H s t) k)) (nI k) h = some (nI (dsa H s t), h) := by
  have b2' := hB.2.2.1
  have o2 := hH.2.1
  intro r
  induction r with
  | zero =>
    intro k n hk hn
    obtain ⟨n, rfl⟩ : ∃ j, n = j + 1 := ⟨n - 1, by omega⟩
    show f_X12_doesAll_5_b F (f_X12_doesAll_5 F n) m (nI s) (nI t) _ (nI k) h = _
    unfold f_X12_doesAll_5_b
    rw [hS.g 1 1 (by decide) rfl, hS.a 1 2 (show (2 : Int32) = nI 2 from rfl) (by decide) (by decide), b2', if_pos (nI_le (by omega) (by omega)), show k = hm_d H by omega]
    rfl
  | succ r ih =>
    intro k n hk hn
    obtain ⟨n, rfl⟩ : ∃ j, n = j + 1 := ⟨n - 1, by omega⟩
    show f_X12_doesAll_5_b F (f_X12_doesAll_5 F n) m (nI s) (nI t) _ (nI k) h = _
    unfold f_X12_doesAll_5_b f_X12_doesAll_36
    have hk6 : k < 6 := by omega
    rw [hS.g 1 1 (by decide) rfl, hS.a 1 2 (show (2 : Int32) = nI 2 from rfl) (by decide) (by decide), b2', if_neg (nI_ge (by omega) (by omega)), cV_n hS.1 (rc_doesIn F hF hS hH hB hs ht hk6)]
    have e := or_msk (p := dse H s t) (n := k) (by omega)
    have ih1 := ih (k + 1) n (by omega) (by omega)
    unfold b2
    by_cases q : dse H s t k = true
    · rw [if_pos q] at e
      rw [if_pos q, if_neg (show ¬ nI 1 = 0 by decide), lt_e, shl1 k (by omega), nI_1, e, ih1]
    · rw [if_neg q] at e
      rw [if_neg q, if_pos (show nI 0 = 0 from rfl), lt_e, nI_1, e, ih1]
theorem rc_doesAll (F : Nat) (hF : 100 ≤ F) {m : Nat} {h : Hp} (hS : SR h m) {H : HM} (hH : HMok H) {s b s0 : Nat} (hB : RB (hp_I h (m + 1)) H s0 b) (hs : s < 65536) {t : Nat} (ht : t < 2) : f_X12_doesAll F m (nI s) (nI t) h = some (nI (dsa H s t), h) := by
  unfold f_X12_doesAll
  exact rc_doesAll_r F hF hS hH hB hs ht (hm_d H) 0 F (by omega) (by have := hH.2.1; omega)
theorem rc_doesBoth (F : Nat) (hF : 100 ≤ F) {m : Nat} {h : Hp} (hS : SR h m) {H : HM} (hH : HMok H) {s b s0 : Nat} (hB : RB (hp_I h (m + 1)) H s0 b) (hs : s < 65536) : f_X12_doesBoth F m (nI s) h = some (nI (pc (dsa H s 0) + pc (dsa H s 1)), h) := by
  unfold f_X12_doesBoth
  have h0 := dsa_lt hH s 0
  have h1 := dsa_lt hH s 1
  rw [cV_n hS.1 (show f_X12_doesAll F m (nI s) 0 h = _ from rc_doesAll F hF hS hH hB hs (t := 0) (by decide)), bd_n (rc_bitsOf F hF (by omega) h), cV_n hS.1 (show f_X12_doesAll F m (nI s) 1 h = _ from rc_doesAll F hF hS hH hB hs (t := 1) (by decide)), bd_n (rc_bitsOf F hF (by omega) h), nI_add]
