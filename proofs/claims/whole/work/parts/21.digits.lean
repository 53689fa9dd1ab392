/-! L3: stands as numbers of eight digits to the base 4 -/
def mkS (v : Nat → Nat) : Nat := v 0 + 4 * v 1 + 16 * v 2 + 64 * v 3 + 256 * v 4 + 1024 * v 5 + 4096 * v 6 + 16384 * v 7
theorem mkS_lt {v : Nat → Nat} (hv : ∀ k, k < 8 → v k < 4) : mkS v < 65536 := by
  have h0 := hv 0 (by decide); have h1 := hv 1 (by decide); have h2 := hv 2 (by decide); have h3 := hv 3 (by decide)
  have h4 := hv 4 (by decide); have h5 := hv 5 (by decide); have h6 := hv 6 (by decide); have h7 := hv 7 (by decide)
  unfold mkS
  omega
theorem dg_mk {v : Nat → Nat} (hv : ∀ k, k < 8 → v k < 4) {k : Nat} (hk : k < 8) : dg (mkS v) k = v k := by
  have h0 := hv 0 (by decide); have h1 := hv 1 (by decide); have h2 := hv 2 (by decide); have h3 := hv 3 (by decide)
  have h4 := hv 4 (by decide); have h5 := hv 5 (by decide); have h6 := hv 6 (by decide); have h7 := hv 7 (by decide)
  unfold dg mkS
  rcases (show k = 0 ∨ k = 1 ∨ k = 2 ∨ k = 3 ∨ k = 4 ∨ k = 5 ∨ k = 6 ∨ k = 7 by omega) with rfl | rfl | rfl | rfl | rfl | rfl | rfl | rfl <;> simp only [Nat.reducePow] <;> omega
theorem mk_dg {s : Nat} (hs : s < 65536) : mkS (dg s) = s := by
  unfold mkS dg
  simp only [Nat.reducePow]
  omega
theorem mkS_congr {v w : Nat → Nat} (h : ∀ k, k < 8 → v k = w k) : mkS v = mkS w := by
  unfold mkS
  rw [h 0 (by decide), h 1 (by decide), h 2 (by decide), h 3 (by decide), h 4 (by decide), h 5 (by decide), h 6 (by decide), h 7 (by decide)]
theorem dg_ext {s t : Nat} (hs : s < 65536) (ht : t < 65536) (h : ∀ k, k < 8 → dg s k = dg t k) : s = t := by
  rw [← mk_dg hs, ← mk_dg ht]
  exact mkS_congr h
/-- one digit set -/
def st4 (s k v : Nat) : Nat := mkS (fun j => if j = k then v else dg s j)
theorem st4_v {s k v : Nat} (hv : v < 4) : ∀ j, j < 8 → (fun j => if j = k then v else dg s j) j < 4 := by
  intro j _
  show (if j = k then v else dg s j) < 4
  by_cases e : j = k
  · rw [if_pos e]; exact hv
  · rw [if_neg e]; exact dg_lt _ _
theorem st4_lt {s k v : Nat} (hv : v < 4) : st4 s k v < 65536 := mkS_lt (st4_v hv)
theorem dg_st {s k v j : Nat} (hv : v < 4) (hj : j < 8) : dg (st4 s k v) j = if j = k then v else dg s j := dg_mk (st4_v hv) hj
/-- bits of a number are bits of its digits -/
theorem tb_dg (s i : Nat) : s.testBit i = (dg s (i / 2)).testBit (i % 2) := by
  unfold dg
  have e : (4 : Nat) ^ (i / 2) = 2 ^ (2 * (i / 2)) := by rw [Nat.pow_mul]
  have e2 : (4 : Nat) = 2 ^ 2 := rfl
  rw [e]
  rw [show (s / 2 ^ (2 * (i / 2)) % 4) = (s / 2 ^ (2 * (i / 2)) % 2 ^ 2) from rfl, Nat.testBit_mod_two_pow, Nat.testBit_div_two_pow]
  have h : i % 2 < 2 := Nat.mod_lt _ (by decide)
  simp only [h, decide_true, Bool.true_and]
  congr 1
  omega
theorem bt_nI {n i : Nat} (hi : i < 32) : bt (nI n) i = n.testBit i := by
  unfold bt nI
  show (BitVec.ofNat 32 n).getLsbD i = _
  rw [BitVec.getLsbD_ofNat]
  simp [hi]
theorem bt_hi {n i : Nat} (hn : n < 65536) (h : 16 ≤ i) (hi : i < 32) : bt (nI n) i = false := by
  rw [bt_nI hi]
  exact Nat.testBit_lt_two_pow (Nat.lt_of_lt_of_le hn (Nat.pow_le_pow_right (n := 2) (by decide) h))
theorem tb_hi {v j : Nat} (hv : v < 4) (h : 2 ≤ j) : v.testBit j = false := Nat.testBit_lt_two_pow (Nat.lt_of_lt_of_le hv (Nat.pow_le_pow_right (n := 2) (by decide) h))
theorem bt_3 : ∀ i, i < 32 → bt 3 i = decide (i < 2) := by decide +kernel
/-- an Int32 is a number below 65536 if its bits say so -/
theorem nI_bits {x : Int32} {s : Nat} (hs : s < 65536) (h : ∀ i, i < 16 → bt x i = (dg s (i / 2)).testBit (i % 2)) (h2 : ∀ i, 16 ≤ i → i < 32 → bt x i = false) : x = nI s := by
  refine b_ext fun i hi => ?_
  rcases Nat.lt_or_ge i 16 with q | q
  · rw [h i q, bt_nI hi]; exact (tb_dg s i).symm
  · rw [h2 i q hi, bt_hi hs q hi]
theorem bt_dg {s i : Nat} (hi : i < 32) : bt (nI s) i = (dg s (i / 2)).testBit (i % 2) := by rw [bt_nI hi, tb_dg]
/-- setting two bits -/
theorem set_bits {s k v : Nat} (hs : s < 65536) (hk : k < 8) (hv : v < 4) : (nI s &&& (((3 : Int32) <<< (nI (2 * k) &&& 31)) ^^^ (-1))) ||| (nI v <<< (nI (2 * k) &&& 31)) = nI (st4 s k v) := by
  refine nI_bits (st4_lt hv) (fun i hi => ?_) (fun i h1 h2 => ?_)
  · rw [b_or, b_and, b_xor, b_shl (2 * k) (by omega) _ (by omega), b_shl (2 * k) (by omega) _ (by omega), b_m1 i (by omega), bt_3 (i - 2 * k) (by omega), bt_dg (by omega), bt_nI (by omega), dg_st hv (by omega)]
    by_cases e : i / 2 = k
    · rw [if_pos e]
      have e1 : 2 * k ≤ i := by omega
      have e2 : i - 2 * k < 2 := by omega
      have e3 : i - 2 * k = i % 2 := by omega
      simp only [e1, e2, e3, decide_true]
      simp
      omega
    · rw [if_neg e]
      rcases Nat.lt_or_ge i (2 * k) with q | q
      · have e1 : ¬ 2 * k ≤ i := by omega
        simp [e1]
      · have e2 : ¬ i - 2 * k < 2 := by omega
        rw [tb_hi hv (by omega)]
        simp [q, e2]
  · rw [b_or, b_and, b_shl (2 * k) (by omega) _ h2, bt_hi hs h1 h2, bt_nI (by omega), tb_hi hv (by omega)]
    simp
theorem rc_withAge (F : Nat) {s t f v : Nat} (hs : s < 65536) (ht : t < 2) (hf : f < 4) (hv : v < 4) (h : Hp) : f_X12_withAge F (nI s) (nI t) (nI f) (nI v) h = some (nI (st4 s (4 * t + f) v), h) := by
  unfold f_X12_withAge
  rw [lt_e]
  have e : 2 * (4 * nI t + nI f) = nI (2 * (4 * t + f)) := by
    rcases (show t = 0 ∨ t = 1 by omega) with rfl | rfl <;> rcases (show f = 0 ∨ f = 1 ∨ f = 2 ∨ f = 3 by omega) with rfl | rfl | rfl | rfl <;> decide
  rw [e, set_bits hs (by omega) hv]
