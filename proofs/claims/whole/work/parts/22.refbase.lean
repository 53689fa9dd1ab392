/-! L3: the reference's small methods; what they mean in numbers -/
theorem nx_or (a b : Nat) : nI a ||| nI b = nI (a ||| b) := by
  apply Int32.toBitVec_inj.1
  show BitVec.ofNat 32 a ||| BitVec.ofNat 32 b = BitVec.ofNat 32 (a ||| b)
  apply BitVec.eq_of_getLsbD_eq
  intro i hi
  simp [hi]
theorem i_ge {a k : Nat} (h : k < a) (ha : a < 2 ^ 31) : ¬ nI a ≤ nI k := nI_ge h ha
/-- a power of two by a shift -/
theorem shl1 : ∀ n, n < 31 → (1 : Int32) <<< (nI n &&& 31) = nI (2 ^ n) := by decide +kernel
theorem sh_amt : ∀ n, n < 32 → nI n &&& 31 = nI n := by decide +kernel
theorem or_pow {a n : Nat} (h : a < 2 ^ n) : a ||| 2 ^ n = a + 2 ^ n := by
  have := Nat.two_pow_add_eq_or_of_lt h 1
  rw [Nat.mul_one] at this
  rw [Nat.or_comm, ← this, Nat.add_comm]
/-- how many facts a twin knows -/
def b1 (p : Prop) [Decidable p] : Nat := if p then 1 else 0
theorem b1_le (p : Prop) [Decidable p] : b1 p ≤ 1 := by unfold b1; split <;> omega
def kn (s t : Nat) : Nat := b1 (0 < dg s (4 * t)) + b1 (0 < dg s (4 * t + 1)) + b1 (0 < dg s (4 * t + 2)) + b1 (0 < dg s (4 * t + 3))
theorem kn_le (s t : Nat) : kn s t ≤ 4 := by
  have := b1_le (0 < dg s (4 * t)); have := b1_le (0 < dg s (4 * t + 1)); have := b1_le (0 < dg s (4 * t + 2)); have := b1_le (0 < dg s (4 * t + 3))
  unfold kn; omega
theorem rc_knownIn_s (F n : Nat) {s t k acc : Nat} (hs : s < 65536) (ht : t < 2) (hk : k < 4) (h : Hp) : f_X12_knownIn_4 F (n + 1) (nI s) (nI t) (nI acc) (nI k) h = f_X12_knownIn_4 F n (nI s) (nI t) (nI (acc + b1 (0 < dg s (4 * t + k)))) (nI (k + 1)) h := by
  show f_X12_knownIn_4_b F (f_X12_knownIn_4 F n) (nI s) (nI t) (nI acc) (nI k) h = _
  unfold f_X12_knownIn_4_b
  rw [if_neg (show ¬ (4 : Int32) ≤ nI k from i_ge hk (by decide)), bd_n (rc_ageIn F hs ht hk h)]
  have hd := dg_lt s (4 * t + k)
  unfold b1
  by_cases q : 0 < dg s (4 * t + k)
  · rw [if_neg (nI_nle q (by omega)), if_pos q]
    unfold f_X12_knownIn_24
    rw [lt_e, nI_1 k]
    show f_X12_knownIn_4 F n _ _ (nI acc + nI 1) _ h = _
    rw [nI_add]
  · rw [if_pos (show nI _ ≤ 0 by rw [show dg s (4 * t + k) = 0 by omega]; decide), if_neg q]
    unfold f_X12_knownIn_24
    rw [lt_e, nI_1 k]
    show f_X12_knownIn_4 F n _ _ (nI acc + nI 0) _ h = _
    rw [nI_add]
theorem rc_knownIn (F : Nat) (hF : 100 ≤ F) {s t : Nat} (hs : s < 65536) (ht : t < 2) (h : Hp) : f_X12_knownIn F (nI s) (nI t) h = some (nI (kn s t), h) := by
  obtain ⟨G, hG⟩ : ∃ G, F = G + 1 + 1 + 1 + 1 + 1 := ⟨F - 5, by omega⟩
  unfold f_X12_knownIn
  show f_X12_knownIn_4 F F (nI s) (nI t) (nI 0) (nI 0) h = _
  rw [show f_X12_knownIn_4 F F = f_X12_knownIn_4 F (G + 1 + 1 + 1 + 1 + 1) by rw [← hG]]
  have := b1_le (0 < dg s (4 * t)); have := b1_le (0 < dg s (4 * t + 1)); have := b1_le (0 < dg s (4 * t + 2)); have := b1_le (0 < dg s (4 * t + 3))
  rw [rc_knownIn_s F _ hs ht (by decide), rc_knownIn_s F _ hs ht (by decide), rc_knownIn_s F _ hs ht (by decide), rc_knownIn_s F _ hs ht (by decide)]
  show f_X12_knownIn_4_b F (f_X12_knownIn_4 F G) (nI s) (nI t) _ (nI 4) h = _
  unfold f_X12_knownIn_4_b
  rw [if_pos (show (4 : Int32) ≤ nI 4 by decide)]
  simp only [kn, Nat.add_zero, Nat.zero_add]
/-- a day -/
def dyv (a : Nat) : Nat := if a = 1 ∨ a = 2 then a + 1 else a
theorem dyv_lt {a : Nat} (h : a < 4) : dyv a < 4 := by unfold dyv; split <;> omega
def dy (s : Nat) : Nat := mkS (fun j => dyv (dg s j))
theorem dy_lt (s : Nat) : dy s < 65536 := mkS_lt fun k _ => dyv_lt (dg_lt s k)
theorem dg_dy {s k : Nat} (hk : k < 8) : dg (dy s) k = dyv (dg s k) := dg_mk (v := fun j => dyv (dg s j)) (fun k _ => dyv_lt (dg_lt s k)) hk
/-- the days of the first k digits -/
def dyp (s k : Nat) : Nat := mkS (fun j => if j < k then dyv (dg s j) else dg s j)
theorem dyp_lt (s k : Nat) : dyp s k < 65536 := mkS_lt fun j _ => by
  show (if j < k then dyv (dg s j) else dg s j) < 4
  split
  · exact dyv_lt (dg_lt s j)
  · exact dg_lt s j
theorem dyp_s {s k : Nat} (hk : k < 8) : dyp s (k + 1) = dyp s k + (if dg s k = 1 ∨ dg s k = 2 then 4 ^ k else 0) := by
  unfold dyp mkS
  have e : dyv (dg s k) = dg s k + if dg s k = 1 ∨ dg s k = 2 then 1 else 0 := by unfold dyv; split <;> rfl
  rcases (show k = 0 ∨ k = 1 ∨ k = 2 ∨ k = 3 ∨ k = 4 ∨ k = 5 ∨ k = 6 ∨ k = 7 by omega) with rfl | rfl | rfl | rfl | rfl | rfl | rfl | rfl <;> simp only [Nat.reduceLT, Nat.reduceAdd, if_true, if_false, Nat.reducePow, e] <;> split <;> omega
theorem i64_nI {n : Nat} (h : n < 2 ^ 31) : (nI n).toInt64 = lN n := nI_l h
theorem rc_within (F : Nat) {v a b : Nat} (hv : v < 2 ^ 31) (ha : a < 2 ^ 31) (hb : b < 2 ^ 31) (h : Hp) : f_X12_within F (lN v) (lN a) (lN b) h = some (nI (b1 (a ≤ v ∧ v ≤ b)), h) := by
  unfold f_X12_within b1
  by_cases q : v < a
  · rw [if_pos ((lN_lt hv ha).mpr q), if_neg (by omega)]; rfl
  · rw [if_neg (fun z => q ((lN_lt hv ha).mp z))]
    by_cases q2 : b < v
    · rw [if_pos ((lN_lt hb hv).mpr q2), if_neg (by omega)]; rfl
    · rw [if_neg (fun z => q2 ((lN_lt hb hv).mp z)), if_pos (by omega)]; rfl
theorem dg_and {s k : Nat} (hs : s < 65536) (hk : k < 8) : (nI s >>> (nI (2 * k) &&& 31)) &&& 3 = nI (dg s k) := by
  rw [pk_shrN (by omega) _ (2 * k) (s_l (2 * k) (by omega)), pk_andN (Nat.lt_of_le_of_lt (Nat.div_le_self _ _) (by omega)) 2 (by decide)]
  simp only [dg, Nat.pow_mul, show (2 : Nat) ^ 2 = 4 from rfl]
theorem two_k (k : Nat) : 2 * nI k = nI (2 * k) := pk_mul 2 k
theorem rc_dayTo_s (F n : Nat) {s k : Nat} (hs : s < 65536) (hk : k < 8) (h : Hp) : f_X12_dayTo_4 F (n + 1) (nI s) (nI (dyp s k)) (nI k) h = f_X12_dayTo_4 F n (nI s) (nI (dyp s (k + 1))) (nI (k + 1)) h := by
  show f_X12_dayTo_4_b F (f_X12_dayTo_4 F n) (nI s) (nI (dyp s k)) (nI k) h = _
  have hd := dg_lt s k
  unfold f_X12_dayTo_4_b
  rw [if_neg (show ¬ (8 : Int32) ≤ nI k from i_ge hk (by decide)), two_k, dg_and hs hk, i64_nI (by omega)]
  rw [bd_n (show f_X12_within F (lN (dg s k)) 1 2 h = _ from rc_within F (a := 1) (b := 2) (by omega) (by decide) (by decide) h), dyp_s hk]
  unfold b1 f_X12_dayTo_36
  by_cases q : dg s k = 1 ∨ dg s k = 2
  · rw [if_pos (show 1 ≤ dg s k ∧ dg s k ≤ 2 by omega), if_neg (by decide), if_pos q, lt_e, nI_1, shl1 (2 * k) (by omega), nI_add, Nat.pow_mul]
  · rw [if_neg (show ¬ (1 ≤ dg s k ∧ dg s k ≤ 2) by omega), if_pos (by decide), if_neg q, nI_1]; rfl
theorem rc_dayTo (F : Nat) (hF : 100 ≤ F) {s : Nat} (hs : s < 65536) (h : Hp) : f_X12_dayTo F (nI s) h = some (nI (dy s), h) := by
  obtain ⟨G, hG⟩ : ∃ G, F = G + 1 + 1 + 1 + 1 + 1 + 1 + 1 + 1 + 1 := ⟨F - 9, by omega⟩
  unfold f_X12_dayTo
  have e0 : dyp s 0 = s := by
    have : dyp s 0 = mkS (dg s) := mkS_congr fun k _ => if_neg (Nat.not_lt_zero k)
    rw [this, mk_dg hs]
  have e8 : dyp s 8 = dy s := mkS_congr fun k hk => if_pos hk
  rw [show f_X12_dayTo_4 F F (nI s) (nI s) 0 h = f_X12_dayTo_4 F (G + 1 + 1 + 1 + 1 + 1 + 1 + 1 + 1 + 1) (nI s) (nI (dyp s 0)) (nI 0) h by rw [← hG, e0]; rfl]
  rw [rc_dayTo_s F _ hs (by decide), rc_dayTo_s F _ hs (by decide), rc_dayTo_s F _ hs (by decide), rc_dayTo_s F _ hs (by decide), rc_dayTo_s F _ hs (by decide), rc_dayTo_s F _ hs (by decide), rc_dayTo_s F _ hs (by decide), rc_dayTo_s F _ hs (by decide)]
  show f_X12_dayTo_4_b F (f_X12_dayTo_4 F G) (nI s) (nI (dyp s 8)) (nI 8) h = _
  unfold f_X12_dayTo_4_b
  rw [if_pos (show (8 : Int32) ≤ nI 8 by decide), e8]
/-- bits of a set, counted -/
def pc (n : Nat) : Nat := b1 (n.testBit 0 = true) + b1 (n.testBit 1 = true) + b1 (n.testBit 2 = true) + b1 (n.testBit 3 = true) + b1 (n.testBit 4 = true) + b1 (n.testBit 5 = true) + b1 (n.testBit 6 = true) + b1 (n.testBit 7 = true) + b1 (n.testBit 8 = true) + b1 (n.testBit 9 = true)
theorem tb_and {n k : Nat} (hn : n < 2 ^ 31) (hk : k < 31) : (nI n >>> (nI k &&& 31)) &&& 1 = nI (b1 (n.testBit k = true)) := by
  rw [pk_shrN hn _ k (s_l k (by omega)), pk_andN (Nat.lt_of_le_of_lt (Nat.div_le_self _ _) (by omega)) 1 (by decide)]
  congr 1
  unfold b1
  rw [Nat.testBit_eq_decide_div_mod_eq]
  by_cases q : n / 2 ^ k % 2 = 1
  · simp [q]
  · simp [q]; omega
theorem rc_bitsOf_s (F n : Nat) {v k acc : Nat} (hv : v < 2 ^ 31) (hk : k < 10) (h : Hp) : f_X12_bitsOf_4 F (n + 1) (nI v) (nI acc) (nI k) h = f_X12_bitsOf_4 F n (nI v) (nI (acc + b1 (v.testBit k = true))) (nI (k + 1)) h := by
  show f_X12_bitsOf_4_b F (f_X12_bitsOf_4 F n) (nI v) (nI acc) (nI k) h = _
  unfold f_X12_bitsOf_4_b
  rw [if_neg (show ¬ (10 : Int32) ≤ nI k from i_ge hk (by decide)), lt_e, tb_and hv (by omega), nI_add, nI_1]
theorem rc_bitsOf (F : Nat) (hF : 100 ≤ F) {v : Nat} (hv : v < 2 ^ 31) (h : Hp) : f_X12_bitsOf F (nI v) h = some (nI (pc v), h) := by
  obtain ⟨G, hG⟩ : ∃ G, F = G + 1 + 1 + 1 + 1 + 1 + 1 + 1 + 1 + 1 + 1 + 1 := ⟨F - 11, by omega⟩
  unfold f_X12_bitsOf
  rw [show f_X12_bitsOf_4 F F (nI v) 0 0 h = f_X12_bitsOf_4 F (G + 1 + 1 + 1 + 1 + 1 + 1 + 1 + 1 + 1 + 1 + 1) (nI v) (nI 0) (nI 0) h by rw [← hG]; rfl]
  rw [rc_bitsOf_s F _ hv (by decide), rc_bitsOf_s F _ hv (by decide), rc_bitsOf_s F _ hv (by decide), rc_bitsOf_s F _ hv (by decide), rc_bitsOf_s F _ hv (by decide), rc_bitsOf_s F _ hv (by decide), rc_bitsOf_s F _ hv (by decide), rc_bitsOf_s F _ hv (by decide), rc_bitsOf_s F _ hv (by decide), rc_bitsOf_s F _ hv (by decide)]
  show f_X12_bitsOf_4_b F (f_X12_bitsOf_4 F G) (nI v) _ (nI 10) h = _
  unfold f_X12_bitsOf_4_b
  rw [if_pos (show (10 : Int32) ≤ nI 10 by decide)]
  simp only [pc, Nat.zero_add]
