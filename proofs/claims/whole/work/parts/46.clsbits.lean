/-! L3, the class: ages of all in one number, four bits a fact -/
def cs (s : Nat) : Nat := mkS (fun j => dg s (4 * (j % 2) + j / 2))
theorem cs_lt (s : Nat) : cs s < 65536 := mkS_lt fun _ _ => dg_lt _ _
theorem dg_cs {s t f : Nat} (ht : t < 2) (hf : f < 4) : dg (cs s) (2 * f + t) = dg s (4 * t + f) := by
  unfold cs
  rw [dg_mk (fun _ _ => dg_lt _ _) (by omega)]
  show dg s (4 * ((2 * f + t) % 2) + (2 * f + t) / 2) = _
  rw [show (2 * f + t) % 2 = t by omega, show (2 * f + t) / 2 = f by omega]
theorem dg_cs8 {s j : Nat} (hj : j < 8) : dg (cs s) j = dg s (4 * (j % 2) + j / 2) := by
  unfold cs
  rw [dg_mk (fun _ _ => dg_lt _ _) hj]
theorem cs_inj {s u : Nat} (hs : s < 65536) (hu : u < 65536) (h : cs s = cs u) : s = u := by
  refine dg_ext hs hu fun k hk => ?_
  have a := dg_cs (s := s) (t := k / 4) (f := k % 4) (by omega) (by omega)
  have b := dg_cs (s := u) (t := k / 4) (f := k % 4) (by omega) (by omega)
  rw [show 4 * (k / 4) + k % 4 = k by omega] at a b
  rw [← a, ← b, h]
theorem cs_st {s t f v : Nat} (ht : t < 2) (hf : f < 4) (hv : v < 4) : cs (st4 s (4 * t + f) v) = st4 (cs s) (2 * f + t) v := by
  refine dg_ext (cs_lt _) (st4_lt hv) fun j hj => ?_
  rw [dg_cs8 hj, dg_st hv hj, dg_st hv (by omega), dg_cs8 hj]
  by_cases e : j = 2 * f + t
  · rw [if_pos e, if_pos (by omega)]
  · rw [if_neg e, if_neg (by omega)]
theorem cs_dy (s : Nat) : cs (dy s) = dy (cs s) := by
  refine dg_ext (cs_lt _) (dy_lt _) fun j hj => ?_
  rw [dg_cs8 hj, dg_dy hj, dg_dy (by omega), dg_cs8 hj]
theorem cs_mono {s u : Nat} (h : LEd s u) : cs s ≤ cs u := by
  refine LEd.le (cs_lt _) (cs_lt _) fun j hj => ?_
  rw [dg_cs8 hj, dg_cs8 hj]
  exact h _ (by omega)
theorem cs_room {H : HM} {s : Nat} (hs : STok H s) (hf : hm_f H ≤ 4) : cs s < 16 ^ hm_f H := by
  have z : ∀ t f, t < 2 → f < 4 → hm_f H ≤ f → dg s (4 * t + f) = 0 := hs.2
  have h0 := dg_lt s 0; have h1 := dg_lt s 1; have h2 := dg_lt s 2; have h3 := dg_lt s 3
  have h4 := dg_lt s 4; have h5 := dg_lt s 5; have h6 := dg_lt s 6; have h7 := dg_lt s 7
  have z0 := z 0 0 (by decide) (by decide); have z1 := z 0 1 (by decide) (by decide); have z2 := z 0 2 (by decide) (by decide); have z3 := z 0 3 (by decide) (by decide)
  have z4 := z 1 0 (by decide) (by decide); have z5 := z 1 1 (by decide) (by decide); have z6 := z 1 2 (by decide) (by decide); have z7 := z 1 3 (by decide) (by decide)
  unfold cs mkS
  simp only [Nat.reduceMod, Nat.reduceDiv, Nat.reduceMul, Nat.reduceAdd, Nat.zero_add, Nat.mul_zero, Nat.mul_one, Nat.add_zero] at *
  rcases (show hm_f H = 0 ∨ hm_f H = 1 ∨ hm_f H = 2 ∨ hm_f H = 3 ∨ hm_f H = 4 by omega) with e | e | e | e | e <;> rw [e] at z0 z1 z2 z3 z4 z5 z6 z7 ⊢ <;> simp only [Nat.reducePow, Nat.reduceLeDiff, forall_const, false_implies] at * <;> omega
/-! days -/
theorem bt_5555 : ∀ i, i < 32 → bt 21845 i = (decide (i % 2 = 0) && decide (i < 16)) := by decide +kernel
theorem bt_3333 : ∀ i, i < 32 → bt 13107 i = (decide (i % 4 < 2) && decide (i < 16)) := by decide +kernel
theorem dyv_b : ∀ d, d < 4 → (dyv d).testBit 0 = d.testBit 1 ∧ (dyv d).testBit 1 = (d.testBit 0 || d.testBit 1) := by decide
theorem b_shl_1 (x : Int32) {i : Nat} (hi : i < 32) : bt (x <<< ((1 : Int32) &&& 31)) i = (decide (1 ≤ i) && bt x (i - 1)) := b_shl 1 (by omega) x hi
theorem b_sshr_1 (x : Int32) {i : Nat} (hi : i < 32) : bt (x >>> ((1 : Int32) &&& 31)) i = if 1 + i < 32 then bt x (1 + i) else bt x 31 := b_sshr 1 (by omega) x hi
/-- bits of a number of ages -/
def cbt (c j : Nat) : Bool := if j < 16 then (dg c (j / 2)).testBit (j % 2) else false
theorem bt_cbt {c j : Nat} (hc : c < 65536) (hj : j < 32) : bt (nI c) j = cbt c j := by
  unfold cbt
  by_cases q : j < 16
  · rw [if_pos q, bt_dg hj]
  · rw [if_neg q, bt_hi hc (by omega) hj]
theorem cc_lo {c j : Nat} (hc : c < 65536) (hj : j < 32) : bt (nI c &&& 21845) j = (cbt c j && decide (j % 2 = 0)) := by
  rw [b_and, bt_5555 j hj, bt_cbt hc hj]
  unfold cbt
  by_cases q : j < 16 <;> simp [q]
theorem cc_hi {c j : Nat} (hc : c < 65536) (hj : j < 32) : bt (nI c >>> ((1 : Int32) &&& 31) &&& 21845) j = (cbt c (1 + j) && decide (j % 2 = 0)) := by
  rw [b_and, bt_5555 j hj, b_sshr_1 _ hj]
  by_cases q : 1 + j < 32
  · rw [if_pos q, bt_cbt hc q]
    unfold cbt
    by_cases q2 : j < 16
    · simp [q2]
    · simp [q2, show ¬ 1 + j < 16 by omega]
  · rw [if_neg q, show j = 31 by omega]
    simp
theorem cc_afterDay (F : Nat) {c : Nat} (hc : c < 65536) (h : Hp) : f_X2_afterDay F (nI c) h = some (nI (dy c), h) := by
  unfold f_X2_afterDay
  rw [lt_e, lt_e]
  have key : (nI c >>> ((1 : Int32) &&& 31) &&& 21845) ||| ((nI c &&& 21845 ||| (nI c >>> ((1 : Int32) &&& 31) &&& 21845)) <<< ((1 : Int32) &&& 31)) = nI (dy c) := by
    refine nI_bits (dy_lt c) (fun i hi => ?_) (fun i h1 h2 => ?_)
    · have hd := dg_lt c (i / 2)
      rw [dg_dy (by omega), b_or, cc_hi hc (by omega), b_shl_1 _ (by omega), b_or, cc_lo hc (by omega), cc_hi hc (by omega)]
      rcases (show i % 2 = 0 ∨ i % 2 = 1 by omega) with e | e
      · rw [e, (dyv_b _ hd).1]
        have e1 : cbt c (1 + i) = (dg c (i / 2)).testBit 1 := by
          unfold cbt
          rw [if_pos (by omega), show (1 + i) / 2 = i / 2 by omega, show (1 + i) % 2 = 1 by omega]
        rw [e1]
        by_cases z : 1 ≤ i
        · have z1 : ¬ (i - 1) % 2 = 0 := by omega
          simp [z1]
        · simp [z]
      · have z : 1 ≤ i := by omega
        have e1 : cbt c (i - 1) = (dg c (i / 2)).testBit 0 := by
          unfold cbt
          rw [if_pos (by omega), show (i - 1) / 2 = i / 2 by omega, show (i - 1) % 2 = 0 by omega]
        have e2 : cbt c (1 + (i - 1)) = (dg c (i / 2)).testBit 1 := by
          unfold cbt
          rw [if_pos (by omega), show (1 + (i - 1)) / 2 = i / 2 by omega, show (1 + (i - 1)) % 2 = 1 by omega]
        rw [e, (dyv_b _ hd).2, e1, e2]
        have z1 : (i - 1) % 2 = 0 := by omega
        simp [z1, z]
    · rw [b_or, cc_hi hc h2, b_shl_1 _ h2, b_or, cc_lo hc (by omega), cc_hi hc (by omega)]
      have c0 : ∀ j, 16 ≤ j → cbt c j = false := fun j hj => by unfold cbt; rw [if_neg (by omega)]
      rw [c0 (1 + i) (by omega), c0 (1 + (i - 1)) (by omega)]
      rcases (show i = 16 ∨ 16 ≤ i - 1 by omega) with z | z
      · subst z; simp
      · rw [c0 (i - 1) z]; simp
  rw [key]
/-! one twin's ages -/
def ow (c t : Nat) : Nat := mkS (fun j => if j % 2 = 0 then dg c (j + t) else 0)
theorem ow_lt (c t : Nat) : ow c t < 65536 := mkS_lt fun k _ => by
  show (if k % 2 = 0 then dg c (k + t) else 0) < 4
  split
  · exact dg_lt _ _
  · decide
theorem cc_own {c t : Nat} (hc : c < 65536) (ht : t < 2) : (nI c >>> ((2 * nI t) &&& 31)) &&& 13107 = nI (ow c t) := by
  have e : (2 * nI t) &&& 31 = nI (2 * t) &&& 31 := by rw [two_k]
  rw [e]
  refine nI_bits (ow_lt c t) (fun i hi => ?_) (fun i h1 h2 => ?_)
  · rw [b_and, bt_3333 i (by omega), b_sshr (2 * t) (by omega) _ (by omega), if_pos (by omega), bt_dg (by omega)]
    unfold ow
    rw [dg_mk (fun k _ => by
      show (if k % 2 = 0 then dg c (k + t) else 0) < 4
      split
      · exact dg_lt _ _
      · decide) (by omega)]
    show _ = (if (i / 2) % 2 = 0 then dg c (i / 2 + t) else 0).testBit (i % 2)
    rw [show (2 * t + i) / 2 = i / 2 + t by omega, show (2 * t + i) % 2 = i % 2 by omega]
    by_cases q : (i / 2) % 2 = 0
    · rw [if_pos q, decide_eq_true (show i % 4 < 2 by omega), decide_eq_true hi]; simp
    · rw [if_neg q, decide_eq_false (show ¬ i % 4 < 2 by omega)]; simp
  · rw [b_and, bt_3333 i h2, decide_eq_false (show ¬ i < 16 by omega)]; simp
theorem ow_4 (c t : Nat) : ow c t = dg c t + 16 * dg c (2 + t) + 256 * dg c (4 + t) + 4096 * dg c (6 + t) := by
  unfold ow mkS
  simp only [Nat.reduceMod, Nat.reduceDiv, if_true, Nat.zero_add, Nat.reduceEqDiff, if_false]
  omega
theorem kn_bits : ∀ a, a < 4 → ∀ b, b < 4 → ∀ c, c < 4 → ∀ d, d < 4 → ((((nI (a + 16 * b + 256 * c + 4096 * d) ||| (nI (a + 16 * b + 256 * c + 4096 * d) >>> ((1 : Int32) &&& 31))) &&& 4369) * 4369) >>> ((12 : Int32) &&& 31)) &&& 7 = nI (b1 (0 < a) + b1 (0 < b) + b1 (0 < c) + b1 (0 < d)) := by decide +kernel
theorem cc_knownTo (F : Nat) {s t : Nat} (ht : t < 2) (h : Hp) : f_X2_knownTo F (nI (cs s)) (nI t) h = some (nI (kn s t), h) := by
  unfold f_X2_knownTo
  rw [lt_e, lt_e, cc_own (cs_lt s) ht, ow_4, kn_bits _ (dg_lt _ _) _ (dg_lt _ _) _ (dg_lt _ _) _ (dg_lt _ _)]
  have d0 := dg_cs (s := s) (f := 0) ht (by decide)
  have d1 := dg_cs (s := s) (f := 1) ht (by decide)
  have d2 := dg_cs (s := s) (f := 2) ht (by decide)
  have d3 := dg_cs (s := s) (f := 3) ht (by decide)
  simp only [Nat.mul_zero, Nat.zero_add, Nat.reduceMul, Nat.add_zero] at d0 d1 d2 d3
  rw [d0, d1, d2, d3]
  rfl
/-- the ages of one twin as a number of four digits -/
def o4 (s t : Nat) : Nat := dg s (4 * t) + 4 * dg s (4 * t + 1) + 16 * dg s (4 * t + 2) + 64 * dg s (4 * t + 3)
theorem own_bits : ∀ a, a < 4 → ∀ b, b < 4 → ∀ c, c < 4 → ∀ d, d < 4 → (((nI (a + 16 * b + 256 * c + 4096 * d) ||| (nI (a + 16 * b + 256 * c + 4096 * d) >>> ((2 : Int32) &&& 31))) &&& 3855) ||| (((nI (a + 16 * b + 256 * c + 4096 * d) ||| (nI (a + 16 * b + 256 * c + 4096 * d) >>> ((2 : Int32) &&& 31))) &&& 3855) >>> ((4 : Int32) &&& 31))) &&& 255 = nI (a + 4 * b + 16 * c + 64 * d) := by decide +kernel
theorem o4_lt {H : HM} {s t : Nat} (hs : STok H s) (ht : t < 2) (hf : hm_f H ≤ 4) : o4 s t < 4 ^ hm_f H := by
  have z : ∀ f, f < 4 → hm_f H ≤ f → dg s (4 * t + f) = 0 := fun f => hs.2 t f ht
  have h0 := dg_lt s (4 * t); have h1 := dg_lt s (4 * t + 1); have h2 := dg_lt s (4 * t + 2); have h3 := dg_lt s (4 * t + 3)
  have z0 := z 0 (by decide); have z1 := z 1 (by decide); have z2 := z 2 (by decide); have z3 := z 3 (by decide)
  rw [Nat.add_zero] at z0
  unfold o4
  rcases (show hm_f H = 0 ∨ hm_f H = 1 ∨ hm_f H = 2 ∨ hm_f H = 3 ∨ hm_f H = 4 by omega) with e | e | e | e | e <;> rw [e] at z0 z1 z2 z3 ⊢ <;> simp only [Nat.reducePow, Nat.reduceLeDiff, forall_const, false_implies] at * <;> omega
theorem dg_o4 {s t f : Nat} (hf : f < 4) : dg (o4 s t) f = dg s (4 * t + f) := by
  have h0 := dg_lt s (4 * t); have h1 := dg_lt s (4 * t + 1); have h2 := dg_lt s (4 * t + 2); have h3 := dg_lt s (4 * t + 3)
  generalize e0 : dg s (4 * t) = d0 at *
  generalize e1 : dg s (4 * t + 1) = d1 at *
  generalize e2 : dg s (4 * t + 2) = d2 at *
  generalize e3 : dg s (4 * t + 3) = d3 at *
  have e : o4 s t = d0 + 4 * d1 + 16 * d2 + 64 * d3 := by unfold o4; rw [e0, e1, e2, e3]
  rw [e]
  rcases (show f = 0 ∨ f = 1 ∨ f = 2 ∨ f = 3 by omega) with rfl | rfl | rfl | rfl
  · rw [Nat.add_zero, e0]; unfold dg; simp only [Nat.reducePow]; omega
  · rw [e1]; unfold dg; simp only [Nat.reducePow]; omega
  · rw [e2]; unfold dg; simp only [Nat.reducePow]; omega
  · rw [e3]; unfold dg; simp only [Nat.reducePow]; omega
theorem dsb_o4 {H : HM} {s t d f : Nat} (hf : f < 4) : dsb H (o4 s t) 0 d f = dsb H s t d f := by
  unfold dsb
  rw [Nat.mul_zero, Nat.zero_add, dg_o4 hf]
theorem dsr_o4 {H : HM} {s t d : Nat} : ∀ r k, k + r ≤ 4 → dsr H (o4 s t) 0 d k r = dsr H s t d k r := by
  intro r
  induction r with
  | zero => intro k _; rfl
  | succ r ih =>
    intro k hk
    rw [dsr, dsr, dsb_o4 (by omega), ih (k + 1) (by omega)]
theorem msk_cg {p q : Nat → Bool} : ∀ n, (∀ k, k < n → p k = q k) → msk p n = msk q n := by
  intro n
  induction n with
  | zero => intro _; rfl
  | succ n ih =>
    intro h
    rw [msk, msk, ih (fun k hk => h k (by omega)), h n (by omega)]
theorem dsa_o4 {H : HM} (hf : hm_f H ≤ 4) (s t : Nat) : dsa H (o4 s t) 0 = dsa H s t := by
  unfold dsa
  exact msk_cg _ fun d _ => dsr_o4 _ 0 (by omega)
