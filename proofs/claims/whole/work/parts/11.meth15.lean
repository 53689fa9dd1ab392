/-! L2, by program (wip/whole/gen/gen.py) -/
set_option maxRecDepth 100000 in
noncomputable def f_X12_dayTo_36 (F : Nat) (K4 : Int32 → Int32 → Int32 → Hp → Option (Int32 × Hp)) (l0 : Int32) (l1 : Int32) (l2 : Int32) (h : Hp) : Option (Int32 × Hp) :=
  K4 l0 l1 (l2 + 1) h
set_option maxRecDepth 100000 in
set_option maxHeartbeats 4000000 in
theorem T_X12_dayTo_36 (F : Nat) {K4 : Int32 → Int32 → Int32 → Hp → Option (Int32 × Hp)} (hK4 : ∀ (l0 : Int32) (l1 : Int32) (l2 : Int32) (h : Hp), G rvI I_X12_dayTo 2 4 [(0, .int l0), (1, .int l1), (2, .int l2)] [] h (K4 l0 l1 l2 h)) (l0 : Int32) (l1 : Int32) (l2 : Int32) (h : Hp) : G rvI I_X12_dayTo 2 36 [(0, .int l0), (1, .int l1), (2, .int l2)] [] h (f_X12_dayTo_36 F K4 l0 l1 l2 h) := by
  delta f_X12_dayTo_36
  refine g_iinc (v' := l2 + 1) (lv' := [(2, .int (l2 + 1)), (0, .int l0), (1, .int l1)]) 2 dX12_dayTo_36 rfl rfl (by decide) rfl ?_
  refine g_goto (tgt := 4) dX12_dayTo_39 (by decide) ?_
  refine G_lv [1, 2, 0] rfl ?_
  exact hK4 l0 l1 (l2 + 1) h
set_option maxRecDepth 100000 in
noncomputable def f_X12_dayTo_4_b (F : Nat) (K4 : Int32 → Int32 → Int32 → Hp → Option (Int32 × Hp)) (l0 : Int32) (l1 : Int32) (l2 : Int32) (h : Hp) : Option (Int32 × Hp) :=
  if 8 ≤ l2 then (some (l1, h)) else (bd (f_X12_within F ((((l0 >>> ((2 * l2) &&& 31)) &&& 3) : Int32).toInt64) 1 2 h) fun v2 h3 => if v2 = 0 then (f_X12_dayTo_36 F K4 l0 l1 l2 h3) else (lt (l1 + ((1 : Int32) <<< ((2 * l2) &&& 31))) fun x5 => f_X12_dayTo_36 F K4 l0 x5 l2 h3))
set_option maxRecDepth 100000 in
set_option maxHeartbeats 4000000 in
theorem T_X12_dayTo_4_b (F : Nat) {K4 : Int32 → Int32 → Int32 → Hp → Option (Int32 × Hp)} (hK4 : ∀ (l0 : Int32) (l1 : Int32) (l2 : Int32) (h : Hp), G rvI I_X12_dayTo 2 4 [(0, .int l0), (1, .int l1), (2, .int l2)] [] h (K4 l0 l1 l2 h)) (l0 : Int32) (l1 : Int32) (l2 : Int32) (h : Hp) : G rvI I_X12_dayTo 2 4 [(0, .int l0), (1, .int l1), (2, .int l2)] [] h (f_X12_dayTo_4_b F K4 l0 l1 l2 h) := by
  delta f_X12_dayTo_4_b
  refine g_iload_n 2 dX12_dayTo_4 rfl ?_
  refine g_bipush (v := 8) dX12_dayTo_5 (by decide) ?_
  refine g_icmp_ge (tgt := 42) dX12_dayTo_7 (by decide) (fun c1 => ?_) (fun c1 => ?_)
  · refine g_iload_n 1 dX12_dayTo_42 rfl ?_
    exact g_iret rfl dX12_dayTo_43
  · refine g_iload_n 0 dX12_dayTo_10 rfl ?_
    refine g_iconst (v := 2) dX12_dayTo_11 (by decide) ?_
    refine g_iload_n 2 dX12_dayTo_12 rfl ?_
    refine g_imul dX12_dayTo_13 ?_
    refine g_ishr dX12_dayTo_14 ?_
    refine g_iconst (v := 3) dX12_dayTo_15 (by decide) ?_
    refine g_iand dX12_dayTo_16 ?_
    refine g_i2l dX12_dayTo_17 ?_
    refine g_lconst (v := 1) dX12_dayTo_18 (by decide) ?_
    refine g_ldc2 (v := 2) dX12_dayTo_19 cl_RX12_234 ?_
    refine g_callSi (J := I_X12_within) (As := [.long ((((l0 >>> ((2 * l2) &&& 31)) &&& 3) : Int32).toInt64), .long 1, .long 2]) (rest := []) mjs_X12_within ml_RX12_138 (by decide) rfl rfl (Nat.le_of_ble_eq_true rfl) dX12_dayTo_22 (T_X12_within F ((((l0 >>> ((2 * l2) &&& 31)) &&& 3) : Int32).toInt64) 1 2 h) (fun v2 h3 => ?_)
    refine g_if_eq (tgt := 36) dX12_dayTo_25 (by decide) (fun c4 => ?_) (fun c4 => ?_)
    · refine G_lv [0, 1, 2] rfl ?_
      exact T_X12_dayTo_36 F hK4 l0 l1 l2 h3
    · refine g_iload_n 1 dX12_dayTo_28 rfl ?_
      refine g_iconst (v := 1) dX12_dayTo_29 (by decide) ?_
      refine g_iconst (v := 2) dX12_dayTo_30 (by decide) ?_
      refine g_iload_n 2 dX12_dayTo_31 rfl ?_
      refine g_imul dX12_dayTo_32 ?_
      refine g_ishl dX12_dayTo_33 ?_
      refine g_iadd dX12_dayTo_34 ?_
      refine G_lti (fun x5 => ?_)
      refine g_istore_n (lv' := [(1, .int x5), (0, .int l0), (2, .int l2)]) dX12_dayTo_35 (by decide) rfl ?_
      refine G_lv [1, 0, 2] rfl ?_
      exact T_X12_dayTo_36 F hK4 l0 x5 l2 h3
set_option maxRecDepth 100000 in
noncomputable def f_X12_dayTo_4 (F : Nat) : Nat → Int32 → Int32 → Int32 → Hp → Option (Int32 × Hp)
  | 0, _, _, _, _ => none
  | n + 1, l0, l1, l2, h => f_X12_dayTo_4_b F (f_X12_dayTo_4 F n) l0 l1 l2 h
set_option maxRecDepth 100000 in
set_option maxHeartbeats 4000000 in
theorem T_X12_dayTo_4 (F : Nat) : ∀ (n : Nat) (l0 : Int32) (l1 : Int32) (l2 : Int32) (h : Hp), G rvI I_X12_dayTo 2 4 [(0, .int l0), (1, .int l1), (2, .int l2)] [] h (f_X12_dayTo_4 F n l0 l1 l2 h) := by
  intro n
  induction n with
  | zero => intros; exact G_none
  | succ n ih => intro l0 l1 l2 h; exact T_X12_dayTo_4_b F ih l0 l1 l2 h
set_option maxRecDepth 100000 in
noncomputable def f_X12_dayTo (F : Nat) (a0 : Int32) (h : Hp) : Option (Int32 × Hp) :=
  f_X12_dayTo_4 F F a0 a0 0 h
set_option maxRecDepth 100000 in
set_option maxHeartbeats 4000000 in
theorem T_X12_dayTo (F : Nat) (a0 : Int32) (h : Hp) : GM rvI I_X12_dayTo 2 [.int a0] h (f_X12_dayTo F a0 h) := by
  delta f_X12_dayTo
  refine GM_of (lv := [(0, .int a0)]) (by decide +kernel) (Nat.le_of_ble_eq_true rfl) rfl ?_
  refine g_iload_n 0 dX12_dayTo_0 rfl ?_
  refine g_istore_n (lv' := [(1, .int a0), (0, .int a0)]) dX12_dayTo_1 (by decide) rfl ?_
  refine g_iconst (v := 0) dX12_dayTo_2 (by decide) ?_
  refine g_istore_n (lv' := [(2, .int 0), (1, .int a0), (0, .int a0)]) dX12_dayTo_3 (by decide) rfl ?_
  refine G_lv [2, 1, 0] rfl ?_
  exact T_X12_dayTo_4 F F a0 a0 0 h
set_option maxRecDepth 100000 in
noncomputable def f_X12_knownIn_24 (F : Nat) (K4 : Int32 → Int32 → Int32 → Int32 → Hp → Option (Int32 × Hp)) (l0 : Int32) (l1 : Int32) (l3 : Int32) (s0 : Int32) (s1 : Int32) (h : Hp) : Option (Int32 × Hp) :=
  lt (s1 + s0) fun x5 => K4 l0 l1 x5 (l3 + 1) h
set_option maxRecDepth 100000 in
set_option maxHeartbeats 4000000 in
theorem T_X12_knownIn_24 (F : Nat) {K4 : Int32 → Int32 → Int32 → Int32 → Hp → Option (Int32 × Hp)} (hK4 : ∀ (l0 : Int32) (l1 : Int32) (l2 : Int32) (l3 : Int32) (h : Hp), G rvI I_X12_knownIn 2 4 [(0, .int l0), (1, .int l1), (2, .int l2), (3, .int l3)] [] h (K4 l0 l1 l2 l3 h)) (l0 : Int32) (l1 : Int32) (l3 : Int32) (s0 : Int32) (s1 : Int32) (h : Hp) : G rvI I_X12_knownIn 2 24 [(0, .int l0), (1, .int l1), (3, .int l3)] [.int s0, .int s1] h (f_X12_knownIn_24 F K4 l0 l1 l3 s0 s1 h) := by
  delta f_X12_knownIn_24
  refine g_iadd dX12_knownIn_24 ?_
  refine G_lti (fun x5 => ?_)
  refine g_istore_n (lv' := [(2, .int x5), (0, .int l0), (1, .int l1), (3, .int l3)]) dX12_knownIn_25 (by decide) rfl ?_
  refine g_iinc (v' := l3 + 1) (lv' := [(3, .int (l3 + 1)), (2, .int x5), (0, .int l0), (1, .int l1)]) 3 dX12_knownIn_26 rfl rfl (by decide) rfl ?_
  refine g_goto (tgt := 4) dX12_knownIn_29 (by decide) ?_
  refine G_lv [2, 3, 1, 0] rfl ?_
  exact hK4 l0 l1 x5 (l3 + 1) h
set_option maxRecDepth 100000 in
noncomputable def f_X12_knownIn_4_b (F : Nat) (K4 : Int32 → Int32 → Int32 → Int32 → Hp → Option (Int32 × Hp)) (l0 : Int32) (l1 : Int32) (l2 : Int32) (l3 : Int32) (h : Hp) : Option (Int32 × Hp) :=
  if 4 ≤ l3 then (some (l2, h)) else (bd (f_X12_ageIn F l0 l1 l3 h) fun v2 h3 => if v2 ≤ 0 then (f_X12_knownIn_24 F K4 l0 l1 l3 0 l2 h3) else (f_X12_knownIn_24 F K4 l0 l1 l3 1 l2 h3))
set_option maxRecDepth 100000 in
set_option maxHeartbeats 4000000 in
theorem T_X12_knownIn_4_b (F : Nat) {K4 : Int32 → Int32 → Int32 → Int32 → Hp → Option (Int32 × Hp)} (hK4 : ∀ (l0 : Int32) (l1 : Int32) (l2 : Int32) (l3 : Int32) (h : Hp), G rvI I_X12_knownIn 2 4 [(0, .int l0), (1, .int l1), (2, .int l2), (3, .int l3)] [] h (K4 l0 l1 l2 l3 h)) (l0 : Int32) (l1 : Int32) (l2 : Int32) (l3 : Int32) (h : Hp) : G rvI I_X12_knownIn 2 4 [(0, .int l0), (1, .int l1), (2, .int l2), (3, .int l3)] [] h (f_X12_knownIn_4_b F K4 l0 l1 l2 l3 h) := by
  delta f_X12_knownIn_4_b
  refine g_iload_n 3 dX12_knownIn_4 rfl ?_
  refine g_iconst (v := 4) dX12_knownIn_5 (by decide) ?_
  refine g_icmp_ge (tgt := 32) dX12_knownIn_6 (by decide) (fun c1 => ?_) (fun c1 => ?_)
  · refine g_iload_n 2 dX12_knownIn_32 rfl ?_
    exact g_iret rfl dX12_knownIn_33
  · refine g_iload_n 2 dX12_knownIn_9 rfl ?_
    refine g_iload_n 0 dX12_knownIn_10 rfl ?_
    refine g_iload_n 1 dX12_knownIn_11 rfl ?_
    refine g_iload_n 3 dX12_knownIn_12 rfl ?_
    refine g_callSi (J := I_X12_ageIn) (As := [.int l0, .int l1, .int l3]) (rest := [.int l2]) mjs_X12_ageIn ml_RX12_214 (by decide) rfl rfl (Nat.le_of_ble_eq_true rfl) dX12_knownIn_13 (T_X12_ageIn F l0 l1 l3 h) (fun v2 h3 => ?_)
    refine g_if_le (tgt := 23) dX12_knownIn_16 (by decide) (fun c4 => ?_) (fun c4 => ?_)
    · refine g_iconst (v := 0) dX12_knownIn_23 (by decide) ?_
      refine G_lv [0, 1, 3] rfl ?_
      exact T_X12_knownIn_24 F hK4 l0 l1 l3 0 l2 h3
    · refine g_iconst (v := 1) dX12_knownIn_19 (by decide) ?_
      refine g_goto (tgt := 24) dX12_knownIn_20 (by decide) ?_
      refine G_lv [0, 1, 3] rfl ?_
      exact T_X12_knownIn_24 F hK4 l0 l1 l3 1 l2 h3
set_option maxRecDepth 100000 in
noncomputable def f_X12_knownIn_4 (F : Nat) : Nat → Int32 → Int32 → Int32 → Int32 → Hp → Option (Int32 × Hp)
  | 0, _, _, _, _, _ => none
  | n + 1, l0, l1, l2, l3, h => f_X12_knownIn_4_b F (f_X12_knownIn_4 F n) l0 l1 l2 l3 h
set_option maxRecDepth 100000 in
set_option maxHeartbeats 4000000 in
theorem T_X12_knownIn_4 (F : Nat) : ∀ (n : Nat) (l0 : Int32) (l1 : Int32) (l2 : Int32) (l3 : Int32) (h : Hp), G rvI I_X12_knownIn 2 4 [(0, .int l0), (1, .int l1), (2, .int l2), (3, .int l3)] [] h (f_X12_knownIn_4 F n l0 l1 l2 l3 h) := by
  intro n
  induction n with
  | zero => intros; exact G_none
  | succ n ih => intro l0 l1 l2 l3 h; exact T_X12_knownIn_4_b F ih l0 l1 l2 l3 h
set_option maxRecDepth 100000 in
noncomputable def f_X12_knownIn (F : Nat) (a0 : Int32) (a1 : Int32) (h : Hp) : Option (Int32 × Hp) :=
  f_X12_knownIn_4 F F a0 a1 0 0 h
set_option maxRecDepth 100000 in
set_option maxHeartbeats 4000000 in
theorem T_X12_knownIn (F : Nat) (a0 : Int32) (a1 : Int32) (h : Hp) : GM rvI I_X12_knownIn 2 [.int a0, .int a1] h (f_X12_knownIn F a0 a1 h) := by
  delta f_X12_knownIn
  refine GM_of (lv := [(0, .int a0), (1, .int a1)]) (by decide +kernel) (Nat.le_of_ble_eq_true rfl) rfl ?_
  refine g_iconst (v := 0) dX12_knownIn_0 (by decide) ?_
  refine g_istore_n (lv' := [(2, .int 0), (0, .int a0), (1, .int a1)]) dX12_knownIn_1 (by decide) rfl ?_
  refine g_iconst (v := 0) dX12_knownIn_2 (by decide) ?_
  refine g_istore_n (lv' := [(3, .int 0), (2, .int 0), (0, .int a0), (1, .int a1)]) dX12_knownIn_3 (by decide) rfl ?_
  refine G_lv [2, 3, 1, 0] rfl ?_
  exact T_X12_knownIn_4 F F a0 a1 0 0 h
set_option maxRecDepth 100000 in
noncomputable def f_X12_laysWords (F : Nat) (a0 : Nat) (a1 : Int32) (a2 : Int32) (a3 : Int32) (h : Hp) : Option (Unit × Hp) :=
  gR 13 h a0 17 fun v1 => wI h v1 0 a2 fun h2 => gR 13 h2 a0 17 fun v3 => wI h2 v3 1 a3 fun h4 => gR 13 h4 a0 17 fun v5 => gR 13 h4 a0 1 fun v6 => aI 20 h4 v6 (9 + a3) fun v7 => wI h4 v5 2 v7 fun h8 => gR 13 h8 a0 17 fun v9 => bd (f_X12_knownIn F a1 a2 h8) fun v10 h11 => wI h11 v9 3 v10 fun h12 => gR 13 h12 a0 17 fun v13 => bd (f_X12_knownIn F a1 (1 - a2) h12) fun v14 h15 => wI h15 v13 4 v14 fun h16 => gR 13 h16 a0 17 fun v17 => gR 13 h16 a0 1 fun v18 => aI 20 h16 v18 51 fun v19 => wI h16 v17 5 v19 fun h20 => some ((), h20)
set_option maxRecDepth 100000 in
set_option maxHeartbeats 4000000 in
theorem T_X12_laysWords (F : Nat) (a0 : Nat) (a1 : Int32) (a2 : Int32) (a3 : Int32) (h : Hp) : GM rvV I_X12_laysWords 3 [.ref a0, .int a1, .int a2, .int a3] h (f_X12_laysWords F a0 a1 a2 a3 h) := by
  delta f_X12_laysWords
  refine GM_of (lv := [(0, .ref a0), (1, .int a1), (2, .int a2), (3, .int a3)]) (by decide +kernel) (Nat.le_of_ble_eq_true rfl) rfl ?_
  refine g_aload_n 0 dX12_laysWords_0 rfl ?_
  refine g_getR fl_RX12_33 rfl dX12_laysWords_1 (fun v1 => ?_)
  refine g_iconst (v := 0) dX12_laysWords_4 (by decide) ?_
  refine g_iload_n 2 dX12_laysWords_5 rfl ?_
  refine g_iast dX12_laysWords_6 (fun h2 => ?_)
  refine g_aload_n 0 dX12_laysWords_7 rfl ?_
  refine g_getR fl_RX12_33 rfl dX12_laysWords_8 (fun v3 => ?_)
  refine g_iconst (v := 1) dX12_laysWords_11 (by decide) ?_
  refine g_iload_n 3 dX12_laysWords_12 rfl ?_
  refine g_iast dX12_laysWords_13 (fun h4 => ?_)
  refine g_aload_n 0 dX12_laysWords_14 rfl ?_
  refine g_getR fl_RX12_33 rfl dX12_laysWords_15 (fun v5 => ?_)
  refine g_iconst (v := 2) dX12_laysWords_18 (by decide) ?_
  refine g_aload_n 0 dX12_laysWords_19 rfl ?_
  refine g_getR fl_RX12_13 rfl dX12_laysWords_20 (fun v6 => ?_)
  refine g_bipush (v := 9) dX12_laysWords_23 (by decide) ?_
  refine g_iload_n 3 dX12_laysWords_25 rfl ?_
  refine g_iadd dX12_laysWords_26 ?_
  refine g_iald dX12_laysWords_27 (fun v7 => ?_)
  refine g_iast dX12_laysWords_28 (fun h8 => ?_)
  refine g_aload_n 0 dX12_laysWords_29 rfl ?_
  refine g_getR fl_RX12_33 rfl dX12_laysWords_30 (fun v9 => ?_)
  refine g_iconst (v := 3) dX12_laysWords_33 (by decide) ?_
  refine g_iload_n 1 dX12_laysWords_34 rfl ?_
  refine g_iload_n 2 dX12_laysWords_35 rfl ?_
  refine g_callSi (J := I_X12_knownIn) (As := [.int a1, .int a2]) (rest := [.int 3, .ref v9]) mjs_X12_knownIn ml_RX12_217 (by decide) rfl rfl (Nat.le_of_ble_eq_true rfl) dX12_laysWords_36 (T_X12_knownIn F a1 a2 h8) (fun v10 h11 => ?_)
  refine g_iast dX12_laysWords_39 (fun h12 => ?_)
  refine g_aload_n 0 dX12_laysWords_40 rfl ?_
  refine g_getR fl_RX12_33 rfl dX12_laysWords_41 (fun v13 => ?_)
  refine g_iconst (v := 4) dX12_laysWords_44 (by decide) ?_
  refine g_iload_n 1 dX12_laysWords_45 rfl ?_
  refine g_iconst (v := 1) dX12_laysWords_46 (by decide) ?_
  refine g_iload_n 2 dX12_laysWords_47 rfl ?_
  refine g_isub dX12_laysWords_48 ?_
  refine g_callSi (J := I_X12_knownIn) (As := [.int a1, .int (1 - a2)]) (rest := [.int 4, .ref v13]) mjs_X12_knownIn ml_RX12_217 (by decide) rfl rfl (Nat.le_of_ble_eq_true rfl) dX12_laysWords_49 (T_X12_knownIn F a1 (1 - a2) h12) (fun v14 h15 => ?_)
  refine g_iast dX12_laysWords_52 (fun h16 => ?_)
  refine g_aload_n 0 dX12_laysWords_53 rfl ?_
  refine g_getR fl_RX12_33 rfl dX12_laysWords_54 (fun v17 => ?_)
  refine g_iconst (v := 5) dX12_laysWords_57 (by decide) ?_
  refine g_aload_n 0 dX12_laysWords_58 rfl ?_
  refine g_getR fl_RX12_13 rfl dX12_laysWords_59 (fun v18 => ?_)
  refine g_bipush (v := 51) dX12_laysWords_62 (by decide) ?_
  refine g_iald dX12_laysWords_64 (fun v19 => ?_)
  refine g_iast dX12_laysWords_65 (fun h20 => ?_)
  exact g_vret rfl dX12_laysWords_66
set_option maxRecDepth 100000 in
noncomputable def f_X12_between_116 (F : Nat) (s0 : Int64) (h : Hp) : Option (Int32 × Hp) :=
  if ((s0 : Int64) ≤ 1000000 : Prop) then (if ((-1000000) ≤ (s0 : Int64) : Prop) then (some (((s0 : Int64).toInt32), h)) else (some ((((-1000000) : Int64).toInt32), h))) else (some (((1000000 : Int64).toInt32), h))
set_option maxRecDepth 100000 in
set_option maxHeartbeats 4000000 in
theorem T_X12_between_116 (F : Nat) (s0 : Int64) (h : Hp) : G rvI I_X12_between 1 116 [] [.long s0] h (f_X12_between_116 F s0 h) := by
  delta f_X12_between_116
  refine g_lstore_n (lv' := [(3, .long s0)]) dX12_between_116 (by decide) rfl ?_
  refine g_lload_n 0 dX12_between_117 rfl ?_
  refine g_ldc2 (v := 1000000) dX12_between_118 cl_RX12_206 ?_
  refine g_lc_le (x := s0) (y := 1000000) (tgt := 131) dX12_between_121 dX12_between_122 (by decide) (fun c9 => ?_) (fun c9 => ?_)
  · refine g_lload_n 0 dX12_between_131 rfl ?_
    refine g_ldc2 (v := (-1000000)) dX12_between_132 cl_RX12_208 ?_
    refine g_lc_ge (x := s0) (y := (-1000000)) (tgt := 145) dX12_between_135 dX12_between_136 (by decide) (fun c10 => ?_) (fun c10 => ?_)
    · refine g_lload_n 0 dX12_between_145 rfl ?_
      refine g_l2i dX12_between_146 ?_
      exact g_iret rfl dX12_between_147
    · refine g_ldc2 (v := (-1000000)) dX12_between_139 cl_RX12_208 ?_
      refine g_goto (tgt := 146) dX12_between_142 (by decide) ?_
      refine g_l2i dX12_between_146 ?_
      exact g_iret rfl dX12_between_147
  · refine g_ldc2 (v := 1000000) dX12_between_125 cl_RX12_206 ?_
    refine g_goto (tgt := 146) dX12_between_128 (by decide) ?_
    refine g_l2i dX12_between_146 ?_
    exact g_iret rfl dX12_between_147
set_option maxRecDepth 100000 in
noncomputable def f_X12_between (F : Nat) (a0 : Int32) (a1 : Int32) (a2 : Int32) (h : Hp) : Option (Int32 × Hp) :=
  if a0 = 3003 then (if a1 = a2 then (some (1, h)) else (some (0, h))) else (if a0 = 3004 then (if a2 ≤ a1 then (some (0, h)) else (some (1, h))) else (if a0 = 3005 then (if a1 ≤ a2 then (some (0, h)) else (some (1, h))) else (if a0 = 3006 then (if a0 = 3000 then (f_X12_between_116 F ((a1.toInt64) + (a2.toInt64)) h) else (if a0 = 3001 then (f_X12_between_116 F ((a1.toInt64) - (a2.toInt64)) h) else (f_X12_between_116 F ((a1.toInt64) * (a2.toInt64)) h))) else (if a0 = 3007 then (some ((a1 &&& a2), h)) else (if a0 = 3008 then (some ((a1 ||| a2), h)) else (if a0 = 3000 then (f_X12_between_116 F ((a1.toInt64) + (a2.toInt64)) h) else (if a0 = 3001 then (f_X12_between_116 F ((a1.toInt64) - (a2.toInt64)) h) else (f_X12_between_116 F ((a1.toInt64) * (a2.toInt64)) h))))))))
set_option maxRecDepth 100000 in
set_option maxHeartbeats 4000000 in
theorem T_X12_between (F : Nat) (a0 : Int32) (a1 : Int32) (a2 : Int32) (h : Hp) : GM rvI I_X12_between 1 [.int a0, .int a1, .int a2] h (f_X12_between F a0 a1 a2 h) := by
  delta f_X12_between
  refine GM_of (lv := [(0, .int a0), (1, .int a1), (2, .int a2)]) (by decide +kernel) (Nat.le_of_ble_eq_true rfl) rfl ?_
  refine g_iload_n 0 dX12_between_0 rfl ?_
  refine G_ite (fun c1 => ?_) (fun c1 => ?_)
  · refine g_tin 3003 (39) dX12_between_1 c1 (by decide) (by decide) (by decide) (by decide) (tgt := 40) ?_
    refine g_iload_n 1 dX12_between_40 rfl ?_
    refine g_iload_n 2 dX12_between_41 rfl ?_
    refine g_icmp_ne (tgt := 49) dX12_between_42 (by decide) (fun c2 => ?_) (fun c2 => ?_)
    · refine g_iconst (v := 1) dX12_between_45 (by decide) ?_
      refine g_goto (tgt := 50) dX12_between_46 (by decide) ?_
      exact g_iret rfl dX12_between_50
    · refine g_iconst (v := 0) dX12_between_49 (by decide) ?_
      exact g_iret rfl dX12_between_50
  · refine G_ite (fun c3 => ?_) (fun c3 => ?_)
    · refine g_tin 3004 (50) dX12_between_1 c3 (by decide) (by decide) (by decide) (by decide) (tgt := 51) ?_
      refine g_iload_n 1 dX12_between_51 rfl ?_
      refine g_iload_n 2 dX12_between_52 rfl ?_
      refine g_icmp_ge (tgt := 60) dX12_between_53 (by decide) (fun c4 => ?_) (fun c4 => ?_)
      · refine g_iconst (v := 0) dX12_between_60 (by decide) ?_
        exact g_iret rfl dX12_between_61
      · refine g_iconst (v := 1) dX12_between_56 (by decide) ?_
        refine g_goto (tgt := 61) dX12_between_57 (by decide) ?_
        exact g_iret rfl dX12_between_61
    · refine G_ite (fun c5 => ?_) (fun c5 => ?_)
      · refine g_tin 3005 (61) dX12_between_1 c5 (by decide) (by decide) (by decide) (by decide) (tgt := 62) ?_
        refine g_iload_n 1 dX12_between_62 rfl ?_
        refine g_iload_n 2 dX12_between_63 rfl ?_
        refine g_icmp_le (tgt := 71) dX12_between_64 (by decide) (fun c6 => ?_) (fun c6 => ?_)
        · refine g_iconst (v := 0) dX12_between_71 (by decide) ?_
          exact g_iret rfl dX12_between_72
        · refine g_iconst (v := 1) dX12_between_67 (by decide) ?_
          refine g_goto (tgt := 72) dX12_between_68 (by decide) ?_
          exact g_iret rfl dX12_between_72
      · refine G_ite (fun c7 => ?_) (fun c7 => ?_)
        · refine g_tin 3006 (80) dX12_between_1 c7 (by decide) (by decide) (by decide) (by decide) (tgt := 81) ?_
          refine g_iload_n 0 dX12_between_81 rfl ?_
          refine g_sipush (v := 3000) dX12_between_82 (by decide) ?_
          refine g_icmp_ne (tgt := 96) dX12_between_85 (by decide) (fun c8 => ?_) (fun c8 => ?_)
          · refine g_iload_n 1 dX12_between_88 rfl ?_
            refine g_i2l dX12_between_89 ?_
            refine g_iload_n 2 dX12_between_90 rfl ?_
            refine g_i2l dX12_between_91 ?_
            refine g_ladd dX12_between_92 ?_
            refine g_goto (tgt := 116) dX12_between_93 (by decide) ?_
            refine G_lv [] rfl ?_
            exact T_X12_between_116 F ((a1.toInt64) + (a2.toInt64)) h
          · refine g_iload_n 0 dX12_between_96 rfl ?_
            refine g_sipush (v := 3001) dX12_between_97 (by decide) ?_
            refine g_icmp_ne (tgt := 111) dX12_between_100 (by decide) (fun c11 => ?_) (fun c11 => ?_)
            · refine g_iload_n 1 dX12_between_103 rfl ?_
              refine g_i2l dX12_between_104 ?_
              refine g_iload_n 2 dX12_between_105 rfl ?_
              refine g_i2l dX12_between_106 ?_
              refine g_lsub dX12_between_107 ?_
              refine g_goto (tgt := 116) dX12_between_108 (by decide) ?_
              refine G_lv [] rfl ?_
              exact T_X12_between_116 F ((a1.toInt64) - (a2.toInt64)) h
            · refine g_iload_n 1 dX12_between_111 rfl ?_
              refine g_i2l dX12_between_112 ?_
              refine g_iload_n 2 dX12_between_113 rfl ?_
              refine g_i2l dX12_between_114 ?_
              refine g_lmul dX12_between_115 ?_
              refine G_lv [] rfl ?_
              exact T_X12_between_116 F ((a1.toInt64) * (a2.toInt64)) h
        · refine G_ite (fun c12 => ?_) (fun c12 => ?_)
          · refine g_tin 3007 (72) dX12_between_1 c12 (by decide) (by decide) (by decide) (by decide) (tgt := 73) ?_
            refine g_iload_n 1 dX12_between_73 rfl ?_
            refine g_iload_n 2 dX12_between_74 rfl ?_
            refine g_iand dX12_between_75 ?_
            exact g_iret rfl dX12_between_76
          · refine G_ite (fun c13 => ?_) (fun c13 => ?_)
            · refine g_tin 3008 (76) dX12_between_1 c13 (by decide) (by decide) (by decide) (by decide) (tgt := 77) ?_
              refine g_iload_n 1 dX12_between_77 rfl ?_
              refine g_iload_n 2 dX12_between_78 rfl ?_
              refine g_ior dX12_between_79 ?_
              exact g_iret rfl dX12_between_80
            · refine g_tout (tgt := 81) dX12_between_1 (by have z0 := lv_neT c1 (show (3003 : Int32).toInt = 3003 by decide); have z1 := lv_neT c3 (show (3004 : Int32).toInt = 3004 by decide); have z2 := lv_neT c5 (show (3005 : Int32).toInt = 3005 by decide); have z3 := lv_neT c7 (show (3006 : Int32).toInt = 3006 by decide); have z4 := lv_neT c12 (show (3007 : Int32).toInt = 3007 by decide); have z5 := lv_neT c13 (show (3008 : Int32).toInt = 3008 by decide); omega) (by decide) ?_
              refine g_iload_n 0 dX12_between_81 rfl ?_
              refine g_sipush (v := 3000) dX12_between_82 (by decide) ?_
              refine g_icmp_ne (tgt := 96) dX12_between_85 (by decide) (fun c14 => ?_) (fun c14 => ?_)
              · refine g_iload_n 1 dX12_between_88 rfl ?_
                refine g_i2l dX12_between_89 ?_
                refine g_iload_n 2 dX12_between_90 rfl ?_
                refine g_i2l dX12_between_91 ?_
                refine g_ladd dX12_between_92 ?_
                refine g_goto (tgt := 116) dX12_between_93 (by decide) ?_
                refine G_lv [] rfl ?_
                exact T_X12_between_116 F ((a1.toInt64) + (a2.toInt64)) h
              · refine g_iload_n 0 dX12_between_96 rfl ?_
                refine g_sipush (v := 3001) dX12_between_97 (by decide) ?_
                refine g_icmp_ne (tgt := 111) dX12_between_100 (by decide) (fun c15 => ?_) (fun c15 => ?_)
                · refine g_iload_n 1 dX12_between_103 rfl ?_
                  refine g_i2l dX12_between_104 ?_
                  refine g_iload_n 2 dX12_between_105 rfl ?_
                  refine g_i2l dX12_between_106 ?_
                  refine g_lsub dX12_between_107 ?_
                  refine g_goto (tgt := 116) dX12_between_108 (by decide) ?_
                  refine G_lv [] rfl ?_
                  exact T_X12_between_116 F ((a1.toInt64) - (a2.toInt64)) h
                · refine g_iload_n 1 dX12_between_111 rfl ?_
                  refine g_i2l dX12_between_112 ?_
                  refine g_iload_n 2 dX12_between_113 rfl ?_
                  refine g_i2l dX12_between_114 ?_
                  refine g_lmul dX12_between_115 ?_
                  refine G_lv [] rfl ?_
                  exact T_X12_between_116 F ((a1.toInt64) * (a2.toInt64)) h
set_option maxRecDepth 100000 in
noncomputable def f_X12_reckons_192 (F : Nat) (K4 : Nat → Int32 → Int32 → Int32 → Hp → Option (Int32 × Hp)) (l0 : Nat) (l1 : Int32) (l2 : Int32) (l3 : Int32) (h : Hp) : Option (Int32 × Hp) :=
  K4 l0 l1 l2 (l3 + 1) h
set_option maxRecDepth 100000 in
set_option maxHeartbeats 4000000 in
theorem T_X12_reckons_192 (F : Nat) {K4 : Nat → Int32 → Int32 → Int32 → Hp → Option (Int32 × Hp)} (hK4 : ∀ (l0 : Nat) (l1 : Int32) (l2 : Int32) (l3 : Int32) (h : Hp), G rvI I_X12_reckons 2 4 [(0, .ref l0), (1, .int l1), (2, .int l2), (3, .int l3)] [] h (K4 l0 l1 l2 l3 h)) (l0 : Nat) (l1 : Int32) (l2 : Int32) (l3 : Int32) (h : Hp) : G rvI I_X12_reckons 2 192 [(0, .ref l0), (1, .int l1), (2, .int l2), (3, .int l3)] [] h (f_X12_reckons_192 F K4 l0 l1 l2 l3 h) := by
  delta f_X12_reckons_192
  refine g_iinc (v' := l3 + 1) (lv' := [(3, .int (l3 + 1)), (0, .ref l0), (1, .int l1), (2, .int l2)]) 3 dX12_reckons_192 rfl rfl (by decide) rfl ?_
  refine g_goto (tgt := 4) dX12_reckons_195 (by decide) ?_
  refine G_lv [1, 2, 3, 0] rfl ?_
  exact hK4 l0 l1 l2 (l3 + 1) h
set_option maxRecDepth 100000 in
noncomputable def f_X12_reckons_158 (F : Nat) (K4 : Nat → Int32 → Int32 → Int32 → Hp → Option (Int32 × Hp)) (l0 : Nat) (l1 : Int32) (l2 : Int32) (l3 : Int32) (s0 : Int32) (s1 : Int32) (s2 : Nat) (h : Hp) : Option (Int32 × Hp) :=
  wI h s2 s1 s0 fun h23 => f_X12_reckons_192 F K4 l0 l1 l2 l3 h23
set_option maxRecDepth 100000 in
set_option maxHeartbeats 4000000 in
theorem T_X12_reckons_158 (F : Nat) {K4 : Nat → Int32 → Int32 → Int32 → Hp → Option (Int32 × Hp)} (hK4 : ∀ (l0 : Nat) (l1 : Int32) (l2 : Int32) (l3 : Int32) (h : Hp), G rvI I_X12_reckons 2 4 [(0, .ref l0), (1, .int l1), (2, .int l2), (3, .int l3)] [] h (K4 l0 l1 l2 l3 h)) (l0 : Nat) (l1 : Int32) (l2 : Int32) (l3 : Int32) (s0 : Int32) (s1 : Int32) (s2 : Nat) (h : Hp) : G rvI I_X12_reckons 2 158 [(0, .ref l0), (1, .int l1), (2, .int l2), (3, .int l3)] [.int s0, .int s1, .ref s2] h (f_X12_reckons_158 F K4 l0 l1 l2 l3 s0 s1 s2 h) := by
  delta f_X12_reckons_158
  refine g_iast dX12_reckons_158 (fun h23 => ?_)
  refine g_goto (tgt := 192) dX12_reckons_159 (by decide) ?_
  refine G_lv [0, 1, 2, 3] rfl ?_
  exact T_X12_reckons_192 F hK4 l0 l1 l2 l3 h23
set_option maxRecDepth 100000 in
noncomputable def f_X12_reckons_75 (F : Nat) (K4 : Nat → Int32 → Int32 → Int32 → Hp → Option (Int32 × Hp)) (l0 : Nat) (l1 : Int32) (l2 : Int32) (l3 : Int32) (s0 : Int32) (s1 : Int32) (s2 : Nat) (h : Hp) : Option (Int32 × Hp) :=
  wI h s2 s1 s0 fun h38 => f_X12_reckons_192 F K4 l0 l1 (l2 + 1) l3 h38
set_option maxRecDepth 100000 in
set_option maxHeartbeats 4000000 in
theorem T_X12_reckons_75 (F : Nat) {K4 : Nat → Int32 → Int32 → Int32 → Hp → Option (Int32 × Hp)} (hK4 : ∀ (l0 : Nat) (l1 : Int32) (l2 : Int32) (l3 : Int32) (h : Hp), G rvI I_X12_reckons 2 4 [(0, .ref l0), (1, .int l1), (2, .int l2), (3, .int l3)] [] h (K4 l0 l1 l2 l3 h)) (l0 : Nat) (l1 : Int32) (l2 : Int32) (l3 : Int32) (s0 : Int32) (s1 : Int32) (s2 : Nat) (h : Hp) : G rvI I_X12_reckons 2 75 [(0, .ref l0), (1, .int l1), (2, .int l2), (3, .int l3)] [.int s0, .int s1, .ref s2] h (f_X12_reckons_75 F K4 l0 l1 l2 l3 s0 s1 s2 h) := by
  delta f_X12_reckons_75
  refine g_iast dX12_reckons_75 (fun h38 => ?_)
  refine g_iinc (v' := l2 + 1) (lv' := [(2, .int (l2 + 1)), (0, .ref l0), (1, .int l1), (3, .int l3)]) 2 dX12_reckons_76 rfl rfl (by decide) rfl ?_
  refine g_goto (tgt := 192) dX12_reckons_79 (by decide) ?_
  refine G_lv [1, 2, 0, 3] rfl ?_
  exact T_X12_reckons_192 F hK4 l0 l1 (l2 + 1) l3 h38
set_option maxRecDepth 100000 in
noncomputable def f_X12_reckons_4_b (F : Nat) (K4 : Nat → Int32 → Int32 → Int32 → Hp → Option (Int32 × Hp)) (l0 : Nat) (l1 : Int32) (l2 : Int32) (l3 : Int32) (h : Hp) : Option (Int32 × Hp) :=
  gR 13 h l0 1 fun v1 => aI 20 h v1 (7 + l1) fun v2 => if v2 ≤ l3 then (gR 13 h l0 16 fun v4 => aI 20 h v4 0 fun v5 => some (v5, h)) else (gR 13 h l0 1 fun v6 => gR 13 h l0 1 fun v7 => aI 20 h v7 (5 + l1) fun v8 => aI 20 h v6 ((144 + v8) + l3) fun v9 => if 3000 ≤ v9 then (if v9 = 3006 then (gR 13 h l0 16 fun v12 => gR 13 h l0 16 fun v13 => aI 20 h v13 (l2 - 1) fun v14 => wI h v12 (l2 - 1) (1 - v14) fun h15 => f_X12_reckons_192 F K4 l0 l1 l2 l3 h15) else (if v9 = 3009 then (gR 13 h l0 16 fun v17 => gR 13 h l0 16 fun v18 => aI 20 h v18 ((l2 + (-2)) - 1) fun v19 => if v19 = 1 then (gR 13 h l0 16 fun v21 => aI 20 h v21 (l2 + (-2)) fun v22 => f_X12_reckons_158 F K4 l0 l1 (l2 + (-2)) l3 v22 ((l2 + (-2)) - 1) v17 h) else (gR 13 h l0 16 fun v24 => aI 20 h v24 ((l2 + (-2)) + 1) fun v25 => f_X12_reckons_158 F K4 l0 l1 (l2 + (-2)) l3 v25 ((l2 + (-2)) - 1) v17 h)) else (gR 13 h l0 16 fun v26 => gR 13 h l0 16 fun v27 => aI 20 h v27 ((l2 + (-1)) - 1) fun v28 => gR 13 h l0 16 fun v29 => aI 20 h v29 (l2 + (-1)) fun v30 => bd (f_X12_between F v9 v28 v30 h) fun v31 h32 => wI h32 v26 ((l2 + (-1)) - 1) v31 fun h33 => f_X12_reckons_192 F K4 l0 l1 (l2 + (-1)) l3 h33))) else (gR 13 h l0 16 fun v34 => if 1000 ≤ v9 then (gR 13 h l0 17 fun v36 => aI 20 h v36 (v9 - 1000) fun v37 => f_X12_reckons_75 F K4 l0 l1 l2 l3 v37 l2 v34 h) else (f_X12_reckons_75 F K4 l0 l1 l2 l3 v9 l2 v34 h)))
set_option maxRecDepth 100000 in
set_option maxHeartbeats 4000000 in
theorem T_X12_reckons_4_b (F : Nat) {K4 : Nat → Int32 → Int32 → Int32 → Hp → Option (Int32 × Hp)} (hK4 : ∀ (l0 : Nat) (l1 : Int32) (l2 : Int32) (l3 : Int32) (h : Hp), G rvI I_X12_reckons 2 4 [(0, .ref l0), (1, .int l1), (2, .int l2), (3, .int l3)] [] h (K4 l0 l1 l2 l3 h)) (l0 : Nat) (l1 : Int32) (l2 : Int32) (l3 : Int32) (h : Hp) : G rvI I_X12_reckons 2 4 [(0, .ref l0), (1, .int l1), (2, .int l2), (3, .int l3)] [] h (f_X12_reckons_4_b F K4 l0 l1 l2 l3 h) := by
  delta f_X12_reckons_4_b
  refine g_iload_n 3 dX12_reckons_4 rfl ?_
  refine g_aload_n 0 dX12_reckons_5 rfl ?_
  refine g_getR fl_RX12_13 rfl dX12_reckons_6 (fun v1 => ?_)
  refine g_bipush (v := 7) dX12_reckons_9 (by decide) ?_
  refine g_iload_n 1 dX12_reckons_11 rfl ?_
  refine g_iadd dX12_reckons_12 ?_
  refine g_iald dX12_reckons_13 (fun v2 => ?_)
  refine g_icmp_ge (tgt := 198) dX12_reckons_14 (by decide) (fun c3 => ?_) (fun c3 => ?_)
  · refine g_aload_n 0 dX12_reckons_198 rfl ?_
    refine g_getR fl_RX12_30 rfl dX12_reckons_199 (fun v4 => ?_)
    refine g_iconst (v := 0) dX12_reckons_202 (by decide) ?_
    refine g_iald dX12_reckons_203 (fun v5 => ?_)
    exact g_iret rfl dX12_reckons_204
  · refine g_aload_n 0 dX12_reckons_17 rfl ?_
    refine g_getR fl_RX12_13 rfl dX12_reckons_18 (fun v6 => ?_)
    refine g_sipush (v := 144) dX12_reckons_21 (by decide) ?_
    refine g_aload_n 0 dX12_reckons_24 rfl ?_
    refine g_getR fl_RX12_13 rfl dX12_reckons_25 (fun v7 => ?_)
    refine g_iconst (v := 5) dX12_reckons_28 (by decide) ?_
    refine g_iload_n 1 dX12_reckons_29 rfl ?_
    refine g_iadd dX12_reckons_30 ?_
    refine g_iald dX12_reckons_31 (fun v8 => ?_)
    refine g_iadd dX12_reckons_32 ?_
    refine g_iload_n 3 dX12_reckons_33 rfl ?_
    refine g_iadd dX12_reckons_34 ?_
    refine g_iald dX12_reckons_35 (fun v9 => ?_)
    refine g_istore (lv' := [(4, .int v9), (0, .ref l0), (1, .int l1), (2, .int l2), (3, .int l3)]) dX12_reckons_36 (by decide) rfl ?_
    refine g_iload 0 dX12_reckons_38 rfl ?_
    refine g_sipush (v := 3000) dX12_reckons_40 (by decide) ?_
    refine g_icmp_ge (tgt := 82) dX12_reckons_43 (by decide) (fun c10 => ?_) (fun c10 => ?_)
    · refine g_iload 0 dX12_reckons_82 rfl ?_
      refine g_sipush (v := 3006) dX12_reckons_84 (by decide) ?_
      refine g_icmp_ne (tgt := 111) dX12_reckons_87 (by decide) (fun c11 => ?_) (fun c11 => ?_)
      · refine g_aload_n 1 dX12_reckons_90 rfl ?_
        refine g_getR fl_RX12_30 rfl dX12_reckons_91 (fun v12 => ?_)
        refine g_iload_n 3 dX12_reckons_94 rfl ?_
        refine g_iconst (v := 1) dX12_reckons_95 (by decide) ?_
        refine g_isub dX12_reckons_96 ?_
        refine g_iconst (v := 1) dX12_reckons_97 (by decide) ?_
        refine g_aload_n 1 dX12_reckons_98 rfl ?_
        refine g_getR fl_RX12_30 rfl dX12_reckons_99 (fun v13 => ?_)
        refine g_iload_n 3 dX12_reckons_102 rfl ?_
        refine g_iconst (v := 1) dX12_reckons_103 (by decide) ?_
        refine g_isub dX12_reckons_104 ?_
        refine g_iald dX12_reckons_105 (fun v14 => ?_)
        refine g_isub dX12_reckons_106 ?_
        refine g_iast dX12_reckons_107 (fun h15 => ?_)
        refine g_goto (tgt := 192) dX12_reckons_108 (by decide) ?_
        refine G_lv [1, 2, 3, 4] rfl ?_
        exact T_X12_reckons_192 F hK4 l0 l1 l2 l3 h15
      · refine g_iload 0 dX12_reckons_111 rfl ?_
        refine g_sipush (v := 3009) dX12_reckons_113 (by decide) ?_
        refine g_icmp_ne (tgt := 162) dX12_reckons_116 (by decide) (fun c16 => ?_) (fun c16 => ?_)
        · refine g_iinc (v' := l2 + (-2)) (lv' := [(2, .int (l2 + (-2))), (4, .int v9), (0, .ref l0), (1, .int l1), (3, .int l3)]) 3 dX12_reckons_119 rfl rfl (by decide) rfl ?_
          refine g_aload_n 2 dX12_reckons_122 rfl ?_
          refine g_getR fl_RX12_30 rfl dX12_reckons_123 (fun v17 => ?_)
          refine g_iload_n 0 dX12_reckons_126 rfl ?_
          refine g_iconst (v := 1) dX12_reckons_127 (by decide) ?_
          refine g_isub dX12_reckons_128 ?_
          refine g_aload_n 2 dX12_reckons_129 rfl ?_
          refine g_getR fl_RX12_30 rfl dX12_reckons_130 (fun v18 => ?_)
          refine g_iload_n 0 dX12_reckons_133 rfl ?_
          refine g_iconst (v := 1) dX12_reckons_134 (by decide) ?_
          refine g_isub dX12_reckons_135 ?_
          refine g_iald dX12_reckons_136 (fun v19 => ?_)
          refine g_iconst (v := 1) dX12_reckons_137 (by decide) ?_
          refine g_icmp_ne (tgt := 150) dX12_reckons_138 (by decide) (fun c20 => ?_) (fun c20 => ?_)
          · refine g_aload_n 2 dX12_reckons_141 rfl ?_
            refine g_getR fl_RX12_30 rfl dX12_reckons_142 (fun v21 => ?_)
            refine g_iload_n 0 dX12_reckons_145 rfl ?_
            refine g_iald dX12_reckons_146 (fun v22 => ?_)
            refine g_goto (tgt := 158) dX12_reckons_147 (by decide) ?_
            refine G_lv [2, 3, 0, 4] rfl ?_
            exact T_X12_reckons_158 F hK4 l0 l1 (l2 + (-2)) l3 v22 ((l2 + (-2)) - 1) v17 h
          · refine g_aload_n 2 dX12_reckons_150 rfl ?_
            refine g_getR fl_RX12_30 rfl dX12_reckons_151 (fun v24 => ?_)
            refine g_iload_n 0 dX12_reckons_154 rfl ?_
            refine g_iconst (v := 1) dX12_reckons_155 (by decide) ?_
            refine g_iadd dX12_reckons_156 ?_
            refine g_iald dX12_reckons_157 (fun v25 => ?_)
            refine G_lv [2, 3, 0, 4] rfl ?_
            exact T_X12_reckons_158 F hK4 l0 l1 (l2 + (-2)) l3 v25 ((l2 + (-2)) - 1) v17 h
        · refine g_iinc (v' := l2 + (-1)) (lv' := [(2, .int (l2 + (-1))), (4, .int v9), (0, .ref l0), (1, .int l1), (3, .int l3)]) 3 dX12_reckons_162 rfl rfl (by decide) rfl ?_
          refine g_aload_n 2 dX12_reckons_165 rfl ?_
          refine g_getR fl_RX12_30 rfl dX12_reckons_166 (fun v26 => ?_)
          refine g_iload_n 0 dX12_reckons_169 rfl ?_
          refine g_iconst (v := 1) dX12_reckons_170 (by decide) ?_
          refine g_isub dX12_reckons_171 ?_
          refine g_iload 1 dX12_reckons_172 rfl ?_
          refine g_aload_n 2 dX12_reckons_174 rfl ?_
          refine g_getR fl_RX12_30 rfl dX12_reckons_175 (fun v27 => ?_)
          refine g_iload_n 0 dX12_reckons_178 rfl ?_
          refine g_iconst (v := 1) dX12_reckons_179 (by decide) ?_
          refine g_isub dX12_reckons_180 ?_
          refine g_iald dX12_reckons_181 (fun v28 => ?_)
          refine g_aload_n 2 dX12_reckons_182 rfl ?_
          refine g_getR fl_RX12_30 rfl dX12_reckons_183 (fun v29 => ?_)
          refine g_iload_n 0 dX12_reckons_186 rfl ?_
          refine g_iald dX12_reckons_187 (fun v30 => ?_)
          refine g_callSi (J := I_X12_between) (As := [.int v9, .int v28, .int v30]) (rest := [.int ((l2 + (-1)) - 1), .ref v26]) mjs_X12_between ml_RX12_210 (by decide) rfl rfl (Nat.le_of_ble_eq_true rfl) dX12_reckons_188 (T_X12_between F v9 v28 v30 h) (fun v31 h32 => ?_)
          refine g_iast dX12_reckons_191 (fun h33 => ?_)
          refine G_lv [2, 3, 0, 4] rfl ?_
          exact T_X12_reckons_192 F hK4 l0 l1 (l2 + (-1)) l3 h33
    · refine g_aload_n 1 dX12_reckons_46 rfl ?_
      refine g_getR fl_RX12_30 rfl dX12_reckons_47 (fun v34 => ?_)
      refine g_iload_n 3 dX12_reckons_50 rfl ?_
      refine g_iload 0 dX12_reckons_51 rfl ?_
      refine g_sipush (v := 1000) dX12_reckons_53 (by decide) ?_
      refine g_icmp_ge (tgt := 64) dX12_reckons_56 (by decide) (fun c35 => ?_) (fun c35 => ?_)
      · refine g_aload_n 1 dX12_reckons_64 rfl ?_
        refine g_getR fl_RX12_33 rfl dX12_reckons_65 (fun v36 => ?_)
        refine g_iload 0 dX12_reckons_68 rfl ?_
        refine g_sipush (v := 1000) dX12_reckons_70 (by decide) ?_
        refine g_isub dX12_reckons_73 ?_
        refine g_iald dX12_reckons_74 (fun v37 => ?_)
        refine G_lv [1, 2, 3, 4] rfl ?_
        exact T_X12_reckons_75 F hK4 l0 l1 l2 l3 v37 l2 v34 h
      · refine g_iload 0 dX12_reckons_59 rfl ?_
        refine g_goto (tgt := 75) dX12_reckons_61 (by decide) ?_
        refine G_lv [1, 2, 3, 4] rfl ?_
        exact T_X12_reckons_75 F hK4 l0 l1 l2 l3 v9 l2 v34 h
set_option maxRecDepth 100000 in
noncomputable def f_X12_reckons_4 (F : Nat) : Nat → Nat → Int32 → Int32 → Int32 → Hp → Option (Int32 × Hp)
  | 0, _, _, _, _, _ => none
  | n + 1, l0, l1, l2, l3, h => f_X12_reckons_4_b F (f_X12_reckons_4 F n) l0 l1 l2 l3 h
set_option maxRecDepth 100000 in
set_option maxHeartbeats 4000000 in
theorem T_X12_reckons_4 (F : Nat) : ∀ (n : Nat) (l0 : Nat) (l1 : Int32) (l2 : Int32) (l3 : Int32) (h : Hp), G rvI I_X12_reckons 2 4 [(0, .ref l0), (1, .int l1), (2, .int l2), (3, .int l3)] [] h (f_X12_reckons_4 F n l0 l1 l2 l3 h) := by
  intro n
  induction n with
  | zero => intros; exact G_none
  | succ n ih => intro l0 l1 l2 l3 h; exact T_X12_reckons_4_b F ih l0 l1 l2 l3 h
set_option maxRecDepth 100000 in
noncomputable def f_X12_reckons (F : Nat) (a0 : Nat) (a1 : Int32) (h : Hp) : Option (Int32 × Hp) :=
  f_X12_reckons_4 F F a0 a1 0 0 h
set_option maxRecDepth 100000 in
set_option maxHeartbeats 4000000 in
theorem T_X12_reckons (F : Nat) (a0 : Nat) (a1 : Int32) (h : Hp) : GM rvI I_X12_reckons 2 [.ref a0, .int a1] h (f_X12_reckons F a0 a1 h) := by
  delta f_X12_reckons
  refine GM_of (lv := [(0, .ref a0), (1, .int a1)]) (by decide +kernel) (Nat.le_of_ble_eq_true rfl) rfl ?_
  refine g_iconst (v := 0) dX12_reckons_0 (by decide) ?_
  refine g_istore_n (lv' := [(2, .int 0), (0, .ref a0), (1, .int a1)]) dX12_reckons_1 (by decide) rfl ?_
  refine g_iconst (v := 0) dX12_reckons_2 (by decide) ?_
  refine g_istore_n (lv' := [(3, .int 0), (2, .int 0), (0, .ref a0), (1, .int a1)]) dX12_reckons_3 (by decide) rfl ?_
  refine G_lv [2, 3, 1, 0] rfl ?_
  exact T_X12_reckons_4 F F a0 a1 0 0 h
set_option maxRecDepth 100000 in
noncomputable def f_X12_mayTell (F : Nat) (a0 : Nat) (a1 : Int32) (a2 : Int32) (a3 : Int32) (h : Hp) : Option (Int32 × Hp) :=
  gR 13 h a0 1 fun v1 => aI 20 h v1 4 fun v2 => if v2 = 0 then (some (1, h)) else (cV 13 h a0 (f_X12_laysWords F a0 a1 a2 a3 h) fun v4 h5 => cV 13 h5 a0 (f_X12_reckons F a0 1 h5) fun v6 h7 => if v6 = 1 then (some (1, h7)) else (some (0, h7)))
set_option maxRecDepth 100000 in
set_option maxHeartbeats 4000000 in
theorem T_X12_mayTell (F : Nat) (a0 : Nat) (a1 : Int32) (a2 : Int32) (a3 : Int32) (h : Hp) : GM rvI I_X12_mayTell 4 [.ref a0, .int a1, .int a2, .int a3] h (f_X12_mayTell F a0 a1 a2 a3 h) := by
  delta f_X12_mayTell
  refine GM_of (lv := [(0, .ref a0), (1, .int a1), (2, .int a2), (3, .int a3)]) (by decide +kernel) (Nat.le_of_ble_eq_true rfl) rfl ?_
  refine g_aload_n 0 dX12_mayTell_0 rfl ?_
  refine g_getR fl_RX12_13 rfl dX12_mayTell_1 (fun v1 => ?_)
  refine g_iconst (v := 4) dX12_mayTell_4 (by decide) ?_
  refine g_iald dX12_mayTell_5 (fun v2 => ?_)
  refine g_if_ne (tgt := 11) dX12_mayTell_6 (by decide) (fun c3 => ?_) (fun c3 => ?_)
  · refine g_iconst (v := 1) dX12_mayTell_9 (by decide) ?_
    exact g_zret (ty := .boolean) rfl rfl dX12_mayTell_10
  · refine g_aload_n 0 dX12_mayTell_11 rfl ?_
    refine g_iload_n 1 dX12_mayTell_12 rfl ?_
    refine g_iload_n 2 dX12_mayTell_13 rfl ?_
    refine g_iload_n 3 dX12_mayTell_14 rfl ?_
    refine g_callVv (J := I_X12_laysWords) (t := 13) (As := [.int a1, .int a2, .int a3]) (rest := []) mjv_X12_laysWords ml_RX12_220 ⟨rfl, by decide, by decide⟩ (by decide) rfl rfl (Nat.le_of_ble_eq_true rfl) dX12_mayTell_15 (T_X12_laysWords F a0 a1 a2 a3 h) (fun v4 h5 => ?_)
    refine g_aload_n 0 dX12_mayTell_18 rfl ?_
    refine g_iconst (v := 1) dX12_mayTell_19 (by decide) ?_
    refine g_callVi (J := I_X12_reckons) (t := 13) (As := [.int 1]) (rest := []) mjv_X12_reckons ml_RX12_224 ⟨rfl, by decide, by decide⟩ (by decide) rfl rfl (Nat.le_of_ble_eq_true rfl) dX12_mayTell_20 (T_X12_reckons F a0 1 h5) (fun v6 h7 => ?_)
    refine g_iconst (v := 1) dX12_mayTell_23 (by decide) ?_
    refine g_icmp_ne (tgt := 31) dX12_mayTell_24 (by decide) (fun c8 => ?_) (fun c8 => ?_)
    · refine g_iconst (v := 1) dX12_mayTell_27 (by decide) ?_
      refine g_goto (tgt := 32) dX12_mayTell_28 (by decide) ?_
      exact g_zret (ty := .boolean) rfl rfl dX12_mayTell_32
    · refine g_iconst (v := 0) dX12_mayTell_31 (by decide) ?_
      exact g_zret (ty := .boolean) rfl rfl dX12_mayTell_32
set_option maxRecDepth 100000 in
noncomputable def f_X12_comesTo (F : Nat) (a0 : Nat) (a1 : Int32) (a2 : Int32) (a3 : Int32) (h : Hp) : Option (Int32 × Hp) :=
  gR 13 h a0 1 fun v1 => aI 20 h v1 3 fun v2 => if v2 = 0 then (some (2, h)) else (cV 13 h a0 (f_X12_laysWords F a0 a1 a2 a3 h) fun v4 h5 => cV 13 h5 a0 (f_X12_reckons F a0 0 h5) fun v6 h7 => if 0 ≤ v6 then (if v6 ≤ 3 then (some (v6, h7)) else (some (3, h7))) else (some (0, h7)))
set_option maxRecDepth 100000 in
set_option maxHeartbeats 4000000 in
theorem T_X12_comesTo (F : Nat) (a0 : Nat) (a1 : Int32) (a2 : Int32) (a3 : Int32) (h : Hp) : GM rvI I_X12_comesTo 4 [.ref a0, .int a1, .int a2, .int a3] h (f_X12_comesTo F a0 a1 a2 a3 h) := by
  delta f_X12_comesTo
  refine GM_of (lv := [(0, .ref a0), (1, .int a1), (2, .int a2), (3, .int a3)]) (by decide +kernel) (Nat.le_of_ble_eq_true rfl) rfl ?_
  refine g_aload_n 0 dX12_comesTo_0 rfl ?_
  refine g_getR fl_RX12_13 rfl dX12_comesTo_1 (fun v1 => ?_)
  refine g_iconst (v := 3) dX12_comesTo_4 (by decide) ?_
  refine g_iald dX12_comesTo_5 (fun v2 => ?_)
  refine g_if_ne (tgt := 11) dX12_comesTo_6 (by decide) (fun c3 => ?_) (fun c3 => ?_)
  · refine g_iconst (v := 2) dX12_comesTo_9 (by decide) ?_
    exact g_iret rfl dX12_comesTo_10
  · refine g_aload_n 0 dX12_comesTo_11 rfl ?_
    refine g_iload_n 1 dX12_comesTo_12 rfl ?_
    refine g_iload_n 2 dX12_comesTo_13 rfl ?_
    refine g_iload_n 3 dX12_comesTo_14 rfl ?_
    refine g_callVv (J := I_X12_laysWords) (t := 13) (As := [.int a1, .int a2, .int a3]) (rest := []) mjv_X12_laysWords ml_RX12_220 ⟨rfl, by decide, by decide⟩ (by decide) rfl rfl (Nat.le_of_ble_eq_true rfl) dX12_comesTo_15 (T_X12_laysWords F a0 a1 a2 a3 h) (fun v4 h5 => ?_)
    refine g_aload_n 0 dX12_comesTo_18 rfl ?_
    refine g_iconst (v := 0) dX12_comesTo_19 (by decide) ?_
    refine g_callVi (J := I_X12_reckons) (t := 13) (As := [.int 0]) (rest := []) mjv_X12_reckons ml_RX12_224 ⟨rfl, by decide, by decide⟩ (by decide) rfl rfl (Nat.le_of_ble_eq_true rfl) dX12_comesTo_20 (T_X12_reckons F a0 0 h5) (fun v6 h7 => ?_)
    refine g_istore (lv' := [(4, .int v6), (0, .ref a0), (1, .int a1), (2, .int a2), (3, .int a3)]) dX12_comesTo_23 (by decide) rfl ?_
    refine g_iload 0 dX12_comesTo_25 rfl ?_
    refine g_if_ge (tgt := 34) dX12_comesTo_27 (by decide) (fun c8 => ?_) (fun c8 => ?_)
    · refine g_iload 0 dX12_comesTo_34 rfl ?_
      refine g_iconst (v := 3) dX12_comesTo_36 (by decide) ?_
      refine g_icmp_le (tgt := 44) dX12_comesTo_37 (by decide) (fun c9 => ?_) (fun c9 => ?_)
      · refine g_iload 0 dX12_comesTo_44 rfl ?_
        exact g_iret rfl dX12_comesTo_46
      · refine g_iconst (v := 3) dX12_comesTo_40 (by decide) ?_
        refine g_goto (tgt := 46) dX12_comesTo_41 (by decide) ?_
        exact g_iret rfl dX12_comesTo_46
    · refine g_iconst (v := 0) dX12_comesTo_30 (by decide) ?_
      refine g_goto (tgt := 46) dX12_comesTo_31 (by decide) ?_
      exact g_iret rfl dX12_comesTo_46
set_option maxRecDepth 100000 in
noncomputable def f_X12_withAge (F : Nat) (a0 : Int32) (a1 : Int32) (a2 : Int32) (a3 : Int32) (h : Hp) : Option (Int32 × Hp) :=
  lt (2 * ((4 * a1) + a2)) fun x1 => some (((a0 &&& (((3 : Int32) <<< (x1 &&& 31)) ^^^ (-1))) ||| (a3 <<< (x1 &&& 31))), h)
set_option maxRecDepth 100000 in
set_option maxHeartbeats 4000000 in
theorem T_X12_withAge (F : Nat) (a0 : Int32) (a1 : Int32) (a2 : Int32) (a3 : Int32) (h : Hp) : GM rvI I_X12_withAge 1 [.int a0, .int a1, .int a2, .int a3] h (f_X12_withAge F a0 a1 a2 a3 h) := by
  delta f_X12_withAge
  refine GM_of (lv := [(0, .int a0), (1, .int a1), (2, .int a2), (3, .int a3)]) (by decide +kernel) (Nat.le_of_ble_eq_true rfl) rfl ?_
  refine g_iconst (v := 2) dX12_withAge_0 (by decide) ?_
  refine g_iconst (v := 4) dX12_withAge_1 (by decide) ?_
  refine g_iload_n 1 dX12_withAge_2 rfl ?_
  refine g_imul dX12_withAge_3 ?_
  refine g_iload_n 2 dX12_withAge_4 rfl ?_
  refine g_iadd dX12_withAge_5 ?_
  refine g_imul dX12_withAge_6 ?_
  refine G_lti (fun x1 => ?_)
  refine g_istore (lv' := [(4, .int x1), (0, .int a0), (1, .int a1), (2, .int a2), (3, .int a3)]) dX12_withAge_7 (by decide) rfl ?_
  refine g_iload_n 1 dX12_withAge_9 rfl ?_
  refine g_iconst (v := 3) dX12_withAge_10 (by decide) ?_
  refine g_iload 0 dX12_withAge_11 rfl ?_
  refine g_ishl dX12_withAge_13 ?_
  refine g_iconst (v := (-1)) dX12_withAge_14 (by decide) ?_
  refine g_ixor dX12_withAge_15 ?_
  refine g_iand dX12_withAge_16 ?_
  refine g_iload_n 4 dX12_withAge_17 rfl ?_
  refine g_iload 0 dX12_withAge_18 rfl ?_
  refine g_ishl dX12_withAge_20 ?_
  refine g_ior dX12_withAge_21 ?_
  exact g_iret rfl dX12_withAge_22
set_option maxRecDepth 100000 in
noncomputable def f_X12_toldTo_62 (F : Nat) (s0 : Int32) (s1 : Int32) (s2 : Int32) (s3 : Int32) (h : Hp) : Option (Int32 × Hp) :=
  bd (f_X12_withAge F s3 s2 s1 s0 h) fun v11 h12 => some (v11, h12)
set_option maxRecDepth 100000 in
set_option maxHeartbeats 4000000 in
theorem T_X12_toldTo_62 (F : Nat) (s0 : Int32) (s1 : Int32) (s2 : Int32) (s3 : Int32) (h : Hp) : G rvI I_X12_toldTo 5 62 [] [.int s0, .int s1, .int s2, .int s3] h (f_X12_toldTo_62 F s0 s1 s2 s3 h) := by
  delta f_X12_toldTo_62
  refine g_callSi (J := I_X12_withAge) (As := [.int s3, .int s2, .int s1, .int s0]) (rest := []) mjs_X12_withAge ml_RX12_230 (by decide) rfl rfl (Nat.le_of_ble_eq_true rfl) dX12_toldTo_62 (T_X12_withAge F s3 s2 s1 s0 h) (fun v11 h12 => ?_)
  exact g_iret rfl dX12_toldTo_65
set_option maxRecDepth 100000 in
noncomputable def f_X12_toldTo_41 (F : Nat) (l2 : Int32) (l3 : Int32) (l4 : Int32) (l5 : Int32) (s0 : Int32) (s1 : Int32) (s2 : Int32) (s3 : Int32) (h : Hp) : Option (Int32 × Hp) :=
  bd (f_X12_withAge F s3 s2 s1 s0 h) fun v8 h9 => if l4 ≤ l5 then (f_X12_toldTo_62 F l5 l3 (1 - l2) v8 h9) else (f_X12_toldTo_62 F l4 l3 (1 - l2) v8 h9)
set_option maxRecDepth 100000 in
set_option maxHeartbeats 4000000 in
theorem T_X12_toldTo_41 (F : Nat) (l2 : Int32) (l3 : Int32) (l4 : Int32) (l5 : Int32) (s0 : Int32) (s1 : Int32) (s2 : Int32) (s3 : Int32) (h : Hp) : G rvI I_X12_toldTo 5 41 [(2, .int l2), (3, .int l3), (4, .int l4), (5, .int l5)] [.int s0, .int s1, .int s2, .int s3] h (f_X12_toldTo_41 F l2 l3 l4 l5 s0 s1 s2 s3 h) := by
  delta f_X12_toldTo_41
  refine g_callSi (J := I_X12_withAge) (As := [.int s3, .int s2, .int s1, .int s0]) (rest := []) mjs_X12_withAge ml_RX12_230 (by decide) rfl rfl (Nat.le_of_ble_eq_true rfl) dX12_toldTo_41 (T_X12_withAge F s3 s2 s1 s0 h) (fun v8 h9 => ?_)
  refine g_iconst (v := 1) dX12_toldTo_44 (by decide) ?_
  refine g_iload_n 0 dX12_toldTo_45 rfl ?_
  refine g_isub dX12_toldTo_46 ?_
  refine g_iload_n 1 dX12_toldTo_47 rfl ?_
  refine g_iload 2 dX12_toldTo_48 rfl ?_
  refine g_iload 3 dX12_toldTo_50 rfl ?_
  refine g_icmp_le (tgt := 60) dX12_toldTo_52 (by decide) (fun c10 => ?_) (fun c10 => ?_)
  · refine g_iload 3 dX12_toldTo_60 rfl ?_
    refine G_lv [] rfl ?_
    exact T_X12_toldTo_62 F l5 l3 (1 - l2) v8 h9
  · refine g_iload 2 dX12_toldTo_55 rfl ?_
    refine g_goto (tgt := 62) dX12_toldTo_57 (by decide) ?_
    refine G_lv [] rfl ?_
    exact T_X12_toldTo_62 F l4 l3 (1 - l2) v8 h9
set_option maxRecDepth 100000 in
noncomputable def f_X12_toldTo (F : Nat) (a0 : Nat) (a1 : Int32) (a2 : Int32) (a3 : Int32) (h : Hp) : Option (Int32 × Hp) :=
  cV 13 h a0 (f_X12_comesTo F a0 a1 a2 a3 h) fun v1 h2 => bd (f_X12_ageIn F a1 (1 - a2) a3 h2) fun v3 h4 => bd (f_X12_ageIn F a1 a2 a3 h4) fun v5 h6 => if v5 = 0 then (f_X12_toldTo_41 F a2 a3 v1 v3 1 a3 a2 a1 h6) else (f_X12_toldTo_41 F a2 a3 v1 v3 v5 a3 a2 a1 h6)
set_option maxRecDepth 100000 in
set_option maxHeartbeats 4000000 in
theorem T_X12_toldTo (F : Nat) (a0 : Nat) (a1 : Int32) (a2 : Int32) (a3 : Int32) (h : Hp) : GM rvI I_X12_toldTo 5 [.ref a0, .int a1, .int a2, .int a3] h (f_X12_toldTo F a0 a1 a2 a3 h) := by
  delta f_X12_toldTo
  refine GM_of (lv := [(0, .ref a0), (1, .int a1), (2, .int a2), (3, .int a3)]) (by decide +kernel) (Nat.le_of_ble_eq_true rfl) rfl ?_
  refine g_aload_n 0 dX12_toldTo_0 rfl ?_
  refine g_iload_n 1 dX12_toldTo_1 rfl ?_
  refine g_iload_n 2 dX12_toldTo_2 rfl ?_
  refine g_iload_n 3 dX12_toldTo_3 rfl ?_
  refine g_callVi (J := I_X12_comesTo) (t := 13) (As := [.int a1, .int a2, .int a3]) (rest := []) mjv_X12_comesTo ml_RX12_227 ⟨rfl, by decide, by decide⟩ (by decide) rfl rfl (Nat.le_of_ble_eq_true rfl) dX12_toldTo_4 (T_X12_comesTo F a0 a1 a2 a3 h) (fun v1 h2 => ?_)
  refine g_istore (lv' := [(4, .int v1), (0, .ref a0), (1, .int a1), (2, .int a2), (3, .int a3)]) dX12_toldTo_7 (by decide) rfl ?_
  refine g_iload_n 2 dX12_toldTo_9 rfl ?_
  refine g_iconst (v := 1) dX12_toldTo_10 (by decide) ?_
  refine g_iload_n 3 dX12_toldTo_11 rfl ?_
  refine g_isub dX12_toldTo_12 ?_
  refine g_iload_n 4 dX12_toldTo_13 rfl ?_
  refine g_callSi (J := I_X12_ageIn) (As := [.int a1, .int (1 - a2), .int a3]) (rest := []) mjs_X12_ageIn ml_RX12_214 (by decide) rfl rfl (Nat.le_of_ble_eq_true rfl) dX12_toldTo_14 (T_X12_ageIn F a1 (1 - a2) a3 h2) (fun v3 h4 => ?_)
  refine g_istore (lv' := [(5, .int v3), (4, .int v1), (0, .ref a0), (1, .int a1), (2, .int a2), (3, .int a3)]) dX12_toldTo_17 (by decide) rfl ?_
  refine g_iload_n 3 dX12_toldTo_19 rfl ?_
  refine g_iload_n 4 dX12_toldTo_20 rfl ?_
  refine g_iload_n 5 dX12_toldTo_21 rfl ?_
  refine g_callSi (J := I_X12_ageIn) (As := [.int a1, .int a2, .int a3]) (rest := []) mjs_X12_ageIn ml_RX12_214 (by decide) rfl rfl (Nat.le_of_ble_eq_true rfl) dX12_toldTo_22 (T_X12_ageIn F a1 a2 a3 h4) (fun v5 h6 => ?_)
  refine g_istore (lv' := [(6, .int v5), (5, .int v3), (4, .int v1), (0, .ref a0), (1, .int a1), (2, .int a2), (3, .int a3)]) dX12_toldTo_25 (by decide) rfl ?_
  refine g_iload_n 4 dX12_toldTo_27 rfl ?_
  refine g_iload_n 5 dX12_toldTo_28 rfl ?_
  refine g_iload_n 6 dX12_toldTo_29 rfl ?_
  refine g_iload 0 dX12_toldTo_30 rfl ?_
  refine g_if_ne (tgt := 39) dX12_toldTo_32 (by decide) (fun c7 => ?_) (fun c7 => ?_)
  · refine g_iconst (v := 1) dX12_toldTo_35 (by decide) ?_
    refine g_goto (tgt := 41) dX12_toldTo_36 (by decide) ?_
    refine G_lv [5, 6, 2, 1] rfl ?_
    exact T_X12_toldTo_41 F a2 a3 v1 v3 1 a3 a2 a1 h6
  · refine g_iload 0 dX12_toldTo_39 rfl ?_
    refine G_lv [5, 6, 2, 1] rfl ?_
    exact T_X12_toldTo_41 F a2 a3 v1 v3 v5 a3 a2 a1 h6
set_option maxRecDepth 100000 in
noncomputable def f_X12_movedTo (F : Nat) (a0 : Nat) (a1 : Int32) (a2 : Int32) (h : Hp) : Option (Int32 × Hp) :=
  if a2 = 8 then (bd (f_X12_dayTo F a1 h) fun v2 h3 => some (v2, h3)) else (lt (a2 - a2 / 4 * 4) fun x4 => gR 13 h a0 1 fun v5 => aI 20 h v5 1 fun v6 => if v6 ≤ x4 then (some ((-1), h)) else (cV 13 h a0 (f_X12_mayTell F a0 a1 (a2 / 4) x4 h) fun v8 h9 => if v8 = 0 then (some ((-1), h9)) else (cV 13 h9 a0 (f_X12_toldTo F a0 a1 (a2 / 4) x4 h9) fun v11 h12 => some (v11, h12))))
set_option maxRecDepth 100000 in
set_option maxHeartbeats 4000000 in
theorem T_X12_movedTo (F : Nat) (a0 : Nat) (a1 : Int32) (a2 : Int32) (h : Hp) : GM rvI I_X12_movedTo 6 [.ref a0, .int a1, .int a2] h (f_X12_movedTo F a0 a1 a2 h) := by
  delta f_X12_movedTo
  refine GM_of (lv := [(0, .ref a0), (1, .int a1), (2, .int a2)]) (by decide +kernel) (Nat.le_of_ble_eq_true rfl) rfl ?_
  refine g_iload_n 2 dX12_movedTo_0 rfl ?_
  refine g_bipush (v := 8) dX12_movedTo_1 (by decide) ?_
  refine g_icmp_ne (tgt := 11) dX12_movedTo_3 (by decide) (fun c1 => ?_) (fun c1 => ?_)
  · refine g_iload_n 1 dX12_movedTo_6 rfl ?_
    refine g_callSi (J := I_X12_dayTo) (As := [.int a1]) (rest := []) mjs_X12_dayTo ml_RX12_284 (by decide) rfl rfl (Nat.le_of_ble_eq_true rfl) dX12_movedTo_7 (T_X12_dayTo F a1 h) (fun v2 h3 => ?_)
    exact g_iret rfl dX12_movedTo_10
  · refine g_iload_n 2 dX12_movedTo_11 rfl ?_
    refine g_iconst (v := 4) dX12_movedTo_12 (by decide) ?_
    refine g_irem (by decide) dX12_movedTo_13 ?_
    refine G_lti (fun x4 => ?_)
    refine g_istore_n (lv' := [(3, .int x4), (0, .ref a0), (1, .int a1), (2, .int a2)]) dX12_movedTo_14 (by decide) rfl ?_
    refine g_iload_n 0 dX12_movedTo_15 rfl ?_
    refine g_aload_n 1 dX12_movedTo_16 rfl ?_
    refine g_getR fl_RX12_13 rfl dX12_movedTo_17 (fun v5 => ?_)
    refine g_iconst (v := 1) dX12_movedTo_20 (by decide) ?_
    refine g_iald dX12_movedTo_21 (fun v6 => ?_)
    refine g_icmp_ge (tgt := 49) dX12_movedTo_22 (by decide) (fun c7 => ?_) (fun c7 => ?_)
    · refine g_iconst (v := (-1)) dX12_movedTo_49 (by decide) ?_
      exact g_iret rfl dX12_movedTo_50
    · refine g_aload_n 1 dX12_movedTo_25 rfl ?_
      refine g_iload_n 2 dX12_movedTo_26 rfl ?_
      refine g_iload_n 3 dX12_movedTo_27 rfl ?_
      refine g_iconst (v := 4) dX12_movedTo_28 (by decide) ?_
      refine g_idiv (by decide) dX12_movedTo_29 ?_
      refine g_iload_n 0 dX12_movedTo_30 rfl ?_
      refine g_callVi (J := I_X12_mayTell) (t := 13) (As := [.int a1, .int (a2 / 4), .int x4]) (rest := []) mjv_X12_mayTell ml_RX12_263 ⟨rfl, by decide, by decide⟩ (by decide) rfl rfl (Nat.le_of_ble_eq_true rfl) dX12_movedTo_31 (T_X12_mayTell F a0 a1 (a2 / 4) x4 h) (fun v8 h9 => ?_)
      refine g_if_eq (tgt := 49) dX12_movedTo_34 (by decide) (fun c10 => ?_) (fun c10 => ?_)
      · refine g_iconst (v := (-1)) dX12_movedTo_49 (by decide) ?_
        exact g_iret rfl dX12_movedTo_50
      · refine g_aload_n 1 dX12_movedTo_37 rfl ?_
        refine g_iload_n 2 dX12_movedTo_38 rfl ?_
        refine g_iload_n 3 dX12_movedTo_39 rfl ?_
        refine g_iconst (v := 4) dX12_movedTo_40 (by decide) ?_
        refine g_idiv (by decide) dX12_movedTo_41 ?_
        refine g_iload_n 0 dX12_movedTo_42 rfl ?_
        refine g_callVi (J := I_X12_toldTo) (t := 13) (As := [.int a1, .int (a2 / 4), .int x4]) (rest := []) mjv_X12_toldTo ml_RX12_266 ⟨rfl, by decide, by decide⟩ (by decide) rfl rfl (Nat.le_of_ble_eq_true rfl) dX12_movedTo_43 (T_X12_toldTo F a0 a1 (a2 / 4) x4 h9) (fun v11 h12 => ?_)
        refine g_goto (tgt := 50) dX12_movedTo_46 (by decide) ?_
        exact g_iret rfl dX12_movedTo_50
set_option maxRecDepth 100000 in
noncomputable def f_X12_standNow_4_b (F : Nat) (K4 : Nat → Int32 → Int32 → Hp → Option (Int32 × Hp)) (l0 : Nat) (l1 : Int32) (l2 : Int32) (h : Hp) : Option (Int32 × Hp) :=
  if 8 ≤ l2 then (some (l1, h)) else (gR 13 h l0 1 fun v2 => aI 20 h v2 (43 + l2) fun v3 => lt (l1 ||| (v3 <<< ((2 * l2) &&& 31))) fun x4 => K4 l0 x4 (l2 + 1) h)
set_option maxRecDepth 100000 in
set_option maxHeartbeats 4000000 in
theorem T_X12_standNow_4_b (F : Nat) {K4 : Nat → Int32 → Int32 → Hp → Option (Int32 × Hp)} (hK4 : ∀ (l0 : Nat) (l1 : Int32) (l2 : Int32) (h : Hp), G rvI I_X12_standNow 1 4 [(0, .ref l0), (1, .int l1), (2, .int l2)] [] h (K4 l0 l1 l2 h)) (l0 : Nat) (l1 : Int32) (l2 : Int32) (h : Hp) : G rvI I_X12_standNow 1 4 [(0, .ref l0), (1, .int l1), (2, .int l2)] [] h (f_X12_standNow_4_b F K4 l0 l1 l2 h) := by
  delta f_X12_standNow_4_b
  refine g_iload_n 2 dX12_standNow_4 rfl ?_
  refine g_bipush (v := 8) dX12_standNow_5 (by decide) ?_
  refine g_icmp_ge (tgt := 32) dX12_standNow_7 (by decide) (fun c1 => ?_) (fun c1 => ?_)
  · refine g_iload_n 1 dX12_standNow_32 rfl ?_
    exact g_iret rfl dX12_standNow_33
  · refine g_iload_n 1 dX12_standNow_10 rfl ?_
    refine g_aload_n 0 dX12_standNow_11 rfl ?_
    refine g_getR fl_RX12_13 rfl dX12_standNow_12 (fun v2 => ?_)
    refine g_bipush (v := 43) dX12_standNow_15 (by decide) ?_
    refine g_iload_n 2 dX12_standNow_17 rfl ?_
    refine g_iadd dX12_standNow_18 ?_
    refine g_iald dX12_standNow_19 (fun v3 => ?_)
    refine g_iconst (v := 2) dX12_standNow_20 (by decide) ?_
    refine g_iload_n 2 dX12_standNow_21 rfl ?_
    refine g_imul dX12_standNow_22 ?_
    refine g_ishl dX12_standNow_23 ?_
    refine g_ior dX12_standNow_24 ?_
    refine G_lti (fun x4 => ?_)
    refine g_istore_n (lv' := [(1, .int x4), (0, .ref l0), (2, .int l2)]) dX12_standNow_25 (by decide) rfl ?_
    refine g_iinc (v' := l2 + 1) (lv' := [(2, .int (l2 + 1)), (1, .int x4), (0, .ref l0)]) 2 dX12_standNow_26 rfl rfl (by decide) rfl ?_
    refine g_goto (tgt := 4) dX12_standNow_29 (by decide) ?_
    refine G_lv [2, 1, 0] rfl ?_
    exact hK4 l0 x4 (l2 + 1) h
set_option maxRecDepth 100000 in
noncomputable def f_X12_standNow_4 (F : Nat) : Nat → Nat → Int32 → Int32 → Hp → Option (Int32 × Hp)
  | 0, _, _, _, _ => none
  | n + 1, l0, l1, l2, h => f_X12_standNow_4_b F (f_X12_standNow_4 F n) l0 l1 l2 h
set_option maxRecDepth 100000 in
set_option maxHeartbeats 4000000 in
theorem T_X12_standNow_4 (F : Nat) : ∀ (n : Nat) (l0 : Nat) (l1 : Int32) (l2 : Int32) (h : Hp), G rvI I_X12_standNow 1 4 [(0, .ref l0), (1, .int l1), (2, .int l2)] [] h (f_X12_standNow_4 F n l0 l1 l2 h) := by
  intro n
  induction n with
  | zero => intros; exact G_none
  | succ n ih => intro l0 l1 l2 h; exact T_X12_standNow_4_b F ih l0 l1 l2 h
set_option maxRecDepth 100000 in
noncomputable def f_X12_standNow (F : Nat) (a0 : Nat) (h : Hp) : Option (Int32 × Hp) :=
  f_X12_standNow_4 F F a0 0 0 h
set_option maxRecDepth 100000 in
set_option maxHeartbeats 4000000 in
theorem T_X12_standNow (F : Nat) (a0 : Nat) (h : Hp) : GM rvI I_X12_standNow 1 [.ref a0] h (f_X12_standNow F a0 h) := by
  delta f_X12_standNow
  refine GM_of (lv := [(0, .ref a0)]) (by decide +kernel) (Nat.le_of_ble_eq_true rfl) rfl ?_
  refine g_iconst (v := 0) dX12_standNow_0 (by decide) ?_
  refine g_istore_n (lv' := [(1, .int 0), (0, .ref a0)]) dX12_standNow_1 (by decide) rfl ?_
  refine g_iconst (v := 0) dX12_standNow_2 (by decide) ?_
  refine g_istore_n (lv' := [(2, .int 0), (1, .int 0), (0, .ref a0)]) dX12_standNow_3 (by decide) rfl ?_
  refine G_lv [2, 1, 0] rfl ?_
  exact T_X12_standNow_4 F F a0 0 0 h
