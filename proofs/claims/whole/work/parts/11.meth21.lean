/-! L2, by program (wip/whole/gen/gen.py) -/
set_option maxRecDepth 100000 in
noncomputable def f_X12_isDigit (F : Nat) (a0 : Int32) (h : Hp) : Option (Int32 × Hp) :=
  if a0 < 48 then (some (0, h)) else (if 57 < a0 then (some (0, h)) else (some (1, h)))
set_option maxRecDepth 100000 in
set_option maxHeartbeats 4000000 in
theorem T_X12_isDigit (F : Nat) (a0 : Int32) (h : Hp) : GM rvI I_X12_isDigit 1 [.int a0] h (f_X12_isDigit F a0 h) := by
  delta f_X12_isDigit
  refine GM_of (lv := [(0, .int a0)]) (by decide +kernel) (Nat.le_of_ble_eq_true rfl) rfl ?_
  refine g_iload_n 0 dX12_isDigit_0 rfl ?_
  refine g_bipush (v := 48) dX12_isDigit_1 (by decide) ?_
  refine g_icmp_lt (tgt := 16) dX12_isDigit_3 (by decide) (fun c1 => ?_) (fun c1 => ?_)
  · refine g_iconst (v := 0) dX12_isDigit_16 (by decide) ?_
    exact g_zret (ty := .boolean) rfl rfl dX12_isDigit_17
  · refine g_iload_n 0 dX12_isDigit_6 rfl ?_
    refine g_bipush (v := 57) dX12_isDigit_7 (by decide) ?_
    refine g_icmp_gt (tgt := 16) dX12_isDigit_9 (by decide) (fun c2 => ?_) (fun c2 => ?_)
    · refine g_iconst (v := 0) dX12_isDigit_16 (by decide) ?_
      exact g_zret (ty := .boolean) rfl rfl dX12_isDigit_17
    · refine g_iconst (v := 1) dX12_isDigit_12 (by decide) ?_
      refine g_goto (tgt := 17) dX12_isDigit_13 (by decide) ?_
      exact g_zret (ty := .boolean) rfl rfl dX12_isDigit_17
set_option maxRecDepth 100000 in
noncomputable def f_X12_isSmall (F : Nat) (a0 : Int32) (h : Hp) : Option (Int32 × Hp) :=
  if a0 < 97 then (some (0, h)) else (if 122 < a0 then (some (0, h)) else (some (1, h)))
set_option maxRecDepth 100000 in
set_option maxHeartbeats 4000000 in
theorem T_X12_isSmall (F : Nat) (a0 : Int32) (h : Hp) : GM rvI I_X12_isSmall 1 [.int a0] h (f_X12_isSmall F a0 h) := by
  delta f_X12_isSmall
  refine GM_of (lv := [(0, .int a0)]) (by decide +kernel) (Nat.le_of_ble_eq_true rfl) rfl ?_
  refine g_iload_n 0 dX12_isSmall_0 rfl ?_
  refine g_bipush (v := 97) dX12_isSmall_1 (by decide) ?_
  refine g_icmp_lt (tgt := 16) dX12_isSmall_3 (by decide) (fun c1 => ?_) (fun c1 => ?_)
  · refine g_iconst (v := 0) dX12_isSmall_16 (by decide) ?_
    exact g_zret (ty := .boolean) rfl rfl dX12_isSmall_17
  · refine g_iload_n 0 dX12_isSmall_6 rfl ?_
    refine g_bipush (v := 122) dX12_isSmall_7 (by decide) ?_
    refine g_icmp_gt (tgt := 16) dX12_isSmall_9 (by decide) (fun c2 => ?_) (fun c2 => ?_)
    · refine g_iconst (v := 0) dX12_isSmall_16 (by decide) ?_
      exact g_zret (ty := .boolean) rfl rfl dX12_isSmall_17
    · refine g_iconst (v := 1) dX12_isSmall_12 (by decide) ?_
      refine g_goto (tgt := 17) dX12_isSmall_13 (by decide) ?_
      exact g_zret (ty := .boolean) rfl rfl dX12_isSmall_17
set_option maxRecDepth 100000 in
noncomputable def f_X12_keyAt_97_b (F : Nat) (K4 : Nat → Int32 → Int32 → Hp → Option (Int32 × Hp)) (K97 : Nat → Int32 → Int32 → Hp → Option (Int32 × Hp)) (l0 : Nat) (l1 : Int32) (l2 : Int32) (h : Hp) : Option (Int32 × Hp) :=
  cV 14 h (hp_k h 2) (f_J0_charAt_5068e F (hp_k h 2) l2 h) fun v13 h14 => if v13 = 32 then (K4 l0 (l1 + 1) (l2 + 1) h14) else (K97 l0 l1 (l2 + 1) h14)
set_option maxRecDepth 100000 in
set_option maxHeartbeats 4000000 in
theorem T_X12_keyAt_97_b (F : Nat) {K4 : Nat → Int32 → Int32 → Hp → Option (Int32 × Hp)} (hK4 : ∀ (l0 : Nat) (l1 : Int32) (l2 : Int32) (h : Hp), G rvI I_X12_keyAt 5 4 [(0, .ref l0), (1, .int l1), (2, .int l2)] [] h (K4 l0 l1 l2 h)) {K97 : Nat → Int32 → Int32 → Hp → Option (Int32 × Hp)} (hK97 : ∀ (l0 : Nat) (l1 : Int32) (l2 : Int32) (h : Hp), G rvI I_X12_keyAt 5 97 [(0, .ref l0), (1, .int l1), (2, .int l2)] [] h (K97 l0 l1 l2 h)) (l0 : Nat) (l1 : Int32) (l2 : Int32) (h : Hp) : G rvI I_X12_keyAt 5 97 [(0, .ref l0), (1, .int l1), (2, .int l2)] [] h (f_X12_keyAt_97_b F K4 K97 l0 l1 l2 h) := by
  delta f_X12_keyAt_97_b
  refine g_ldcS 2 (by decide) rfl dX12_keyAt_97 ?_
  refine g_iload_n 2 dX12_keyAt_99 rfl ?_
  refine g_callVSi (J := I_J0_charAt_5068e) (As := [.int l2]) (rest := []) mjv_J0_charAt_5068e ml_RX12_90 rfl (by decide) rfl rfl (Nat.le_of_ble_eq_true rfl) dX12_keyAt_100 (T_J0_charAt_5068e F (hp_k h 2) l2 h) (fun v13 h14 => ?_)
  refine g_bipush (v := 32) dX12_keyAt_103 (by decide) ?_
  refine g_icmp_eq (tgt := 114) dX12_keyAt_105 (by decide) (fun c15 => ?_) (fun c15 => ?_)
  · refine g_iinc (v' := l2 + 1) (lv' := [(2, .int (l2 + 1)), (0, .ref l0), (1, .int l1)]) 2 dX12_keyAt_114 rfl rfl (by decide) rfl ?_
    refine g_iinc (v' := l1 + 1) (lv' := [(1, .int (l1 + 1)), (2, .int (l2 + 1)), (0, .ref l0)]) 2 dX12_keyAt_117 rfl rfl (by decide) rfl ?_
    refine g_goto (tgt := 4) dX12_keyAt_120 (by decide) ?_
    refine G_lv [2, 0, 1] rfl ?_
    exact hK4 l0 (l1 + 1) (l2 + 1) h14
  · refine g_iinc (v' := l2 + 1) (lv' := [(2, .int (l2 + 1)), (0, .ref l0), (1, .int l1)]) 2 dX12_keyAt_108 rfl rfl (by decide) rfl ?_
    refine g_goto (tgt := 97) dX12_keyAt_111 (by decide) ?_
    refine G_lv [1, 2, 0] rfl ?_
    exact hK97 l0 l1 (l2 + 1) h14
set_option maxRecDepth 100000 in
noncomputable def f_X12_keyAt_97 (F : Nat) (K4 : Nat → Int32 → Int32 → Hp → Option (Int32 × Hp)) : Nat → Nat → Int32 → Int32 → Hp → Option (Int32 × Hp)
  | 0, _, _, _, _ => none
  | n + 1, l0, l1, l2, h => f_X12_keyAt_97_b F K4 (f_X12_keyAt_97 F K4 n) l0 l1 l2 h
set_option maxRecDepth 100000 in
set_option maxHeartbeats 4000000 in
theorem T_X12_keyAt_97 (F : Nat) {K4 : Nat → Int32 → Int32 → Hp → Option (Int32 × Hp)} (hK4 : ∀ (l0 : Nat) (l1 : Int32) (l2 : Int32) (h : Hp), G rvI I_X12_keyAt 5 4 [(0, .ref l0), (1, .int l1), (2, .int l2)] [] h (K4 l0 l1 l2 h)) : ∀ (n : Nat) (l0 : Nat) (l1 : Int32) (l2 : Int32) (h : Hp), G rvI I_X12_keyAt 5 97 [(0, .ref l0), (1, .int l1), (2, .int l2)] [] h (f_X12_keyAt_97 F K4 n l0 l1 l2 h) := by
  intro n
  induction n with
  | zero => intros; exact G_none
  | succ n ih => intro l0 l1 l2 h; exact T_X12_keyAt_97_b F hK4 ih l0 l1 l2 h
set_option maxRecDepth 100000 in
noncomputable def f_X12_keyAt_69 (F : Nat) (K4 : Nat → Int32 → Int32 → Hp → Option (Int32 × Hp)) (l0 : Nat) (l1 : Int32) (l2 : Int32) (l3 : Int32) (h : Hp) : Option (Int32 × Hp) :=
  cV 14 h (hp_k h 2) (f_J0_charAt_5068e F (hp_k h 2) (l2 + l3) h) fun v7 h8 => if v7 = 32 then (gI 13 h8 l0 6 fun v10 => gI 13 h8 l0 7 fun v11 => if (v10 + l3) = v11 then (some (l1, h8)) else (f_X12_keyAt_97 F K4 F l0 l1 l2 h8)) else (f_X12_keyAt_97 F K4 F l0 l1 l2 h8)
set_option maxRecDepth 100000 in
set_option maxHeartbeats 4000000 in
theorem T_X12_keyAt_69 (F : Nat) {K4 : Nat → Int32 → Int32 → Hp → Option (Int32 × Hp)} (hK4 : ∀ (l0 : Nat) (l1 : Int32) (l2 : Int32) (h : Hp), G rvI I_X12_keyAt 5 4 [(0, .ref l0), (1, .int l1), (2, .int l2)] [] h (K4 l0 l1 l2 h)) (l0 : Nat) (l1 : Int32) (l2 : Int32) (l3 : Int32) (h : Hp) : G rvI I_X12_keyAt 5 69 [(0, .ref l0), (1, .int l1), (2, .int l2), (3, .int l3)] [] h (f_X12_keyAt_69 F K4 l0 l1 l2 l3 h) := by
  delta f_X12_keyAt_69
  refine g_ldcS 2 (by decide) rfl dX12_keyAt_69 ?_
  refine g_iload_n 2 dX12_keyAt_71 rfl ?_
  refine g_iload_n 3 dX12_keyAt_72 rfl ?_
  refine g_iadd dX12_keyAt_73 ?_
  refine g_callVSi (J := I_J0_charAt_5068e) (As := [.int (l2 + l3)]) (rest := []) mjv_J0_charAt_5068e ml_RX12_90 rfl (by decide) rfl rfl (Nat.le_of_ble_eq_true rfl) dX12_keyAt_74 (T_J0_charAt_5068e F (hp_k h 2) (l2 + l3) h) (fun v7 h8 => ?_)
  refine g_bipush (v := 32) dX12_keyAt_77 (by decide) ?_
  refine g_icmp_ne (tgt := 97) dX12_keyAt_79 (by decide) (fun c9 => ?_) (fun c9 => ?_)
  · refine g_aload_n 0 dX12_keyAt_82 rfl ?_
    refine g_getI fl_RX12_94 rfl dX12_keyAt_83 (fun v10 => ?_)
    refine g_iload_n 3 dX12_keyAt_86 rfl ?_
    refine g_iadd dX12_keyAt_87 ?_
    refine g_aload_n 0 dX12_keyAt_88 rfl ?_
    refine g_getI fl_RX12_97 rfl dX12_keyAt_89 (fun v11 => ?_)
    refine g_icmp_ne (tgt := 97) dX12_keyAt_92 (by decide) (fun c12 => ?_) (fun c12 => ?_)
    · refine g_iload_n 1 dX12_keyAt_95 rfl ?_
      exact g_iret rfl dX12_keyAt_96
    · refine G_lv [0, 1, 2] rfl ?_
      exact T_X12_keyAt_97 F hK4 F l0 l1 l2 h8
  · refine G_lv [0, 1, 2] rfl ?_
    exact T_X12_keyAt_97 F hK4 F l0 l1 l2 h8
set_option maxRecDepth 100000 in
noncomputable def f_X12_keyAt_15_b (F : Nat) (K4 : Nat → Int32 → Int32 → Hp → Option (Int32 × Hp)) (K15 : Nat → Int32 → Int32 → Int32 → Hp → Option (Int32 × Hp)) (l0 : Nat) (l1 : Int32) (l2 : Int32) (l3 : Int32) (h : Hp) : Option (Int32 × Hp) :=
  cV 14 h (hp_k h 2) (f_J0_charAt_5068e F (hp_k h 2) (l2 + l3) h) fun v4 h5 => if v4 = 32 then (f_X12_keyAt_69 F K4 l0 l1 l2 l3 h5) else (gI 13 h5 l0 6 fun v16 => gI 13 h5 l0 7 fun v17 => if v17 ≤ (v16 + l3) then (f_X12_keyAt_69 F K4 l0 l1 l2 l3 h5) else (gR 13 h5 l0 3 fun v19 => gI 13 h5 l0 6 fun v20 => aI 20 h5 v19 (v20 + l3) fun v21 => cV 14 h5 (hp_k h5 2) (f_J0_charAt_5068e F (hp_k h5 2) (l2 + l3) h5) fun v22 h23 => if v21 = v22 then (K15 l0 l1 l2 (l3 + 1) h23) else (f_X12_keyAt_69 F K4 l0 l1 l2 l3 h23)))
set_option maxRecDepth 100000 in
set_option maxHeartbeats 4000000 in
theorem T_X12_keyAt_15_b (F : Nat) {K4 : Nat → Int32 → Int32 → Hp → Option (Int32 × Hp)} (hK4 : ∀ (l0 : Nat) (l1 : Int32) (l2 : Int32) (h : Hp), G rvI I_X12_keyAt 5 4 [(0, .ref l0), (1, .int l1), (2, .int l2)] [] h (K4 l0 l1 l2 h)) {K15 : Nat → Int32 → Int32 → Int32 → Hp → Option (Int32 × Hp)} (hK15 : ∀ (l0 : Nat) (l1 : Int32) (l2 : Int32) (l3 : Int32) (h : Hp), G rvI I_X12_keyAt 5 15 [(0, .ref l0), (1, .int l1), (2, .int l2), (3, .int l3)] [] h (K15 l0 l1 l2 l3 h)) (l0 : Nat) (l1 : Int32) (l2 : Int32) (l3 : Int32) (h : Hp) : G rvI I_X12_keyAt 5 15 [(0, .ref l0), (1, .int l1), (2, .int l2), (3, .int l3)] [] h (f_X12_keyAt_15_b F K4 K15 l0 l1 l2 l3 h) := by
  delta f_X12_keyAt_15_b
  refine g_ldcS 2 (by decide) rfl dX12_keyAt_15 ?_
  refine g_iload_n 2 dX12_keyAt_17 rfl ?_
  refine g_iload_n 3 dX12_keyAt_18 rfl ?_
  refine g_iadd dX12_keyAt_19 ?_
  refine g_callVSi (J := I_J0_charAt_5068e) (As := [.int (l2 + l3)]) (rest := []) mjv_J0_charAt_5068e ml_RX12_90 rfl (by decide) rfl rfl (Nat.le_of_ble_eq_true rfl) dX12_keyAt_20 (T_J0_charAt_5068e F (hp_k h 2) (l2 + l3) h) (fun v4 h5 => ?_)
  refine g_bipush (v := 32) dX12_keyAt_23 (by decide) ?_
  refine g_icmp_eq (tgt := 69) dX12_keyAt_25 (by decide) (fun c6 => ?_) (fun c6 => ?_)
  · refine G_lv [0, 1, 2, 3] rfl ?_
    exact T_X12_keyAt_69 F hK4 l0 l1 l2 l3 h5
  · refine g_aload_n 0 dX12_keyAt_28 rfl ?_
    refine g_getI fl_RX12_94 rfl dX12_keyAt_29 (fun v16 => ?_)
    refine g_iload_n 3 dX12_keyAt_32 rfl ?_
    refine g_iadd dX12_keyAt_33 ?_
    refine g_aload_n 0 dX12_keyAt_34 rfl ?_
    refine g_getI fl_RX12_97 rfl dX12_keyAt_35 (fun v17 => ?_)
    refine g_icmp_ge (tgt := 69) dX12_keyAt_38 (by decide) (fun c18 => ?_) (fun c18 => ?_)
    · refine G_lv [0, 1, 2, 3] rfl ?_
      exact T_X12_keyAt_69 F hK4 l0 l1 l2 l3 h5
    · refine g_aload_n 0 dX12_keyAt_41 rfl ?_
      refine g_getR fl_RX12_21 rfl dX12_keyAt_42 (fun v19 => ?_)
      refine g_aload_n 0 dX12_keyAt_45 rfl ?_
      refine g_getI fl_RX12_94 rfl dX12_keyAt_46 (fun v20 => ?_)
      refine g_iload_n 3 dX12_keyAt_49 rfl ?_
      refine g_iadd dX12_keyAt_50 ?_
      refine g_iald dX12_keyAt_51 (fun v21 => ?_)
      refine g_ldcS 2 (by decide) rfl dX12_keyAt_52 ?_
      refine g_iload_n 2 dX12_keyAt_54 rfl ?_
      refine g_iload_n 3 dX12_keyAt_55 rfl ?_
      refine g_iadd dX12_keyAt_56 ?_
      refine g_callVSi (J := I_J0_charAt_5068e) (As := [.int (l2 + l3)]) (rest := [.int v21]) mjv_J0_charAt_5068e ml_RX12_90 rfl (by decide) rfl rfl (Nat.le_of_ble_eq_true rfl) dX12_keyAt_57 (T_J0_charAt_5068e F (hp_k h5 2) (l2 + l3) h5) (fun v22 h23 => ?_)
      refine g_icmp_ne (tgt := 69) dX12_keyAt_60 (by decide) (fun c24 => ?_) (fun c24 => ?_)
      · refine g_iinc (v' := l3 + 1) (lv' := [(3, .int (l3 + 1)), (0, .ref l0), (1, .int l1), (2, .int l2)]) 3 dX12_keyAt_63 rfl rfl (by decide) rfl ?_
        refine g_goto (tgt := 15) dX12_keyAt_66 (by decide) ?_
        refine G_lv [1, 2, 3, 0] rfl ?_
        exact hK15 l0 l1 l2 (l3 + 1) h23
      · refine G_lv [0, 1, 2, 3] rfl ?_
        exact T_X12_keyAt_69 F hK4 l0 l1 l2 l3 h23
set_option maxRecDepth 100000 in
noncomputable def f_X12_keyAt_15 (F : Nat) (K4 : Nat → Int32 → Int32 → Hp → Option (Int32 × Hp)) : Nat → Nat → Int32 → Int32 → Int32 → Hp → Option (Int32 × Hp)
  | 0, _, _, _, _, _ => none
  | n + 1, l0, l1, l2, l3, h => f_X12_keyAt_15_b F K4 (f_X12_keyAt_15 F K4 n) l0 l1 l2 l3 h
set_option maxRecDepth 100000 in
set_option maxHeartbeats 4000000 in
theorem T_X12_keyAt_15 (F : Nat) {K4 : Nat → Int32 → Int32 → Hp → Option (Int32 × Hp)} (hK4 : ∀ (l0 : Nat) (l1 : Int32) (l2 : Int32) (h : Hp), G rvI I_X12_keyAt 5 4 [(0, .ref l0), (1, .int l1), (2, .int l2)] [] h (K4 l0 l1 l2 h)) : ∀ (n : Nat) (l0 : Nat) (l1 : Int32) (l2 : Int32) (l3 : Int32) (h : Hp), G rvI I_X12_keyAt 5 15 [(0, .ref l0), (1, .int l1), (2, .int l2), (3, .int l3)] [] h (f_X12_keyAt_15 F K4 n l0 l1 l2 l3 h) := by
  intro n
  induction n with
  | zero => intros; exact G_none
  | succ n ih => intro l0 l1 l2 l3 h; exact T_X12_keyAt_15_b F hK4 ih l0 l1 l2 l3 h
set_option maxRecDepth 100000 in
noncomputable def f_X12_keyAt_4_b (F : Nat) (K4 : Nat → Int32 → Int32 → Hp → Option (Int32 × Hp)) (l0 : Nat) (l1 : Int32) (l2 : Int32) (h : Hp) : Option (Int32 × Hp) :=
  cV 14 h (hp_k h 2) (f_J0_length_8abf5 F (hp_k h 2) h) fun v1 h2 => if v1 ≤ l2 then (some (22, h2)) else (f_X12_keyAt_15 F K4 F l0 l1 l2 0 h2)
set_option maxRecDepth 100000 in
set_option maxHeartbeats 4000000 in
theorem T_X12_keyAt_4_b (F : Nat) {K4 : Nat → Int32 → Int32 → Hp → Option (Int32 × Hp)} (hK4 : ∀ (l0 : Nat) (l1 : Int32) (l2 : Int32) (h : Hp), G rvI I_X12_keyAt 5 4 [(0, .ref l0), (1, .int l1), (2, .int l2)] [] h (K4 l0 l1 l2 h)) (l0 : Nat) (l1 : Int32) (l2 : Int32) (h : Hp) : G rvI I_X12_keyAt 5 4 [(0, .ref l0), (1, .int l1), (2, .int l2)] [] h (f_X12_keyAt_4_b F K4 l0 l1 l2 h) := by
  delta f_X12_keyAt_4_b
  refine g_iload_n 2 dX12_keyAt_4 rfl ?_
  refine g_ldcS 2 (by decide) rfl dX12_keyAt_5 ?_
  refine g_callVSi (J := I_J0_length_8abf5) (As := []) (rest := [.int l2]) mjv_J0_length_8abf5 ml_RX12_84 rfl (by decide) rfl rfl (Nat.le_of_ble_eq_true rfl) dX12_keyAt_7 (T_J0_length_8abf5 F (hp_k h 2) h) (fun v1 h2 => ?_)
  refine g_icmp_ge (tgt := 123) dX12_keyAt_10 (by decide) (fun c3 => ?_) (fun c3 => ?_)
  · refine g_bipush (v := 22) dX12_keyAt_123 (by decide) ?_
    exact g_iret rfl dX12_keyAt_125
  · refine g_iconst (v := 0) dX12_keyAt_13 (by decide) ?_
    refine g_istore_n (lv' := [(3, .int 0), (0, .ref l0), (1, .int l1), (2, .int l2)]) dX12_keyAt_14 (by decide) rfl ?_
    refine G_lv [1, 2, 3, 0] rfl ?_
    exact T_X12_keyAt_15 F hK4 F l0 l1 l2 0 h2
set_option maxRecDepth 100000 in
noncomputable def f_X12_keyAt_4 (F : Nat) : Nat → Nat → Int32 → Int32 → Hp → Option (Int32 × Hp)
  | 0, _, _, _, _ => none
  | n + 1, l0, l1, l2, h => f_X12_keyAt_4_b F (f_X12_keyAt_4 F n) l0 l1 l2 h
set_option maxRecDepth 100000 in
set_option maxHeartbeats 4000000 in
theorem T_X12_keyAt_4 (F : Nat) : ∀ (n : Nat) (l0 : Nat) (l1 : Int32) (l2 : Int32) (h : Hp), G rvI I_X12_keyAt 5 4 [(0, .ref l0), (1, .int l1), (2, .int l2)] [] h (f_X12_keyAt_4 F n l0 l1 l2 h) := by
  intro n
  induction n with
  | zero => intros; exact G_none
  | succ n ih => intro l0 l1 l2 h; exact T_X12_keyAt_4_b F ih l0 l1 l2 h
set_option maxRecDepth 100000 in
noncomputable def f_X12_keyAt (F : Nat) (a0 : Nat) (h : Hp) : Option (Int32 × Hp) :=
  f_X12_keyAt_4 F F a0 0 1 h
set_option maxRecDepth 100000 in
set_option maxHeartbeats 4000000 in
theorem T_X12_keyAt (F : Nat) (a0 : Nat) (h : Hp) : GM rvI I_X12_keyAt 5 [.ref a0] h (f_X12_keyAt F a0 h) := by
  delta f_X12_keyAt
  refine GM_of (lv := [(0, .ref a0)]) (by decide +kernel) (Nat.le_of_ble_eq_true rfl) rfl ?_
  refine g_iconst (v := 0) dX12_keyAt_0 (by decide) ?_
  refine g_istore_n (lv' := [(1, .int 0), (0, .ref a0)]) dX12_keyAt_1 (by decide) rfl ?_
  refine g_iconst (v := 1) dX12_keyAt_2 (by decide) ?_
  refine g_istore_n (lv' := [(2, .int 1), (1, .int 0), (0, .ref a0)]) dX12_keyAt_3 (by decide) rfl ?_
  refine G_lv [2, 1, 0] rfl ?_
  exact T_X12_keyAt_4 F F a0 0 1 h
set_option maxRecDepth 100000 in
noncomputable def f_X12_see (F : Nat) (a0 : Nat) (a1 : Int32) (h : Hp) : Option (Int32 × Hp) :=
  gI 13 h a0 8 fun v1 => if v1 ≤ a1 then (some ((-1), h)) else (gR 13 h a0 3 fun v3 => aI 20 h v3 a1 fun v4 => some (v4, h))
set_option maxRecDepth 100000 in
set_option maxHeartbeats 4000000 in
theorem T_X12_see (F : Nat) (a0 : Nat) (a1 : Int32) (h : Hp) : GM rvI I_X12_see 1 [.ref a0, .int a1] h (f_X12_see F a0 a1 h) := by
  delta f_X12_see
  refine GM_of (lv := [(0, .ref a0), (1, .int a1)]) (by decide +kernel) (Nat.le_of_ble_eq_true rfl) rfl ?_
  refine g_iload_n 1 dX12_see_0 rfl ?_
  refine g_aload_n 0 dX12_see_1 rfl ?_
  refine g_getI fl_RX12_79 rfl dX12_see_2 (fun v1 => ?_)
  refine g_icmp_ge (tgt := 17) dX12_see_5 (by decide) (fun c2 => ?_) (fun c2 => ?_)
  · refine g_iconst (v := (-1)) dX12_see_17 (by decide) ?_
    exact g_iret rfl dX12_see_18
  · refine g_aload_n 0 dX12_see_8 rfl ?_
    refine g_getR fl_RX12_21 rfl dX12_see_9 (fun v3 => ?_)
    refine g_iload_n 1 dX12_see_12 rfl ?_
    refine g_iald dX12_see_13 (fun v4 => ?_)
    refine g_goto (tgt := 18) dX12_see_14 (by decide) ?_
    exact g_iret rfl dX12_see_18
set_option maxRecDepth 100000 in
noncomputable def f_X12_next_34 (F : Nat) (K8 : Nat → Hp → Option (Unit × Hp)) (l0 : Nat) (h : Hp) : Option (Unit × Hp) :=
  gI 13 h l0 6 fun v7 => pI 13 h l0 6 (v7 + 1) fun h8 => K8 l0 h8
set_option maxRecDepth 100000 in
set_option maxHeartbeats 4000000 in
theorem T_X12_next_34 (F : Nat) {K8 : Nat → Hp → Option (Unit × Hp)} (hK8 : ∀ (l0 : Nat) (h : Hp), G rvV I_X12_next 6 8 [(0, .ref l0)] [] h (K8 l0 h)) (l0 : Nat) (h : Hp) : G rvV I_X12_next 6 34 [(0, .ref l0)] [] h (f_X12_next_34 F K8 l0 h) := by
  delta f_X12_next_34
  refine g_aload_n 0 dX12_next_34 rfl ?_
  refine g_dup dX12_next_35 rfl ?_
  refine g_getI fl_RX12_94 rfl dX12_next_36 (fun v7 => ?_)
  refine g_iconst (v := 1) dX12_next_39 (by decide) ?_
  refine g_iadd dX12_next_40 ?_
  refine g_putI fl_RX12_94 (Or.inl rfl) dX12_next_41 (fun h8 => ?_)
  refine g_goto (tgt := 8) dX12_next_44 (by decide) ?_
  refine G_lv [0] rfl ?_
  exact hK8 l0 h8
set_option maxRecDepth 100000 in
noncomputable def f_X12_next_288 (F : Nat) (K254 : Nat → Int32 → Hp → Option (Unit × Hp)) (l0 : Nat) (l1 : Int32) (h : Hp) : Option (Unit × Hp) :=
  K254 l0 (l1 + 1) h
set_option maxRecDepth 100000 in
set_option maxHeartbeats 4000000 in
theorem T_X12_next_288 (F : Nat) {K254 : Nat → Int32 → Hp → Option (Unit × Hp)} (hK254 : ∀ (l0 : Nat) (l1 : Int32) (h : Hp), G rvV I_X12_next 6 254 [(0, .ref l0), (1, .int l1)] [] h (K254 l0 l1 h)) (l0 : Nat) (l1 : Int32) (h : Hp) : G rvV I_X12_next 6 288 [(0, .ref l0), (1, .int l1)] [] h (f_X12_next_288 F K254 l0 l1 h) := by
  delta f_X12_next_288
  refine g_iinc (v' := l1 + 1) (lv' := [(1, .int (l1 + 1)), (0, .ref l0)]) 1 dX12_next_288 rfl rfl (by decide) rfl ?_
  refine g_goto (tgt := 254) dX12_next_291 (by decide) ?_
  refine G_lv [1, 0] rfl ?_
  exact hK254 l0 (l1 + 1) h
set_option maxRecDepth 100000 in
noncomputable def f_X12_next_254_b (F : Nat) (K254 : Nat → Int32 → Hp → Option (Unit × Hp)) (l0 : Nat) (l1 : Int32) (h : Hp) : Option (Unit × Hp) :=
  cV 14 h (hp_k h 1) (f_J0_length_8abf5 F (hp_k h 1) h) fun v33 h34 => if v33 ≤ l1 then (some ((), h34)) else (gI 13 h34 l0 6 fun v36 => cV 13 h34 l0 (f_X12_see F l0 v36 h34) fun v37 h38 => cV 14 h38 (hp_k h38 1) (f_J0_charAt_5068e F (hp_k h38 1) l1 h38) fun v39 h40 => if v37 = v39 then (pI 13 h40 l0 9 (30 + l1) fun h42 => f_X12_next_288 F K254 l0 l1 h42) else (f_X12_next_288 F K254 l0 l1 h40))
set_option maxRecDepth 100000 in
set_option maxHeartbeats 4000000 in
theorem T_X12_next_254_b (F : Nat) {K254 : Nat → Int32 → Hp → Option (Unit × Hp)} (hK254 : ∀ (l0 : Nat) (l1 : Int32) (h : Hp), G rvV I_X12_next 6 254 [(0, .ref l0), (1, .int l1)] [] h (K254 l0 l1 h)) (l0 : Nat) (l1 : Int32) (h : Hp) : G rvV I_X12_next 6 254 [(0, .ref l0), (1, .int l1)] [] h (f_X12_next_254_b F K254 l0 l1 h) := by
  delta f_X12_next_254_b
  refine g_iload_n 1 dX12_next_254 rfl ?_
  refine g_ldcS 3 (by decide) rfl dX12_next_255 ?_
  refine g_callVSi (J := I_J0_length_8abf5) (As := []) (rest := [.int l1]) mjv_J0_length_8abf5 ml_RX12_84 rfl (by decide) rfl rfl (Nat.le_of_ble_eq_true rfl) dX12_next_257 (T_J0_length_8abf5 F (hp_k h 1) h) (fun v33 h34 => ?_)
  refine g_icmp_ge (tgt := 294) dX12_next_260 (by decide) (fun c35 => ?_) (fun c35 => ?_)
  · exact g_vret rfl dX12_next_294
  · refine g_aload_n 0 dX12_next_263 rfl ?_
    refine g_aload_n 0 dX12_next_264 rfl ?_
    refine g_getI fl_RX12_94 rfl dX12_next_265 (fun v36 => ?_)
    refine g_callVi (J := I_X12_see) (t := 13) (As := [.int v36]) (rest := []) mjv_X12_see ml_RX12_100 ⟨rfl, by decide, by decide⟩ (by decide) rfl rfl (Nat.le_of_ble_eq_true rfl) dX12_next_268 (T_X12_see F l0 v36 h34) (fun v37 h38 => ?_)
    refine g_ldcS 3 (by decide) rfl dX12_next_271 ?_
    refine g_iload_n 1 dX12_next_273 rfl ?_
    refine g_callVSi (J := I_J0_charAt_5068e) (As := [.int l1]) (rest := [.int v37]) mjv_J0_charAt_5068e ml_RX12_90 rfl (by decide) rfl rfl (Nat.le_of_ble_eq_true rfl) dX12_next_274 (T_J0_charAt_5068e F (hp_k h38 1) l1 h38) (fun v39 h40 => ?_)
    refine g_icmp_ne (tgt := 288) dX12_next_277 (by decide) (fun c41 => ?_) (fun c41 => ?_)
    · refine g_aload_n 0 dX12_next_280 rfl ?_
      refine g_bipush (v := 30) dX12_next_281 (by decide) ?_
      refine g_iload_n 1 dX12_next_283 rfl ?_
      refine g_iadd dX12_next_284 ?_
      refine g_putI fl_RX12_104 (Or.inl rfl) dX12_next_285 (fun h42 => ?_)
      refine G_lv [0, 1] rfl ?_
      exact T_X12_next_288 F hK254 l0 l1 h42
    · refine G_lv [0, 1] rfl ?_
      exact T_X12_next_288 F hK254 l0 l1 h40
set_option maxRecDepth 100000 in
noncomputable def f_X12_next_254 (F : Nat) : Nat → Nat → Int32 → Hp → Option (Unit × Hp)
  | 0, _, _, _ => none
  | n + 1, l0, l1, h => f_X12_next_254_b F (f_X12_next_254 F n) l0 l1 h
set_option maxRecDepth 100000 in
set_option maxHeartbeats 4000000 in
theorem T_X12_next_254 (F : Nat) : ∀ (n : Nat) (l0 : Nat) (l1 : Int32) (h : Hp), G rvV I_X12_next 6 254 [(0, .ref l0), (1, .int l1)] [] h (f_X12_next_254 F n l0 l1 h) := by
  intro n
  induction n with
  | zero => intros; exact G_none
  | succ n ih => intro l0 l1 h; exact T_X12_next_254_b F ih l0 l1 h
set_option maxRecDepth 100000 in
noncomputable def f_X12_next_230 (F : Nat) (s0 : Int32) (s1 : Nat) (h : Hp) : Option (Unit × Hp) :=
  pI 13 h s1 9 s0 fun h53 => some ((), h53)
set_option maxRecDepth 100000 in
set_option maxHeartbeats 4000000 in
theorem T_X12_next_230 (F : Nat) (s0 : Int32) (s1 : Nat) (h : Hp) : G rvV I_X12_next 6 230 [] [.int s0, .ref s1] h (f_X12_next_230 F s0 s1 h) := by
  delta f_X12_next_230
  refine g_putI fl_RX12_104 (Or.inl rfl) dX12_next_230 (fun h53 => ?_)
  refine g_goto (tgt := 294) dX12_next_233 (by decide) ?_
  exact g_vret rfl dX12_next_294
set_option maxRecDepth 100000 in
noncomputable def f_X12_next_196 (F : Nat) (K146 : Nat → Hp → Option (Unit × Hp)) (l0 : Nat) (h : Hp) : Option (Unit × Hp) :=
  gI 13 h l0 7 fun v57 => pI 13 h l0 7 (v57 + 1) fun h58 => K146 l0 h58
set_option maxRecDepth 100000 in
set_option maxHeartbeats 4000000 in
theorem T_X12_next_196 (F : Nat) {K146 : Nat → Hp → Option (Unit × Hp)} (hK146 : ∀ (l0 : Nat) (h : Hp), G rvV I_X12_next 6 146 [(0, .ref l0)] [] h (K146 l0 h)) (l0 : Nat) (h : Hp) : G rvV I_X12_next 6 196 [(0, .ref l0)] [] h (f_X12_next_196 F K146 l0 h) := by
  delta f_X12_next_196
  refine g_aload_n 0 dX12_next_196 rfl ?_
  refine g_dup dX12_next_197 rfl ?_
  refine g_getI fl_RX12_97 rfl dX12_next_198 (fun v57 => ?_)
  refine g_iconst (v := 1) dX12_next_201 (by decide) ?_
  refine g_iadd dX12_next_202 ?_
  refine g_putI fl_RX12_97 (Or.inl rfl) dX12_next_203 (fun h58 => ?_)
  refine g_goto (tgt := 146) dX12_next_206 (by decide) ?_
  refine G_lv [0] rfl ?_
  exact hK146 l0 h58
set_option maxRecDepth 100000 in
noncomputable def f_X12_next_146_b (F : Nat) (K146 : Nat → Hp → Option (Unit × Hp)) (l0 : Nat) (h : Hp) : Option (Unit × Hp) :=
  gI 13 h l0 7 fun v44 => cV 13 h l0 (f_X12_see F l0 v44 h) fun v45 h46 => bd (f_X12_isDigit F v45 h46) fun v47 h48 => if v47 = 0 then (gI 13 h48 l0 7 fun v50 => gI 13 h48 l0 6 fun v51 => if (v50 - v51) ≤ 3 then (f_X12_next_230 F 23 l0 h48) else (f_X12_next_230 F 25 l0 h48)) else (gI 13 h48 l0 7 fun v54 => gI 13 h48 l0 6 fun v55 => if 3 ≤ (v54 - v55) then (f_X12_next_196 F K146 l0 h48) else (gI 13 h48 l0 10 fun v59 => gI 13 h48 l0 7 fun v60 => cV 13 h48 l0 (f_X12_see F l0 v60 h48) fun v61 h62 => pI 13 h62 l0 10 (((10 * v59) + v61) - 48) fun h63 => f_X12_next_196 F K146 l0 h63))
set_option maxRecDepth 100000 in
set_option maxHeartbeats 4000000 in
theorem T_X12_next_146_b (F : Nat) {K146 : Nat → Hp → Option (Unit × Hp)} (hK146 : ∀ (l0 : Nat) (h : Hp), G rvV I_X12_next 6 146 [(0, .ref l0)] [] h (K146 l0 h)) (l0 : Nat) (h : Hp) : G rvV I_X12_next 6 146 [(0, .ref l0)] [] h (f_X12_next_146_b F K146 l0 h) := by
  delta f_X12_next_146_b
  refine g_aload_n 0 dX12_next_146 rfl ?_
  refine g_aload_n 0 dX12_next_147 rfl ?_
  refine g_getI fl_RX12_97 rfl dX12_next_148 (fun v44 => ?_)
  refine g_callVi (J := I_X12_see) (t := 13) (As := [.int v44]) (rest := []) mjv_X12_see ml_RX12_100 ⟨rfl, by decide, by decide⟩ (by decide) rfl rfl (Nat.le_of_ble_eq_true rfl) dX12_next_151 (T_X12_see F l0 v44 h) (fun v45 h46 => ?_)
  refine g_callSi (J := I_X12_isDigit) (As := [.int v45]) (rest := []) mjs_X12_isDigit ml_RX12_114 (by decide) rfl rfl (Nat.le_of_ble_eq_true rfl) dX12_next_154 (T_X12_isDigit F v45 h46) (fun v47 h48 => ?_)
  refine g_if_eq (tgt := 209) dX12_next_157 (by decide) (fun c49 => ?_) (fun c49 => ?_)
  · refine g_aload_n 0 dX12_next_209 rfl ?_
    refine g_aload_n 0 dX12_next_210 rfl ?_
    refine g_getI fl_RX12_97 rfl dX12_next_211 (fun v50 => ?_)
    refine g_aload_n 0 dX12_next_214 rfl ?_
    refine g_getI fl_RX12_94 rfl dX12_next_215 (fun v51 => ?_)
    refine g_isub dX12_next_218 ?_
    refine g_iconst (v := 3) dX12_next_219 (by decide) ?_
    refine g_icmp_le (tgt := 228) dX12_next_220 (by decide) (fun c52 => ?_) (fun c52 => ?_)
    · refine g_bipush (v := 23) dX12_next_228 (by decide) ?_
      refine G_lv [] rfl ?_
      exact T_X12_next_230 F 23 l0 h48
    · refine g_bipush (v := 25) dX12_next_223 (by decide) ?_
      refine g_goto (tgt := 230) dX12_next_225 (by decide) ?_
      refine G_lv [] rfl ?_
      exact T_X12_next_230 F 25 l0 h48
  · refine g_aload_n 0 dX12_next_160 rfl ?_
    refine g_getI fl_RX12_97 rfl dX12_next_161 (fun v54 => ?_)
    refine g_aload_n 0 dX12_next_164 rfl ?_
    refine g_getI fl_RX12_94 rfl dX12_next_165 (fun v55 => ?_)
    refine g_isub dX12_next_168 ?_
    refine g_iconst (v := 3) dX12_next_169 (by decide) ?_
    refine g_icmp_ge (tgt := 196) dX12_next_170 (by decide) (fun c56 => ?_) (fun c56 => ?_)
    · refine G_lv [0] rfl ?_
      exact T_X12_next_196 F hK146 l0 h48
    · refine g_aload_n 0 dX12_next_173 rfl ?_
      refine g_bipush (v := 10) dX12_next_174 (by decide) ?_
      refine g_aload_n 0 dX12_next_176 rfl ?_
      refine g_getI fl_RX12_117 rfl dX12_next_177 (fun v59 => ?_)
      refine g_imul dX12_next_180 ?_
      refine g_aload_n 0 dX12_next_181 rfl ?_
      refine g_aload_n 0 dX12_next_182 rfl ?_
      refine g_getI fl_RX12_97 rfl dX12_next_183 (fun v60 => ?_)
      refine g_callVi (J := I_X12_see) (t := 13) (As := [.int v60]) (rest := [.int (10 * v59), .ref l0]) mjv_X12_see ml_RX12_100 ⟨rfl, by decide, by decide⟩ (by decide) rfl rfl (Nat.le_of_ble_eq_true rfl) dX12_next_186 (T_X12_see F l0 v60 h48) (fun v61 h62 => ?_)
      refine g_iadd dX12_next_189 ?_
      refine g_bipush (v := 48) dX12_next_190 (by decide) ?_
      refine g_isub dX12_next_192 ?_
      refine g_putI fl_RX12_117 (Or.inl rfl) dX12_next_193 (fun h63 => ?_)
      refine G_lv [0] rfl ?_
      exact T_X12_next_196 F hK146 l0 h63
set_option maxRecDepth 100000 in
noncomputable def f_X12_next_146 (F : Nat) : Nat → Nat → Hp → Option (Unit × Hp)
  | 0, _, _ => none
  | n + 1, l0, h => f_X12_next_146_b F (f_X12_next_146 F n) l0 h
set_option maxRecDepth 100000 in
set_option maxHeartbeats 4000000 in
theorem T_X12_next_146 (F : Nat) : ∀ (n : Nat) (l0 : Nat) (h : Hp), G rvV I_X12_next 6 146 [(0, .ref l0)] [] h (f_X12_next_146 F n l0 h) := by
  intro n
  induction n with
  | zero => intros; exact G_none
  | succ n ih => intro l0 h; exact T_X12_next_146_b F ih l0 h
set_option maxRecDepth 100000 in
noncomputable def f_X12_next_89_b (F : Nat) (K89 : Nat → Hp → Option (Unit × Hp)) (l0 : Nat) (h : Hp) : Option (Unit × Hp) :=
  gI 13 h l0 7 fun v64 => cV 13 h l0 (f_X12_see F l0 v64 h) fun v65 h66 => bd (f_X12_isSmall F v65 h66) fun v67 h68 => if v67 = 0 then (cV 13 h68 l0 (f_X12_keyAt F l0 h68) fun v70 h71 => pI 13 h71 l0 9 v70 fun h72 => some ((), h72)) else (gI 13 h68 l0 7 fun v73 => pI 13 h68 l0 7 (v73 + 1) fun h74 => K89 l0 h74)
set_option maxRecDepth 100000 in
set_option maxHeartbeats 4000000 in
theorem T_X12_next_89_b (F : Nat) {K89 : Nat → Hp → Option (Unit × Hp)} (hK89 : ∀ (l0 : Nat) (h : Hp), G rvV I_X12_next 6 89 [(0, .ref l0)] [] h (K89 l0 h)) (l0 : Nat) (h : Hp) : G rvV I_X12_next 6 89 [(0, .ref l0)] [] h (f_X12_next_89_b F K89 l0 h) := by
  delta f_X12_next_89_b
  refine g_aload_n 0 dX12_next_89 rfl ?_
  refine g_aload_n 0 dX12_next_90 rfl ?_
  refine g_getI fl_RX12_97 rfl dX12_next_91 (fun v64 => ?_)
  refine g_callVi (J := I_X12_see) (t := 13) (As := [.int v64]) (rest := []) mjv_X12_see ml_RX12_100 ⟨rfl, by decide, by decide⟩ (by decide) rfl rfl (Nat.le_of_ble_eq_true rfl) dX12_next_94 (T_X12_see F l0 v64 h) (fun v65 h66 => ?_)
  refine g_callSi (J := I_X12_isSmall) (As := [.int v65]) (rest := []) mjs_X12_isSmall ml_RX12_107 (by decide) rfl rfl (Nat.le_of_ble_eq_true rfl) dX12_next_97 (T_X12_isSmall F v65 h66) (fun v67 h68 => ?_)
  refine g_if_eq (tgt := 116) dX12_next_100 (by decide) (fun c69 => ?_) (fun c69 => ?_)
  · refine g_aload_n 0 dX12_next_116 rfl ?_
    refine g_aload_n 0 dX12_next_117 rfl ?_
    refine g_callVi (J := I_X12_keyAt) (t := 13) (As := []) (rest := [.ref l0]) mjv_X12_keyAt ml_RX12_111 ⟨rfl, by decide, by decide⟩ (by decide) rfl rfl (Nat.le_of_ble_eq_true rfl) dX12_next_118 (T_X12_keyAt F l0 h68) (fun v70 h71 => ?_)
    refine g_putI fl_RX12_104 (Or.inl rfl) dX12_next_121 (fun h72 => ?_)
    refine g_goto (tgt := 294) dX12_next_124 (by decide) ?_
    exact g_vret rfl dX12_next_294
  · refine g_aload_n 0 dX12_next_103 rfl ?_
    refine g_dup dX12_next_104 rfl ?_
    refine g_getI fl_RX12_97 rfl dX12_next_105 (fun v73 => ?_)
    refine g_iconst (v := 1) dX12_next_108 (by decide) ?_
    refine g_iadd dX12_next_109 ?_
    refine g_putI fl_RX12_97 (Or.inl rfl) dX12_next_110 (fun h74 => ?_)
    refine g_goto (tgt := 89) dX12_next_113 (by decide) ?_
    refine G_lv [0] rfl ?_
    exact hK89 l0 h74
set_option maxRecDepth 100000 in
noncomputable def f_X12_next_89 (F : Nat) : Nat → Nat → Hp → Option (Unit × Hp)
  | 0, _, _ => none
  | n + 1, l0, h => f_X12_next_89_b F (f_X12_next_89 F n) l0 h
set_option maxRecDepth 100000 in
set_option maxHeartbeats 4000000 in
theorem T_X12_next_89 (F : Nat) : ∀ (n : Nat) (l0 : Nat) (h : Hp), G rvV I_X12_next 6 89 [(0, .ref l0)] [] h (f_X12_next_89 F n l0 h) := by
  intro n
  induction n with
  | zero => intros; exact G_none
  | succ n ih => intro l0 h; exact T_X12_next_89_b F ih l0 h
set_option maxRecDepth 100000 in
noncomputable def f_X12_next_8_b (F : Nat) (K8 : Nat → Hp → Option (Unit × Hp)) (l0 : Nat) (h : Hp) : Option (Unit × Hp) :=
  gI 13 h l0 6 fun v3 => cV 13 h l0 (f_X12_see F l0 v3 h) fun v4 h5 => if v4 = 10 then (f_X12_next_34 F K8 l0 h5) else (gI 13 h5 l0 6 fun v9 => cV 13 h5 l0 (f_X12_see F l0 v9 h5) fun v10 h11 => if v10 = 32 then (f_X12_next_34 F K8 l0 h11) else (gI 13 h11 l0 6 fun v13 => pI 13 h11 l0 7 v13 fun h14 => gI 13 h14 l0 6 fun v15 => gI 13 h14 l0 8 fun v16 => if v15 < v16 then (gI 13 h14 l0 6 fun v18 => cV 13 h14 l0 (f_X12_see F l0 v18 h14) fun v19 h20 => bd (f_X12_isSmall F v19 h20) fun v21 h22 => if v21 = 0 then (gI 13 h22 l0 6 fun v24 => cV 13 h22 l0 (f_X12_see F l0 v24 h22) fun v25 h26 => bd (f_X12_isDigit F v25 h26) fun v27 h28 => if v27 = 0 then (gI 13 h28 l0 7 fun v30 => pI 13 h28 l0 7 (v30 + 1) fun h31 => pI 13 h31 l0 9 25 fun h32 => f_X12_next_254 F F l0 0 h32) else (pI 13 h28 l0 10 0 fun h43 => f_X12_next_146 F F l0 h43)) else (f_X12_next_89 F F l0 h22)) else (pI 13 h14 l0 9 24 fun h75 => some ((), h75))))
set_option maxRecDepth 100000 in
set_option maxHeartbeats 4000000 in
theorem T_X12_next_8_b (F : Nat) {K8 : Nat → Hp → Option (Unit × Hp)} (hK8 : ∀ (l0 : Nat) (h : Hp), G rvV I_X12_next 6 8 [(0, .ref l0)] [] h (K8 l0 h)) (l0 : Nat) (h : Hp) : G rvV I_X12_next 6 8 [(0, .ref l0)] [] h (f_X12_next_8_b F K8 l0 h) := by
  delta f_X12_next_8_b
  refine g_aload_n 0 dX12_next_8 rfl ?_
  refine g_aload_n 0 dX12_next_9 rfl ?_
  refine g_getI fl_RX12_94 rfl dX12_next_10 (fun v3 => ?_)
  refine g_callVi (J := I_X12_see) (t := 13) (As := [.int v3]) (rest := []) mjv_X12_see ml_RX12_100 ⟨rfl, by decide, by decide⟩ (by decide) rfl rfl (Nat.le_of_ble_eq_true rfl) dX12_next_13 (T_X12_see F l0 v3 h) (fun v4 h5 => ?_)
  refine g_bipush (v := 10) dX12_next_16 (by decide) ?_
  refine g_icmp_eq (tgt := 34) dX12_next_18 (by decide) (fun c6 => ?_) (fun c6 => ?_)
  · refine G_lv [0] rfl ?_
    exact T_X12_next_34 F hK8 l0 h5
  · refine g_aload_n 0 dX12_next_21 rfl ?_
    refine g_aload_n 0 dX12_next_22 rfl ?_
    refine g_getI fl_RX12_94 rfl dX12_next_23 (fun v9 => ?_)
    refine g_callVi (J := I_X12_see) (t := 13) (As := [.int v9]) (rest := []) mjv_X12_see ml_RX12_100 ⟨rfl, by decide, by decide⟩ (by decide) rfl rfl (Nat.le_of_ble_eq_true rfl) dX12_next_26 (T_X12_see F l0 v9 h5) (fun v10 h11 => ?_)
    refine g_bipush (v := 32) dX12_next_29 (by decide) ?_
    refine g_icmp_ne (tgt := 47) dX12_next_31 (by decide) (fun c12 => ?_) (fun c12 => ?_)
    · refine G_lv [0] rfl ?_
      exact T_X12_next_34 F hK8 l0 h11
    · refine g_aload_n 0 dX12_next_47 rfl ?_
      refine g_aload_n 0 dX12_next_48 rfl ?_
      refine g_getI fl_RX12_94 rfl dX12_next_49 (fun v13 => ?_)
      refine g_putI fl_RX12_97 (Or.inl rfl) dX12_next_52 (fun h14 => ?_)
      refine g_aload_n 0 dX12_next_55 rfl ?_
      refine g_getI fl_RX12_94 rfl dX12_next_56 (fun v15 => ?_)
      refine g_aload_n 0 dX12_next_59 rfl ?_
      refine g_getI fl_RX12_79 rfl dX12_next_60 (fun v16 => ?_)
      refine g_icmp_lt (tgt := 75) dX12_next_63 (by decide) (fun c17 => ?_) (fun c17 => ?_)
      · refine g_aload_n 0 dX12_next_75 rfl ?_
        refine g_aload_n 0 dX12_next_76 rfl ?_
        refine g_getI fl_RX12_94 rfl dX12_next_77 (fun v18 => ?_)
        refine g_callVi (J := I_X12_see) (t := 13) (As := [.int v18]) (rest := []) mjv_X12_see ml_RX12_100 ⟨rfl, by decide, by decide⟩ (by decide) rfl rfl (Nat.le_of_ble_eq_true rfl) dX12_next_80 (T_X12_see F l0 v18 h14) (fun v19 h20 => ?_)
        refine g_callSi (J := I_X12_isSmall) (As := [.int v19]) (rest := []) mjs_X12_isSmall ml_RX12_107 (by decide) rfl rfl (Nat.le_of_ble_eq_true rfl) dX12_next_83 (T_X12_isSmall F v19 h20) (fun v21 h22 => ?_)
        refine g_if_eq (tgt := 127) dX12_next_86 (by decide) (fun c23 => ?_) (fun c23 => ?_)
        · refine g_aload_n 0 dX12_next_127 rfl ?_
          refine g_aload_n 0 dX12_next_128 rfl ?_
          refine g_getI fl_RX12_94 rfl dX12_next_129 (fun v24 => ?_)
          refine g_callVi (J := I_X12_see) (t := 13) (As := [.int v24]) (rest := []) mjv_X12_see ml_RX12_100 ⟨rfl, by decide, by decide⟩ (by decide) rfl rfl (Nat.le_of_ble_eq_true rfl) dX12_next_132 (T_X12_see F l0 v24 h22) (fun v25 h26 => ?_)
          refine g_callSi (J := I_X12_isDigit) (As := [.int v25]) (rest := []) mjs_X12_isDigit ml_RX12_114 (by decide) rfl rfl (Nat.le_of_ble_eq_true rfl) dX12_next_135 (T_X12_isDigit F v25 h26) (fun v27 h28 => ?_)
          refine g_if_eq (tgt := 236) dX12_next_138 (by decide) (fun c29 => ?_) (fun c29 => ?_)
          · refine g_aload_n 0 dX12_next_236 rfl ?_
            refine g_dup dX12_next_237 rfl ?_
            refine g_getI fl_RX12_97 rfl dX12_next_238 (fun v30 => ?_)
            refine g_iconst (v := 1) dX12_next_241 (by decide) ?_
            refine g_iadd dX12_next_242 ?_
            refine g_putI fl_RX12_97 (Or.inl rfl) dX12_next_243 (fun h31 => ?_)
            refine g_aload_n 0 dX12_next_246 rfl ?_
            refine g_bipush (v := 25) dX12_next_247 (by decide) ?_
            refine g_putI fl_RX12_104 (Or.inl rfl) dX12_next_249 (fun h32 => ?_)
            refine g_iconst (v := 0) dX12_next_252 (by decide) ?_
            refine g_istore_n (lv' := [(1, .int 0), (0, .ref l0)]) dX12_next_253 (by decide) rfl ?_
            refine G_lv [1, 0] rfl ?_
            exact T_X12_next_254 F F l0 0 h32
          · refine g_aload_n 0 dX12_next_141 rfl ?_
            refine g_iconst (v := 0) dX12_next_142 (by decide) ?_
            refine g_putI fl_RX12_117 (Or.inl rfl) dX12_next_143 (fun h43 => ?_)
            refine G_lv [0] rfl ?_
            exact T_X12_next_146 F F l0 h43
        · refine G_lv [0] rfl ?_
          exact T_X12_next_89 F F l0 h22
      · refine g_aload_n 0 dX12_next_66 rfl ?_
        refine g_bipush (v := 24) dX12_next_67 (by decide) ?_
        refine g_putI fl_RX12_104 (Or.inl rfl) dX12_next_69 (fun h75 => ?_)
        refine g_goto (tgt := 294) dX12_next_72 (by decide) ?_
        exact g_vret rfl dX12_next_294
set_option maxRecDepth 100000 in
noncomputable def f_X12_next_8 (F : Nat) : Nat → Nat → Hp → Option (Unit × Hp)
  | 0, _, _ => none
  | n + 1, l0, h => f_X12_next_8_b F (f_X12_next_8 F n) l0 h
set_option maxRecDepth 100000 in
set_option maxHeartbeats 4000000 in
theorem T_X12_next_8 (F : Nat) : ∀ (n : Nat) (l0 : Nat) (h : Hp), G rvV I_X12_next 6 8 [(0, .ref l0)] [] h (f_X12_next_8 F n l0 h) := by
  intro n
  induction n with
  | zero => intros; exact G_none
  | succ n ih => intro l0 h; exact T_X12_next_8_b F ih l0 h
set_option maxRecDepth 100000 in
noncomputable def f_X12_next (F : Nat) (a0 : Nat) (h : Hp) : Option (Unit × Hp) :=
  gI 13 h a0 7 fun v1 => pI 13 h a0 6 v1 fun h2 => f_X12_next_8 F F a0 h2
set_option maxRecDepth 100000 in
set_option maxHeartbeats 4000000 in
theorem T_X12_next (F : Nat) (a0 : Nat) (h : Hp) : GM rvV I_X12_next 6 [.ref a0] h (f_X12_next F a0 h) := by
  delta f_X12_next
  refine GM_of (lv := [(0, .ref a0)]) (by decide +kernel) (Nat.le_of_ble_eq_true rfl) rfl ?_
  refine g_aload_n 0 dX12_next_0 rfl ?_
  refine g_aload_n 0 dX12_next_1 rfl ?_
  refine g_getI fl_RX12_97 rfl dX12_next_2 (fun v1 => ?_)
  refine g_putI fl_RX12_94 (Or.inl rfl) dX12_next_5 (fun h2 => ?_)
  refine G_lv [0] rfl ?_
  exact T_X12_next_8 F F a0 h2
set_option maxRecDepth 100000 in
noncomputable def f_X12_eats (F : Nat) (a0 : Nat) (a1 : Int32) (h : Hp) : Option (Int32 × Hp) :=
  cV 13 h a0 (f_X12_is F a0 a1 h) fun v1 h2 => if v1 = 0 then (some (0, h2)) else (cV 13 h2 a0 (f_X12_next F a0 h2) fun v4 h5 => some (1, h5))
set_option maxRecDepth 100000 in
set_option maxHeartbeats 4000000 in
theorem T_X12_eats (F : Nat) (a0 : Nat) (a1 : Int32) (h : Hp) : GM rvI I_X12_eats 7 [.ref a0, .int a1] h (f_X12_eats F a0 a1 h) := by
  delta f_X12_eats
  refine GM_of (lv := [(0, .ref a0), (1, .int a1)]) (by decide +kernel) (Nat.le_of_ble_eq_true rfl) rfl ?_
  refine g_aload_n 0 dX12_eats_0 rfl ?_
  refine g_iload_n 1 dX12_eats_1 rfl ?_
  refine g_callVi (J := I_X12_is) (t := 13) (As := [.int a1]) (rest := []) mjv_X12_is ml_RX12_128 ⟨rfl, by decide, by decide⟩ (by decide) rfl rfl (Nat.le_of_ble_eq_true rfl) dX12_eats_2 (T_X12_is F a0 a1 h) (fun v1 h2 => ?_)
  refine g_if_ne (tgt := 10) dX12_eats_5 (by decide) (fun c3 => ?_) (fun c3 => ?_)
  · refine g_iconst (v := 0) dX12_eats_8 (by decide) ?_
    exact g_zret (ty := .boolean) rfl rfl dX12_eats_9
  · refine g_aload_n 0 dX12_eats_10 rfl ?_
    refine g_callVv (J := I_X12_next) (t := 13) (As := []) (rest := []) mjv_X12_next ml_RX12_131 ⟨rfl, by decide, by decide⟩ (by decide) rfl rfl (Nat.le_of_ble_eq_true rfl) dX12_eats_11 (T_X12_next F a0 h2) (fun v4 h5 => ?_)
    refine g_iconst (v := 1) dX12_eats_14 (by decide) ?_
    exact g_zret (ty := .boolean) rfl rfl dX12_eats_15
set_option maxRecDepth 100000 in
noncomputable def f_X12_fails_23 (F : Nat) (l0 : Nat) (s0 : Int32) (s1 : Nat) (h : Hp) : Option (Unit × Hp) :=
  pI 13 h s1 11 s0 fun h5 => gI 13 h5 l0 6 fun v6 => pI 13 h5 l0 12 v6 fun h7 => some ((), h7)
set_option maxRecDepth 100000 in
set_option maxHeartbeats 4000000 in
theorem T_X12_fails_23 (F : Nat) (l0 : Nat) (s0 : Int32) (s1 : Nat) (h : Hp) : G rvV I_X12_fails 1 23 [(0, .ref l0)] [.int s0, .ref s1] h (f_X12_fails_23 F l0 s0 s1 h) := by
  delta f_X12_fails_23
  refine g_putI fl_RX12_122 (Or.inl rfl) dX12_fails_23 (fun h5 => ?_)
  refine g_aload_n 0 dX12_fails_26 rfl ?_
  refine g_aload_n 0 dX12_fails_27 rfl ?_
  refine g_getI fl_RX12_94 rfl dX12_fails_28 (fun v6 => ?_)
  refine g_putI fl_RX12_125 (Or.inl rfl) dX12_fails_31 (fun h7 => ?_)
  exact g_vret rfl dX12_fails_34
set_option maxRecDepth 100000 in
noncomputable def f_X12_fails (F : Nat) (a0 : Nat) (a1 : Int32) (h : Hp) : Option (Unit × Hp) :=
  gI 13 h a0 11 fun v1 => if v1 = 0 then (gI 13 h a0 9 fun v3 => if v3 = 25 then (f_X12_fails_23 F a0 1 a0 h) else (f_X12_fails_23 F a0 a1 a0 h)) else (some ((), h))
set_option maxRecDepth 100000 in
set_option maxHeartbeats 4000000 in
theorem T_X12_fails (F : Nat) (a0 : Nat) (a1 : Int32) (h : Hp) : GM rvV I_X12_fails 1 [.ref a0, .int a1] h (f_X12_fails F a0 a1 h) := by
  delta f_X12_fails
  refine GM_of (lv := [(0, .ref a0), (1, .int a1)]) (by decide +kernel) (Nat.le_of_ble_eq_true rfl) rfl ?_
  refine g_aload_n 0 dX12_fails_0 rfl ?_
  refine g_getI fl_RX12_122 rfl dX12_fails_1 (fun v1 => ?_)
  refine g_if_eq (tgt := 8) dX12_fails_4 (by decide) (fun c2 => ?_) (fun c2 => ?_)
  · refine g_aload_n 0 dX12_fails_8 rfl ?_
    refine g_aload_n 0 dX12_fails_9 rfl ?_
    refine g_getI fl_RX12_104 rfl dX12_fails_10 (fun v3 => ?_)
    refine g_bipush (v := 25) dX12_fails_13 (by decide) ?_
    refine g_icmp_ne (tgt := 22) dX12_fails_15 (by decide) (fun c4 => ?_) (fun c4 => ?_)
    · refine g_iconst (v := 1) dX12_fails_18 (by decide) ?_
      refine g_goto (tgt := 23) dX12_fails_19 (by decide) ?_
      refine G_lv [0] rfl ?_
      exact T_X12_fails_23 F a0 1 a0 h
    · refine g_iload_n 1 dX12_fails_22 rfl ?_
      refine G_lv [0] rfl ?_
      exact T_X12_fails_23 F a0 a1 a0 h
  · exact g_vret rfl dX12_fails_7
set_option maxRecDepth 100000 in
noncomputable def f_X12_ends_14 (F : Nat) (l0 : Nat) (h : Hp) : Option (Unit × Hp) :=
  gR 13 h l0 4 fun v6 => aI 20 h v6 0 fun v7 => wI h v6 0 (v7 + 1) fun h8 => some ((), h8)
set_option maxRecDepth 100000 in
set_option maxHeartbeats 4000000 in
theorem T_X12_ends_14 (F : Nat) (l0 : Nat) (h : Hp) : G rvV I_X12_ends 8 14 [(0, .ref l0)] [] h (f_X12_ends_14 F l0 h) := by
  delta f_X12_ends_14
  refine g_aload_n 0 dX12_ends_14 rfl ?_
  refine g_getR fl_RX12_24 rfl dX12_ends_15 (fun v6 => ?_)
  refine g_iconst (v := 0) dX12_ends_18 (by decide) ?_
  refine g_dup2 dX12_ends_19 rfl rfl ?_
  refine g_iald dX12_ends_20 (fun v7 => ?_)
  refine g_iconst (v := 1) dX12_ends_21 (by decide) ?_
  refine g_iadd dX12_ends_22 ?_
  refine g_iast dX12_ends_23 (fun h8 => ?_)
  exact g_vret rfl dX12_ends_24
set_option maxRecDepth 100000 in
noncomputable def f_X12_ends (F : Nat) (a0 : Nat) (h : Hp) : Option (Unit × Hp) :=
  cV 13 h a0 (f_X12_eats F a0 30 h) fun v1 h2 => if v1 = 0 then (cV 13 h2 a0 (f_X12_fails F a0 2 h2) fun v4 h5 => f_X12_ends_14 F a0 h5) else (f_X12_ends_14 F a0 h2)
set_option maxRecDepth 100000 in
set_option maxHeartbeats 4000000 in
theorem T_X12_ends (F : Nat) (a0 : Nat) (h : Hp) : GM rvV I_X12_ends 8 [.ref a0] h (f_X12_ends F a0 h) := by
  delta f_X12_ends
  refine GM_of (lv := [(0, .ref a0)]) (by decide +kernel) (Nat.le_of_ble_eq_true rfl) rfl ?_
  refine g_aload_n 0 dX12_ends_0 rfl ?_
  refine g_bipush (v := 30) dX12_ends_1 (by decide) ?_
  refine g_callVi (J := I_X12_eats) (t := 13) (As := [.int 30]) (rest := []) mjv_X12_eats ml_RX12_157 ⟨rfl, by decide, by decide⟩ (by decide) rfl rfl (Nat.le_of_ble_eq_true rfl) dX12_ends_3 (T_X12_eats F a0 30 h) (fun v1 h2 => ?_)
  refine g_if_ne (tgt := 14) dX12_ends_6 (by decide) (fun c3 => ?_) (fun c3 => ?_)
  · refine g_aload_n 0 dX12_ends_9 rfl ?_
    refine g_iconst (v := 2) dX12_ends_10 (by decide) ?_
    refine g_callVv (J := I_X12_fails) (t := 13) (As := [.int 2]) (rest := []) mjv_X12_fails ml_RX12_134 ⟨rfl, by decide, by decide⟩ (by decide) rfl rfl (Nat.le_of_ble_eq_true rfl) dX12_ends_11 (T_X12_fails F a0 2 h2) (fun v4 h5 => ?_)
    refine G_lv [0] rfl ?_
    exact T_X12_ends_14 F a0 h5
  · refine G_lv [0] rfl ?_
    exact T_X12_ends_14 F a0 h2
set_option maxRecDepth 100000 in
noncomputable def f_X12_plain_2_b (F : Nat) (K2 : Nat → Int32 → Hp → Option (Unit × Hp)) (l0 : Nat) (l1 : Int32) (h : Hp) : Option (Unit × Hp) :=
  if 1044 ≤ l1 then (some ((), h)) else (wI h l0 l1 0 fun h2 => K2 l0 (l1 + 1) h2)
set_option maxRecDepth 100000 in
set_option maxHeartbeats 4000000 in
theorem T_X12_plain_2_b (F : Nat) {K2 : Nat → Int32 → Hp → Option (Unit × Hp)} (hK2 : ∀ (l0 : Nat) (l1 : Int32) (h : Hp), G rvV I_X12_plain 1 2 [(0, .ref l0), (1, .int l1)] [] h (K2 l0 l1 h)) (l0 : Nat) (l1 : Int32) (h : Hp) : G rvV I_X12_plain 1 2 [(0, .ref l0), (1, .int l1)] [] h (f_X12_plain_2_b F K2 l0 l1 h) := by
  delta f_X12_plain_2_b
  refine g_iload_n 1 dX12_plain_2 rfl ?_
  refine g_sipush (v := 1044) dX12_plain_3 (by decide) ?_
  refine g_icmp_ge (tgt := 19) dX12_plain_6 (by decide) (fun c1 => ?_) (fun c1 => ?_)
  · exact g_vret rfl dX12_plain_19
  · refine g_aload_n 0 dX12_plain_9 rfl ?_
    refine g_iload_n 1 dX12_plain_10 rfl ?_
    refine g_iconst (v := 0) dX12_plain_11 (by decide) ?_
    refine g_iast dX12_plain_12 (fun h2 => ?_)
    refine g_iinc (v' := l1 + 1) (lv' := [(1, .int (l1 + 1)), (0, .ref l0)]) 1 dX12_plain_13 rfl rfl (by decide) rfl ?_
    refine g_goto (tgt := 2) dX12_plain_16 (by decide) ?_
    refine G_lv [1, 0] rfl ?_
    exact hK2 l0 (l1 + 1) h2
set_option maxRecDepth 100000 in
noncomputable def f_X12_plain_2 (F : Nat) : Nat → Nat → Int32 → Hp → Option (Unit × Hp)
  | 0, _, _, _ => none
  | n + 1, l0, l1, h => f_X12_plain_2_b F (f_X12_plain_2 F n) l0 l1 h
set_option maxRecDepth 100000 in
set_option maxHeartbeats 4000000 in
theorem T_X12_plain_2 (F : Nat) : ∀ (n : Nat) (l0 : Nat) (l1 : Int32) (h : Hp), G rvV I_X12_plain 1 2 [(0, .ref l0), (1, .int l1)] [] h (f_X12_plain_2 F n l0 l1 h) := by
  intro n
  induction n with
  | zero => intros; exact G_none
  | succ n ih => intro l0 l1 h; exact T_X12_plain_2_b F ih l0 l1 h
set_option maxRecDepth 100000 in
noncomputable def f_X12_plain (F : Nat) (a0 : Nat) (h : Hp) : Option (Unit × Hp) :=
  f_X12_plain_2 F F a0 0 h
set_option maxRecDepth 100000 in
set_option maxHeartbeats 4000000 in
theorem T_X12_plain (F : Nat) (a0 : Nat) (h : Hp) : GM rvV I_X12_plain 1 [.ref a0] h (f_X12_plain F a0 h) := by
  delta f_X12_plain
  refine GM_of (lv := [(0, .ref a0)]) (by decide +kernel) (Nat.le_of_ble_eq_true rfl) rfl ?_
  refine g_iconst (v := 0) dX12_plain_0 (by decide) ?_
  refine g_istore_n (lv' := [(1, .int 0), (0, .ref a0)]) dX12_plain_1 (by decide) rfl ?_
  refine G_lv [1, 0] rfl ?_
  exact T_X12_plain_2 F F a0 0 h
set_option maxRecDepth 100000 in
noncomputable def f_X12_takes_37 (F : Nat) (l0 : Nat) (h : Hp) : Option (Int32 × Hp) :=
  gI 13 h l0 10 fun v6 => gI 13 h l0 11 fun v7 => if v7 = 0 then (cV 13 h l0 (f_X12_next F l0 h) fun v9 h10 => some (v6, h10)) else (some (v6, h))
set_option maxRecDepth 100000 in
set_option maxHeartbeats 4000000 in
theorem T_X12_takes_37 (F : Nat) (l0 : Nat) (h : Hp) : G rvI I_X12_takes 7 37 [(0, .ref l0)] [] h (f_X12_takes_37 F l0 h) := by
  delta f_X12_takes_37
  refine g_aload_n 0 dX12_takes_37 rfl ?_
  refine g_getI fl_RX12_117 rfl dX12_takes_38 (fun v6 => ?_)
  refine g_istore_n (lv' := [(3, .int v6), (0, .ref l0)]) dX12_takes_41 (by decide) rfl ?_
  refine g_aload_n 1 dX12_takes_42 rfl ?_
  refine g_getI fl_RX12_122 rfl dX12_takes_43 (fun v7 => ?_)
  refine g_if_ne (tgt := 53) dX12_takes_46 (by decide) (fun c8 => ?_) (fun c8 => ?_)
  · refine g_aload_n 1 dX12_takes_49 rfl ?_
    refine g_callVv (J := I_X12_next) (t := 13) (As := []) (rest := []) mjv_X12_next ml_RX12_131 ⟨rfl, by decide, by decide⟩ (by decide) rfl rfl (Nat.le_of_ble_eq_true rfl) dX12_takes_50 (T_X12_next F l0 h) (fun v9 h10 => ?_)
    refine g_iload_n 0 dX12_takes_53 rfl ?_
    exact g_iret rfl dX12_takes_54
  · refine g_iload_n 0 dX12_takes_53 rfl ?_
    exact g_iret rfl dX12_takes_54
set_option maxRecDepth 100000 in
noncomputable def f_X12_takes (F : Nat) (a0 : Nat) (a1 : Int32) (a2 : Int32) (h : Hp) : Option (Int32 × Hp) :=
  cV 13 h a0 (f_X12_is F a0 23 h) fun v1 h2 => if v1 = 0 then (cV 13 h2 a0 (f_X12_fails F a0 2 h2) fun v4 h5 => f_X12_takes_37 F a0 h5) else (gI 13 h2 a0 10 fun v11 => bd (f_X12_within F (v11.toInt64) (a1.toInt64) (a2.toInt64) h2) fun v12 h13 => if v12 = 0 then (cV 13 h13 a0 (f_X12_fails F a0 3 h13) fun v15 h16 => f_X12_takes_37 F a0 h16) else (f_X12_takes_37 F a0 h13))
set_option maxRecDepth 100000 in
set_option maxHeartbeats 4000000 in
theorem T_X12_takes (F : Nat) (a0 : Nat) (a1 : Int32) (a2 : Int32) (h : Hp) : GM rvI I_X12_takes 7 [.ref a0, .int a1, .int a2] h (f_X12_takes F a0 a1 a2 h) := by
  delta f_X12_takes
  refine GM_of (lv := [(0, .ref a0), (1, .int a1), (2, .int a2)]) (by decide +kernel) (Nat.le_of_ble_eq_true rfl) rfl ?_
  refine g_aload_n 0 dX12_takes_0 rfl ?_
  refine g_bipush (v := 23) dX12_takes_1 (by decide) ?_
  refine g_callVi (J := I_X12_is) (t := 13) (As := [.int 23]) (rest := []) mjv_X12_is ml_RX12_128 ⟨rfl, by decide, by decide⟩ (by decide) rfl rfl (Nat.le_of_ble_eq_true rfl) dX12_takes_3 (T_X12_is F a0 23 h) (fun v1 h2 => ?_)
  refine g_if_ne (tgt := 17) dX12_takes_6 (by decide) (fun c3 => ?_) (fun c3 => ?_)
  · refine g_aload_n 0 dX12_takes_9 rfl ?_
    refine g_iconst (v := 2) dX12_takes_10 (by decide) ?_
    refine g_callVv (J := I_X12_fails) (t := 13) (As := [.int 2]) (rest := []) mjv_X12_fails ml_RX12_134 ⟨rfl, by decide, by decide⟩ (by decide) rfl rfl (Nat.le_of_ble_eq_true rfl) dX12_takes_11 (T_X12_fails F a0 2 h2) (fun v4 h5 => ?_)
    refine g_goto (tgt := 37) dX12_takes_14 (by decide) ?_
    refine G_lv [0] rfl ?_
    exact T_X12_takes_37 F a0 h5
  · refine g_aload_n 0 dX12_takes_17 rfl ?_
    refine g_getI fl_RX12_117 rfl dX12_takes_18 (fun v11 => ?_)
    refine g_i2l dX12_takes_21 ?_
    refine g_iload_n 1 dX12_takes_22 rfl ?_
    refine g_i2l dX12_takes_23 ?_
    refine g_iload_n 2 dX12_takes_24 rfl ?_
    refine g_i2l dX12_takes_25 ?_
    refine g_callSi (J := I_X12_within) (As := [.long (v11.toInt64), .long (a1.toInt64), .long (a2.toInt64)]) (rest := []) mjs_X12_within ml_RX12_138 (by decide) rfl rfl (Nat.le_of_ble_eq_true rfl) dX12_takes_26 (T_X12_within F (v11.toInt64) (a1.toInt64) (a2.toInt64) h2) (fun v12 h13 => ?_)
    refine g_if_ne (tgt := 37) dX12_takes_29 (by decide) (fun c14 => ?_) (fun c14 => ?_)
    · refine g_aload_n 0 dX12_takes_32 rfl ?_
      refine g_iconst (v := 3) dX12_takes_33 (by decide) ?_
      refine g_callVv (J := I_X12_fails) (t := 13) (As := [.int 3]) (rest := []) mjv_X12_fails ml_RX12_134 ⟨rfl, by decide, by decide⟩ (by decide) rfl rfl (Nat.le_of_ble_eq_true rfl) dX12_takes_34 (T_X12_fails F a0 3 h13) (fun v15 h16 => ?_)
      refine G_lv [0] rfl ?_
      exact T_X12_takes_37 F a0 h16
    · refine G_lv [0] rfl ?_
      exact T_X12_takes_37 F a0 h13
set_option maxRecDepth 100000 in
noncomputable def f_X12_readNeed_134 (F : Nat) (s0 : Int32) (s1 : Int32) (s2 : Nat) (h : Hp) : Option (Int32 × Hp) :=
  wI h s2 s1 s0 fun h29 => some (1, h29)
set_option maxRecDepth 100000 in
set_option maxHeartbeats 4000000 in
theorem T_X12_readNeed_134 (F : Nat) (s0 : Int32) (s1 : Int32) (s2 : Nat) (h : Hp) : G rvI I_X12_readNeed 8 134 [] [.int s0, .int s1, .ref s2] h (f_X12_readNeed_134 F s0 s1 s2 h) := by
  delta f_X12_readNeed_134
  refine g_iast dX12_readNeed_134 (fun h29 => ?_)
  refine g_iconst (v := 1) dX12_readNeed_135 (by decide) ?_
  exact g_zret (ty := .boolean) rfl rfl dX12_readNeed_136
set_option maxRecDepth 100000 in
noncomputable def f_X12_readNeed_67 (F : Nat) (l0 : Nat) (l1 : Int32) (l2 : Int32) (l3 : Int32) (l4 : Int32) (h : Hp) : Option (Int32 × Hp) :=
  gI 13 h l0 11 fun v21 => if v21 = 0 then (gR 13 h l0 4 fun v23 => wI h v23 ((13 + (4 * l1)) + l3) l4 fun h24 => gR 13 h24 l0 4 fun v25 => if l2 = 0 then (gR 13 h24 l0 4 fun v27 => aI 20 h24 v27 (37 + l1) fun v28 => f_X12_readNeed_134 F (v28 &&& (((1 : Int32) <<< (l3 &&& 31)) ^^^ (-1))) (37 + l1) v25 h24) else (gR 13 h24 l0 4 fun v30 => aI 20 h24 v30 (37 + l1) fun v31 => f_X12_readNeed_134 F (v31 ||| ((1 : Int32) <<< (l3 &&& 31))) (37 + l1) v25 h24)) else (some (0, h))
set_option maxRecDepth 100000 in
set_option maxHeartbeats 4000000 in
theorem T_X12_readNeed_67 (F : Nat) (l0 : Nat) (l1 : Int32) (l2 : Int32) (l3 : Int32) (l4 : Int32) (h : Hp) : G rvI I_X12_readNeed 8 67 [(0, .ref l0), (1, .int l1), (2, .int l2), (3, .int l3), (4, .int l4)] [] h (f_X12_readNeed_67 F l0 l1 l2 l3 l4 h) := by
  delta f_X12_readNeed_67
  refine g_aload_n 0 dX12_readNeed_67 rfl ?_
  refine g_getI fl_RX12_122 rfl dX12_readNeed_68 (fun v21 => ?_)
  refine g_if_eq (tgt := 76) dX12_readNeed_71 (by decide) (fun c22 => ?_) (fun c22 => ?_)
  · refine g_aload_n 0 dX12_readNeed_76 rfl ?_
    refine g_getR fl_RX12_24 rfl dX12_readNeed_77 (fun v23 => ?_)
    refine g_bipush (v := 13) dX12_readNeed_80 (by decide) ?_
    refine g_iconst (v := 4) dX12_readNeed_82 (by decide) ?_
    refine g_iload_n 1 dX12_readNeed_83 rfl ?_
    refine g_imul dX12_readNeed_84 ?_
    refine g_iadd dX12_readNeed_85 ?_
    refine g_iload_n 3 dX12_readNeed_86 rfl ?_
    refine g_iadd dX12_readNeed_87 ?_
    refine g_iload 4 dX12_readNeed_88 rfl ?_
    refine g_iast dX12_readNeed_90 (fun h24 => ?_)
    refine g_aload_n 0 dX12_readNeed_91 rfl ?_
    refine g_getR fl_RX12_24 rfl dX12_readNeed_92 (fun v25 => ?_)
    refine g_bipush (v := 37) dX12_readNeed_95 (by decide) ?_
    refine g_iload_n 1 dX12_readNeed_97 rfl ?_
    refine g_iadd dX12_readNeed_98 ?_
    refine g_iload_n 2 dX12_readNeed_99 rfl ?_
    refine g_if_eq (tgt := 119) dX12_readNeed_100 (by decide) (fun c26 => ?_) (fun c26 => ?_)
    · refine g_aload_n 0 dX12_readNeed_119 rfl ?_
      refine g_getR fl_RX12_24 rfl dX12_readNeed_120 (fun v27 => ?_)
      refine g_bipush (v := 37) dX12_readNeed_123 (by decide) ?_
      refine g_iload_n 1 dX12_readNeed_125 rfl ?_
      refine g_iadd dX12_readNeed_126 ?_
      refine g_iald dX12_readNeed_127 (fun v28 => ?_)
      refine g_iconst (v := 1) dX12_readNeed_128 (by decide) ?_
      refine g_iload_n 3 dX12_readNeed_129 rfl ?_
      refine g_ishl dX12_readNeed_130 ?_
      refine g_iconst (v := (-1)) dX12_readNeed_131 (by decide) ?_
      refine g_ixor dX12_readNeed_132 ?_
      refine g_iand dX12_readNeed_133 ?_
      refine G_lv [] rfl ?_
      exact T_X12_readNeed_134 F (v28 &&& (((1 : Int32) <<< (l3 &&& 31)) ^^^ (-1))) (37 + l1) v25 h24
    · refine g_aload_n 0 dX12_readNeed_103 rfl ?_
      refine g_getR fl_RX12_24 rfl dX12_readNeed_104 (fun v30 => ?_)
      refine g_bipush (v := 37) dX12_readNeed_107 (by decide) ?_
      refine g_iload_n 1 dX12_readNeed_109 rfl ?_
      refine g_iadd dX12_readNeed_110 ?_
      refine g_iald dX12_readNeed_111 (fun v31 => ?_)
      refine g_iconst (v := 1) dX12_readNeed_112 (by decide) ?_
      refine g_iload_n 3 dX12_readNeed_113 rfl ?_
      refine g_ishl dX12_readNeed_114 ?_
      refine g_ior dX12_readNeed_115 ?_
      refine g_goto (tgt := 134) dX12_readNeed_116 (by decide) ?_
      refine G_lv [] rfl ?_
      exact T_X12_readNeed_134 F (v31 ||| ((1 : Int32) <<< (l3 &&& 31))) (37 + l1) v25 h24
  · refine g_iconst (v := 0) dX12_readNeed_74 (by decide) ?_
    exact g_zret (ty := .boolean) rfl rfl dX12_readNeed_75
set_option maxRecDepth 100000 in
noncomputable def f_X12_readNeed_59 (F : Nat) (l0 : Nat) (l1 : Int32) (l2 : Int32) (l3 : Int32) (h : Hp) : Option (Int32 × Hp) :=
  cV 13 h l0 (f_X12_takes F l0 1 3 h) fun v19 h20 => f_X12_readNeed_67 F l0 l1 l2 l3 v19 h20
set_option maxRecDepth 100000 in
set_option maxHeartbeats 4000000 in
theorem T_X12_readNeed_59 (F : Nat) (l0 : Nat) (l1 : Int32) (l2 : Int32) (l3 : Int32) (h : Hp) : G rvI I_X12_readNeed 8 59 [(0, .ref l0), (1, .int l1), (2, .int l2), (3, .int l3)] [] h (f_X12_readNeed_59 F l0 l1 l2 l3 h) := by
  delta f_X12_readNeed_59
  refine g_aload_n 0 dX12_readNeed_59 rfl ?_
  refine g_iconst (v := 1) dX12_readNeed_60 (by decide) ?_
  refine g_iconst (v := 3) dX12_readNeed_61 (by decide) ?_
  refine g_callVi (J := I_X12_takes) (t := 13) (As := [.int 1, .int 3]) (rest := []) mjv_X12_takes ml_RX12_178 ⟨rfl, by decide, by decide⟩ (by decide) rfl rfl (Nat.le_of_ble_eq_true rfl) dX12_readNeed_62 (T_X12_takes F l0 1 3 h) (fun v19 h20 => ?_)
  refine g_istore (lv' := [(4, .int v19), (0, .ref l0), (1, .int l1), (2, .int l2), (3, .int l3)]) dX12_readNeed_65 (by decide) rfl ?_
  refine G_lv [1, 2, 3, 4, 0] rfl ?_
  exact T_X12_readNeed_67 F l0 l1 l2 l3 v19 h20
set_option maxRecDepth 100000 in
noncomputable def f_X12_readNeed_21 (F : Nat) (l0 : Nat) (l1 : Int32) (l2 : Int32) (h : Hp) : Option (Int32 × Hp) :=
  cV 13 h l0 (f_X12_next F l0 h) fun v7 h8 => gR 13 h8 l0 4 fun v9 => aI 20 h8 v9 1 fun v10 => cV 13 h8 l0 (f_X12_takes F l0 0 (v10 - 1) h8) fun v11 h12 => if l2 = 0 then (cV 13 h12 l0 (f_X12_eats F l0 5 h12) fun v14 h15 => if v14 = 0 then (cV 13 h15 l0 (f_X12_fails F l0 2 h15) fun v17 h18 => f_X12_readNeed_59 F l0 l1 l2 v11 h18) else (f_X12_readNeed_59 F l0 l1 l2 v11 h15)) else (f_X12_readNeed_67 F l0 l1 l2 v11 0 h12)
set_option maxRecDepth 100000 in
set_option maxHeartbeats 4000000 in
theorem T_X12_readNeed_21 (F : Nat) (l0 : Nat) (l1 : Int32) (l2 : Int32) (h : Hp) : G rvI I_X12_readNeed 8 21 [(0, .ref l0), (1, .int l1), (2, .int l2)] [] h (f_X12_readNeed_21 F l0 l1 l2 h) := by
  delta f_X12_readNeed_21
  refine g_aload_n 0 dX12_readNeed_21 rfl ?_
  refine g_callVv (J := I_X12_next) (t := 13) (As := []) (rest := []) mjv_X12_next ml_RX12_131 ⟨rfl, by decide, by decide⟩ (by decide) rfl rfl (Nat.le_of_ble_eq_true rfl) dX12_readNeed_22 (T_X12_next F l0 h) (fun v7 h8 => ?_)
  refine g_aload_n 0 dX12_readNeed_25 rfl ?_
  refine g_iconst (v := 0) dX12_readNeed_26 (by decide) ?_
  refine g_aload_n 0 dX12_readNeed_27 rfl ?_
  refine g_getR fl_RX12_24 rfl dX12_readNeed_28 (fun v9 => ?_)
  refine g_iconst (v := 1) dX12_readNeed_31 (by decide) ?_
  refine g_iald dX12_readNeed_32 (fun v10 => ?_)
  refine g_iconst (v := 1) dX12_readNeed_33 (by decide) ?_
  refine g_isub dX12_readNeed_34 ?_
  refine g_callVi (J := I_X12_takes) (t := 13) (As := [.int 0, .int (v10 - 1)]) (rest := []) mjv_X12_takes ml_RX12_178 ⟨rfl, by decide, by decide⟩ (by decide) rfl rfl (Nat.le_of_ble_eq_true rfl) dX12_readNeed_35 (T_X12_takes F l0 0 (v10 - 1) h8) (fun v11 h12 => ?_)
  refine g_istore_n (lv' := [(3, .int v11), (0, .ref l0), (1, .int l1), (2, .int l2)]) dX12_readNeed_38 (by decide) rfl ?_
  refine g_iconst (v := 0) dX12_readNeed_39 (by decide) ?_
  refine g_istore (lv' := [(4, .int 0), (3, .int v11), (0, .ref l0), (1, .int l1), (2, .int l2)]) dX12_readNeed_40 (by decide) rfl ?_
  refine g_iload_n 4 dX12_readNeed_42 rfl ?_
  refine g_if_ne (tgt := 67) dX12_readNeed_43 (by decide) (fun c13 => ?_) (fun c13 => ?_)
  · refine g_aload_n 2 dX12_readNeed_46 rfl ?_
    refine g_iconst (v := 5) dX12_readNeed_47 (by decide) ?_
    refine g_callVi (J := I_X12_eats) (t := 13) (As := [.int 5]) (rest := []) mjv_X12_eats ml_RX12_157 ⟨rfl, by decide, by decide⟩ (by decide) rfl rfl (Nat.le_of_ble_eq_true rfl) dX12_readNeed_48 (T_X12_eats F l0 5 h12) (fun v14 h15 => ?_)
    refine g_if_ne (tgt := 59) dX12_readNeed_51 (by decide) (fun c16 => ?_) (fun c16 => ?_)
    · refine g_aload_n 2 dX12_readNeed_54 rfl ?_
      refine g_iconst (v := 2) dX12_readNeed_55 (by decide) ?_
      refine g_callVv (J := I_X12_fails) (t := 13) (As := [.int 2]) (rest := []) mjv_X12_fails ml_RX12_134 ⟨rfl, by decide, by decide⟩ (by decide) rfl rfl (Nat.le_of_ble_eq_true rfl) dX12_readNeed_56 (T_X12_fails F l0 2 h15) (fun v17 h18 => ?_)
      refine G_lv [2, 3, 4, 1] rfl ?_
      exact T_X12_readNeed_59 F l0 l1 l2 v11 h18
    · refine G_lv [2, 3, 4, 1] rfl ?_
      exact T_X12_readNeed_59 F l0 l1 l2 v11 h15
  · refine G_lv [2, 3, 4, 1, 0] rfl ?_
    exact T_X12_readNeed_67 F l0 l1 l2 v11 0 h12
set_option maxRecDepth 100000 in
noncomputable def f_X12_readNeed (F : Nat) (a0 : Nat) (a1 : Int32) (h : Hp) : Option (Int32 × Hp) :=
  cV 13 h a0 (f_X12_is F a0 6 h) fun v1 h2 => if v1 = 0 then (cV 13 h2 a0 (f_X12_is F a0 4 h2) fun v4 h5 => if v4 = 0 then (some (0, h5)) else (f_X12_readNeed_21 F a0 a1 v1 h5)) else (f_X12_readNeed_21 F a0 a1 v1 h2)
set_option maxRecDepth 100000 in
set_option maxHeartbeats 4000000 in
theorem T_X12_readNeed (F : Nat) (a0 : Nat) (a1 : Int32) (h : Hp) : GM rvI I_X12_readNeed 8 [.ref a0, .int a1] h (f_X12_readNeed F a0 a1 h) := by
  delta f_X12_readNeed
  refine GM_of (lv := [(0, .ref a0), (1, .int a1)]) (by decide +kernel) (Nat.le_of_ble_eq_true rfl) rfl ?_
  refine g_aload_n 0 dX12_readNeed_0 rfl ?_
  refine g_bipush (v := 6) dX12_readNeed_1 (by decide) ?_
  refine g_callVi (J := I_X12_is) (t := 13) (As := [.int 6]) (rest := []) mjv_X12_is ml_RX12_128 ⟨rfl, by decide, by decide⟩ (by decide) rfl rfl (Nat.le_of_ble_eq_true rfl) dX12_readNeed_3 (T_X12_is F a0 6 h) (fun v1 h2 => ?_)
  refine g_istore_n (lv' := [(2, .int v1), (0, .ref a0), (1, .int a1)]) dX12_readNeed_6 (by decide) rfl ?_
  refine g_iload_n 0 dX12_readNeed_7 rfl ?_
  refine g_if_ne (tgt := 21) dX12_readNeed_8 (by decide) (fun c3 => ?_) (fun c3 => ?_)
  · refine g_aload_n 1 dX12_readNeed_11 rfl ?_
    refine g_iconst (v := 4) dX12_readNeed_12 (by decide) ?_
    refine g_callVi (J := I_X12_is) (t := 13) (As := [.int 4]) (rest := []) mjv_X12_is ml_RX12_128 ⟨rfl, by decide, by decide⟩ (by decide) rfl rfl (Nat.le_of_ble_eq_true rfl) dX12_readNeed_13 (T_X12_is F a0 4 h2) (fun v4 h5 => ?_)
    refine g_if_ne (tgt := 21) dX12_readNeed_16 (by decide) (fun c6 => ?_) (fun c6 => ?_)
    · refine g_iconst (v := 0) dX12_readNeed_19 (by decide) ?_
      exact g_zret (ty := .boolean) rfl rfl dX12_readNeed_20
    · refine G_lv [1, 2, 0] rfl ?_
      exact T_X12_readNeed_21 F a0 a1 v1 h5
  · refine G_lv [1, 2, 0] rfl ?_
    exact T_X12_readNeed_21 F a0 a1 v1 h2
