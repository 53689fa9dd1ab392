/-! L2, by program (wip/whole/gen/gen.py) -/
set_option maxRecDepth 100000 in
noncomputable def f_X12_init (F : Nat) (a0 : Nat) (h : Hp) : Option (Unit × Hp) :=
  nA 20 h 3132 fun b1 h2 => pR 13 h2 a0 1 b1 fun h3 => nA 22 h3 2 fun b4 h5 => pR 13 h5 a0 2 b4 fun h6 => nA 20 h6 900 fun b7 h8 => pR 13 h8 a0 3 b7 fun h9 => nA 20 h9 1044 fun b10 h11 => pR 13 h11 a0 4 b10 fun h12 => pI 13 h12 a0 14 (-1) fun h13 => nA 20 h13 900 fun b14 h15 => pR 13 h15 a0 16 b14 fun h16 => nA 20 h16 6 fun b17 h18 => pR 13 h18 a0 17 b17 fun h19 => nA 20 h19 9 fun b20 h21 => pR 13 h21 a0 18 b20 fun h22 => nA 22 h22 65536 fun b23 h24 => pR 13 h24 a0 21 b23 fun h25 => nA 20 h25 589824 fun b26 h27 => pR 13 h27 a0 22 b26 fun h28 => nA 20 h28 65536 fun b29 h30 => pR 13 h30 a0 23 b29 fun h31 => nA 23 h31 65536 fun b32 h33 => pR 13 h33 a0 28 b32 fun h34 => nA 23 h34 65536 fun b35 h36 => pR 13 h36 a0 29 b35 fun h37 => nA 20 h37 4 fun b38 h39 => pR 13 h39 a0 30 b38 fun h40 => nA 20 h40 65536 fun b41 h42 => pR 13 h42 a0 31 b41 fun h43 => nA 20 h43 4 fun b44 h45 => wI h45 b44 0 (-1) fun h46 => wI h46 b44 1 (-1) fun h47 => wI h47 b44 2 (-1) fun h48 => wI h48 b44 3 (-1) fun h49 => pR 13 h49 a0 32 b44 fun h50 => nA 20 h50 4 fun b51 h52 => pR 13 h52 a0 33 b51 fun h53 => nA 23 h53 160 fun b54 h55 => pR 13 h55 a0 34 b54 fun h56 => gR 13 h56 a0 1 fun v57 => bd (f_X12_plain F v57 h56) fun v58 h59 => some ((), h59)
set_option maxRecDepth 100000 in
set_option maxHeartbeats 4000000 in
theorem T_X12_init (F : Nat) (a0 : Nat) (h : Hp) : GM rvV I_X12_init 2 [.ref a0] h (f_X12_init F a0 h) := by
  delta f_X12_init
  refine GM_of (lv := [(0, .ref a0)]) (by decide +kernel) (Nat.le_of_ble_eq_true rfl) rfl ?_
  refine g_aload_n 0 dX12_init_0 rfl ?_
  refine g_objInit oi_RX12_7 (by decide) (Nat.le_of_ble_eq_true rfl) dX12_init_1 ?_
  refine g_aload_n 0 dX12_init_4 rfl ?_
  refine g_sipush (v := 3132) dX12_init_5 (by decide) ?_
  refine g_newa (t := 20) (by decide) (by decide) rfl ac_int dX12_init_8 (fun b1 h2 => ?_)
  refine g_putR fl_RX12_13 rfl (Or.inr ⟨rfl, rfl, rfl⟩) dX12_init_10 (fun h3 => ?_)
  refine g_aload_n 0 dX12_init_13 rfl ?_
  refine g_iconst (v := 2) dX12_init_14 (by decide) ?_
  refine g_newa (t := 22) (by decide) (by decide) rfl ac_boolean dX12_init_15 (fun b4 h5 => ?_)
  refine g_putR fl_RX12_17 rfl (Or.inr ⟨rfl, rfl, rfl⟩) dX12_init_17 (fun h6 => ?_)
  refine g_aload_n 0 dX12_init_20 rfl ?_
  refine g_sipush (v := 900) dX12_init_21 (by decide) ?_
  refine g_newa (t := 20) (by decide) (by decide) rfl ac_int dX12_init_24 (fun b7 h8 => ?_)
  refine g_putR fl_RX12_21 rfl (Or.inr ⟨rfl, rfl, rfl⟩) dX12_init_26 (fun h9 => ?_)
  refine g_aload_n 0 dX12_init_29 rfl ?_
  refine g_sipush (v := 1044) dX12_init_30 (by decide) ?_
  refine g_newa (t := 20) (by decide) (by decide) rfl ac_int dX12_init_33 (fun b10 h11 => ?_)
  refine g_putR fl_RX12_24 rfl (Or.inr ⟨rfl, rfl, rfl⟩) dX12_init_35 (fun h12 => ?_)
  refine g_aload_n 0 dX12_init_38 rfl ?_
  refine g_iconst (v := (-1)) dX12_init_39 (by decide) ?_
  refine g_putI fl_RX12_27 (Or.inl rfl) dX12_init_40 (fun h13 => ?_)
  refine g_aload_n 0 dX12_init_43 rfl ?_
  refine g_sipush (v := 900) dX12_init_44 (by decide) ?_
  refine g_newa (t := 20) (by decide) (by decide) rfl ac_int dX12_init_47 (fun b14 h15 => ?_)
  refine g_putR fl_RX12_30 rfl (Or.inr ⟨rfl, rfl, rfl⟩) dX12_init_49 (fun h16 => ?_)
  refine g_aload_n 0 dX12_init_52 rfl ?_
  refine g_bipush (v := 6) dX12_init_53 (by decide) ?_
  refine g_newa (t := 20) (by decide) (by decide) rfl ac_int dX12_init_55 (fun b17 h18 => ?_)
  refine g_putR fl_RX12_33 rfl (Or.inr ⟨rfl, rfl, rfl⟩) dX12_init_57 (fun h19 => ?_)
  refine g_aload_n 0 dX12_init_60 rfl ?_
  refine g_bipush (v := 9) dX12_init_61 (by decide) ?_
  refine g_newa (t := 20) (by decide) (by decide) rfl ac_int dX12_init_63 (fun b20 h21 => ?_)
  refine g_putR fl_RX12_36 rfl (Or.inr ⟨rfl, rfl, rfl⟩) dX12_init_65 (fun h22 => ?_)
  refine g_aload_n 0 dX12_init_68 rfl ?_
  refine g_ldc (v := 65536) dX12_init_69 co_RX12_39 ?_
  refine g_newa (t := 22) (by decide) (by decide) rfl ac_boolean dX12_init_71 (fun b23 h24 => ?_)
  refine g_putR fl_RX12_40 rfl (Or.inr ⟨rfl, rfl, rfl⟩) dX12_init_73 (fun h25 => ?_)
  refine g_aload_n 0 dX12_init_76 rfl ?_
  refine g_ldc (v := 589824) dX12_init_77 co_RX12_43 ?_
  refine g_newa (t := 20) (by decide) (by decide) rfl ac_int dX12_init_79 (fun b26 h27 => ?_)
  refine g_putR fl_RX12_44 rfl (Or.inr ⟨rfl, rfl, rfl⟩) dX12_init_81 (fun h28 => ?_)
  refine g_aload_n 0 dX12_init_84 rfl ?_
  refine g_ldc (v := 65536) dX12_init_85 co_RX12_39 ?_
  refine g_newa (t := 20) (by decide) (by decide) rfl ac_int dX12_init_87 (fun b29 h30 => ?_)
  refine g_putR fl_RX12_47 rfl (Or.inr ⟨rfl, rfl, rfl⟩) dX12_init_89 (fun h31 => ?_)
  refine g_aload_n 0 dX12_init_92 rfl ?_
  refine g_ldc (v := 65536) dX12_init_93 co_RX12_39 ?_
  refine g_newa (t := 23) (by decide) (by decide) rfl ac_long dX12_init_95 (fun b32 h33 => ?_)
  refine g_putR fl_RX12_50 rfl (Or.inr ⟨rfl, rfl, rfl⟩) dX12_init_97 (fun h34 => ?_)
  refine g_aload_n 0 dX12_init_100 rfl ?_
  refine g_ldc (v := 65536) dX12_init_101 co_RX12_39 ?_
  refine g_newa (t := 23) (by decide) (by decide) rfl ac_long dX12_init_103 (fun b35 h36 => ?_)
  refine g_putR fl_RX12_54 rfl (Or.inr ⟨rfl, rfl, rfl⟩) dX12_init_105 (fun h37 => ?_)
  refine g_aload_n 0 dX12_init_108 rfl ?_
  refine g_iconst (v := 4) dX12_init_109 (by decide) ?_
  refine g_newa (t := 20) (by decide) (by decide) rfl ac_int dX12_init_110 (fun b38 h39 => ?_)
  refine g_putR fl_RX12_57 rfl (Or.inr ⟨rfl, rfl, rfl⟩) dX12_init_112 (fun h40 => ?_)
  refine g_aload_n 0 dX12_init_115 rfl ?_
  refine g_ldc (v := 65536) dX12_init_116 co_RX12_39 ?_
  refine g_newa (t := 20) (by decide) (by decide) rfl ac_int dX12_init_118 (fun b41 h42 => ?_)
  refine g_putR fl_RX12_60 rfl (Or.inr ⟨rfl, rfl, rfl⟩) dX12_init_120 (fun h43 => ?_)
  refine g_aload_n 0 dX12_init_123 rfl ?_
  refine g_iconst (v := 4) dX12_init_124 (by decide) ?_
  refine g_newa (t := 20) (by decide) (by decide) rfl ac_int dX12_init_125 (fun b44 h45 => ?_)
  refine g_dup dX12_init_127 rfl ?_
  refine g_iconst (v := 0) dX12_init_128 (by decide) ?_
  refine g_iconst (v := (-1)) dX12_init_129 (by decide) ?_
  refine g_iast dX12_init_130 (fun h46 => ?_)
  refine g_dup dX12_init_131 rfl ?_
  refine g_iconst (v := 1) dX12_init_132 (by decide) ?_
  refine g_iconst (v := (-1)) dX12_init_133 (by decide) ?_
  refine g_iast dX12_init_134 (fun h47 => ?_)
  refine g_dup dX12_init_135 rfl ?_
  refine g_iconst (v := 2) dX12_init_136 (by decide) ?_
  refine g_iconst (v := (-1)) dX12_init_137 (by decide) ?_
  refine g_iast dX12_init_138 (fun h48 => ?_)
  refine g_dup dX12_init_139 rfl ?_
  refine g_iconst (v := 3) dX12_init_140 (by decide) ?_
  refine g_iconst (v := (-1)) dX12_init_141 (by decide) ?_
  refine g_iast dX12_init_142 (fun h49 => ?_)
  refine g_putR fl_RX12_63 rfl (Or.inr ⟨rfl, rfl, rfl⟩) dX12_init_143 (fun h50 => ?_)
  refine g_aload_n 0 dX12_init_146 rfl ?_
  refine g_iconst (v := 4) dX12_init_147 (by decide) ?_
  refine g_newa (t := 20) (by decide) (by decide) rfl ac_int dX12_init_148 (fun b51 h52 => ?_)
  refine g_putR fl_RX12_66 rfl (Or.inr ⟨rfl, rfl, rfl⟩) dX12_init_150 (fun h53 => ?_)
  refine g_aload_n 0 dX12_init_153 rfl ?_
  refine g_sipush (v := 160) dX12_init_154 (by decide) ?_
  refine g_newa (t := 23) (by decide) (by decide) rfl ac_long dX12_init_157 (fun b54 h55 => ?_)
  refine g_putR fl_RX12_69 rfl (Or.inr ⟨rfl, rfl, rfl⟩) dX12_init_159 (fun h56 => ?_)
  refine g_aload_n 0 dX12_init_162 rfl ?_
  refine g_getR fl_RX12_13 rfl dX12_init_163 (fun v57 => ?_)
  refine g_callSv (J := I_X12_plain) (As := [.ref v57]) (rest := []) mjs_X12_plain ml_RX12_72 (by decide) rfl rfl (Nat.le_of_ble_eq_true rfl) dX12_init_166 (T_X12_plain F v57 h56) (fun v58 h59 => ?_)
  exact g_vret rfl dX12_init_169
set_option maxRecDepth 100000 in
noncomputable def f_X12_judge (F : Nat) (a0 : Nat) (a1 : Int32) (a2 : Int32) (h : Hp) : Option (Int32 × Hp) :=
  pI 13 h a0 0 0 fun h1 => bd (f_X12_within F (a2.toInt64) 0 3 h1) fun v2 h3 => if v2 = 0 then (some ((-2), h3)) else (cV 13 h3 a0 (f_X12_noTray F a0 a1 h3) fun v5 h6 => if v5 = 0 then (cV 13 h6 a0 (f_X12_keeps F a0 h6) fun v8 h9 => cV 13 h9 a0 (f_X12_tells F a0 a1 h9) fun v10 h11 => cV 13 h11 a0 (f_X12_standNow F a0 h11) fun v12 h13 => cV 13 h13 a0 (f_X12_isAgain F a0 h13) fun v14 h15 => if a2 = 0 then (gI 13 h15 a0 19 fun v17 => if v17 = 0 then (some ((-1), h15)) else (some (v10, h15))) else (if a2 = 1 then (gI 13 h15 a0 19 fun v20 => some (v20, h15)) else (cV 13 h15 a0 (f_X12_doesAll F a0 v12 (a2 - 2) h15) fun v21 h22 => some (v21, h22)))) else (some (v5, h6)))
set_option maxRecDepth 100000 in
set_option maxHeartbeats 4000000 in
theorem T_X12_judge (F : Nat) (a0 : Nat) (a1 : Int32) (a2 : Int32) (h : Hp) : GM rvI I_X12_judge 8 [.ref a0, .int a1, .int a2] h (f_X12_judge F a0 a1 a2 h) := by
  delta f_X12_judge
  refine GM_of (lv := [(0, .ref a0), (1, .int a1), (2, .int a2)]) (by decide +kernel) (Nat.le_of_ble_eq_true rfl) rfl ?_
  refine g_aload_n 0 dX12_judge_0 rfl ?_
  refine g_iconst (v := 0) dX12_judge_1 (by decide) ?_
  refine g_putI fl_RX12_1 (Or.inl rfl) dX12_judge_2 (fun h1 => ?_)
  refine g_iload_n 2 dX12_judge_5 rfl ?_
  refine g_i2l dX12_judge_6 ?_
  refine g_lconst (v := 0) dX12_judge_7 (by decide) ?_
  refine g_ldc2 (v := 3) dX12_judge_8 cl_RX12_319 ?_
  refine g_callSi (J := I_X12_within) (As := [.long (a2.toInt64), .long 0, .long 3]) (rest := []) mjs_X12_within ml_RX12_138 (by decide) rfl rfl (Nat.le_of_ble_eq_true rfl) dX12_judge_11 (T_X12_within F (a2.toInt64) 0 3 h1) (fun v2 h3 => ?_)
  refine g_if_ne (tgt := 20) dX12_judge_14 (by decide) (fun c4 => ?_) (fun c4 => ?_)
  · refine g_bipush (v := (-2)) dX12_judge_17 (by decide) ?_
    exact g_iret rfl dX12_judge_19
  · refine g_aload_n 0 dX12_judge_20 rfl ?_
    refine g_iload_n 1 dX12_judge_21 rfl ?_
    refine g_callVi (J := I_X12_noTray) (t := 13) (As := [.int a1]) (rest := []) mjv_X12_noTray ml_RX12_321 ⟨rfl, by decide, by decide⟩ (by decide) rfl rfl (Nat.le_of_ble_eq_true rfl) dX12_judge_22 (T_X12_noTray F a0 a1 h3) (fun v5 h6 => ?_)
    refine g_istore_n (lv' := [(3, .int v5), (0, .ref a0), (1, .int a1), (2, .int a2)]) dX12_judge_25 (by decide) rfl ?_
    refine g_iload_n 0 dX12_judge_26 rfl ?_
    refine g_if_eq (tgt := 32) dX12_judge_27 (by decide) (fun c7 => ?_) (fun c7 => ?_)
    · refine g_aload_n 1 dX12_judge_32 rfl ?_
      refine g_callVv (J := I_X12_keeps) (t := 13) (As := []) (rest := []) mjv_X12_keeps ml_RX12_273 ⟨rfl, by decide, by decide⟩ (by decide) rfl rfl (Nat.le_of_ble_eq_true rfl) dX12_judge_33 (T_X12_keeps F a0 h6) (fun v8 h9 => ?_)
      refine g_aload_n 1 dX12_judge_36 rfl ?_
      refine g_iload_n 2 dX12_judge_37 rfl ?_
      refine g_callVi (J := I_X12_tells) (t := 13) (As := [.int a1]) (rest := []) mjv_X12_tells ml_RX12_324 ⟨rfl, by decide, by decide⟩ (by decide) rfl rfl (Nat.le_of_ble_eq_true rfl) dX12_judge_38 (T_X12_tells F a0 a1 h9) (fun v10 h11 => ?_)
      refine g_istore (lv' := [(4, .int v10), (3, .int v5), (0, .ref a0), (1, .int a1), (2, .int a2)]) dX12_judge_41 (by decide) rfl ?_
      refine g_aload_n 2 dX12_judge_43 rfl ?_
      refine g_callVi (J := I_X12_standNow) (t := 13) (As := []) (rest := []) mjv_X12_standNow ml_RX12_260 ⟨rfl, by decide, by decide⟩ (by decide) rfl rfl (Nat.le_of_ble_eq_true rfl) dX12_judge_44 (T_X12_standNow F a0 h11) (fun v12 h13 => ?_)
      refine g_istore (lv' := [(5, .int v12), (4, .int v10), (3, .int v5), (0, .ref a0), (1, .int a1), (2, .int a2)]) dX12_judge_47 (by decide) rfl ?_
      refine g_aload_n 3 dX12_judge_49 rfl ?_
      refine g_callVv (J := I_X12_isAgain) (t := 13) (As := []) (rest := []) mjv_X12_isAgain ml_RX12_327 ⟨rfl, by decide, by decide⟩ (by decide) rfl rfl (Nat.le_of_ble_eq_true rfl) dX12_judge_50 (T_X12_isAgain F a0 h13) (fun v14 h15 => ?_)
      refine g_iload_n 5 dX12_judge_53 rfl ?_
      refine g_if_ne (tgt := 73) dX12_judge_54 (by decide) (fun c16 => ?_) (fun c16 => ?_)
      · refine g_aload_n 3 dX12_judge_57 rfl ?_
        refine g_getI fl_RX12_309 rfl dX12_judge_58 (fun v17 => ?_)
        refine g_if_ne (tgt := 68) dX12_judge_61 (by decide) (fun c18 => ?_) (fun c18 => ?_)
        · refine g_iconst (v := (-1)) dX12_judge_64 (by decide) ?_
          refine g_goto (tgt := 94) dX12_judge_65 (by decide) ?_
          exact g_iret rfl dX12_judge_94
        · refine g_iload 1 dX12_judge_68 rfl ?_
          refine g_goto (tgt := 94) dX12_judge_70 (by decide) ?_
          exact g_iret rfl dX12_judge_94
      · refine g_iload_n 5 dX12_judge_73 rfl ?_
        refine g_iconst (v := 1) dX12_judge_74 (by decide) ?_
        refine g_icmp_ne (tgt := 85) dX12_judge_75 (by decide) (fun c19 => ?_) (fun c19 => ?_)
        · refine g_aload_n 3 dX12_judge_78 rfl ?_
          refine g_getI fl_RX12_309 rfl dX12_judge_79 (fun v20 => ?_)
          refine g_goto (tgt := 94) dX12_judge_82 (by decide) ?_
          exact g_iret rfl dX12_judge_94
        · refine g_aload_n 3 dX12_judge_85 rfl ?_
          refine g_iload 0 dX12_judge_86 rfl ?_
          refine g_iload_n 5 dX12_judge_88 rfl ?_
          refine g_iconst (v := 2) dX12_judge_89 (by decide) ?_
          refine g_isub dX12_judge_90 ?_
          refine g_callVi (J := I_X12_doesAll) (t := 13) (As := [.int v12, .int (a2 - 2)]) (rest := []) mjv_X12_doesAll ml_RX12_244 ⟨rfl, by decide, by decide⟩ (by decide) rfl rfl (Nat.le_of_ble_eq_true rfl) dX12_judge_91 (T_X12_doesAll F a0 v12 (a2 - 2) h15) (fun v21 h22 => ?_)
          exact g_iret rfl dX12_judge_94
    · refine g_iload_n 0 dX12_judge_30 rfl ?_
      exact g_iret rfl dX12_judge_31
set_option maxRecDepth 100000 in
noncomputable def f_X12_likeliest_81 (F : Nat) (K39 : Nat → Int32 → Int32 → Int32 → Int32 → Int32 → Hp → Option (Int32 × Hp)) (l0 : Nat) (l1 : Int32) (l2 : Int32) (l3 : Int32) (l4 : Int32) (l5 : Int32) (h : Hp) : Option (Int32 × Hp) :=
  K39 l0 l1 l2 l3 l4 (l5 + 1) h
set_option maxRecDepth 100000 in
set_option maxHeartbeats 4000000 in
theorem T_X12_likeliest_81 (F : Nat) {K39 : Nat → Int32 → Int32 → Int32 → Int32 → Int32 → Hp → Option (Int32 × Hp)} (hK39 : ∀ (l0 : Nat) (l1 : Int32) (l2 : Int32) (l3 : Int32) (l4 : Int32) (l5 : Int32) (h : Hp), G rvI I_X12_likeliest 15 39 [(0, .ref l0), (1, .int l1), (2, .int l2), (3, .int l3), (4, .int l4), (5, .int l5)] [] h (K39 l0 l1 l2 l3 l4 l5 h)) (l0 : Nat) (l1 : Int32) (l2 : Int32) (l3 : Int32) (l4 : Int32) (l5 : Int32) (h : Hp) : G rvI I_X12_likeliest 15 81 [(0, .ref l0), (1, .int l1), (2, .int l2), (3, .int l3), (4, .int l4), (5, .int l5)] [] h (f_X12_likeliest_81 F K39 l0 l1 l2 l3 l4 l5 h) := by
  delta f_X12_likeliest_81
  refine g_iinc (v' := l5 + 1) (lv' := [(5, .int (l5 + 1)), (0, .ref l0), (1, .int l1), (2, .int l2), (3, .int l3), (4, .int l4)]) 5 dX12_likeliest_81 rfl rfl (by decide) rfl ?_
  refine g_goto (tgt := 39) dX12_likeliest_84 (by decide) ?_
  refine G_lv [1, 2, 3, 4, 5, 0] rfl ?_
  exact hK39 l0 l1 l2 l3 l4 (l5 + 1) h
set_option maxRecDepth 100000 in
noncomputable def f_X12_likeliest_39_b (F : Nat) (K39 : Nat → Int32 → Int32 → Int32 → Int32 → Int32 → Hp → Option (Int32 × Hp)) (l0 : Nat) (l1 : Int32) (l2 : Int32) (l3 : Int32) (l4 : Int32) (l5 : Int32) (h : Hp) : Option (Int32 × Hp) :=
  gR 13 h l0 1 fun v8 => aI 20 h v8 2 fun v9 => if v9 ≤ l5 then (some (l3, h)) else (cV 13 h l0 (f_X12_standNow F l0 h) fun v11 h12 => cV 13 h12 l0 (f_X12_likelyFrom F l0 v11 l1 l5 l2 h12) fun v13 h14 => if l4 < v13 then (f_X12_likeliest_81 F K39 l0 l1 l2 l5 v13 l5 h14) else (f_X12_likeliest_81 F K39 l0 l1 l2 l3 l4 l5 h14))
set_option maxRecDepth 100000 in
set_option maxHeartbeats 4000000 in
theorem T_X12_likeliest_39_b (F : Nat) {K39 : Nat → Int32 → Int32 → Int32 → Int32 → Int32 → Hp → Option (Int32 × Hp)} (hK39 : ∀ (l0 : Nat) (l1 : Int32) (l2 : Int32) (l3 : Int32) (l4 : Int32) (l5 : Int32) (h : Hp), G rvI I_X12_likeliest 15 39 [(0, .ref l0), (1, .int l1), (2, .int l2), (3, .int l3), (4, .int l4), (5, .int l5)] [] h (K39 l0 l1 l2 l3 l4 l5 h)) (l0 : Nat) (l1 : Int32) (l2 : Int32) (l3 : Int32) (l4 : Int32) (l5 : Int32) (h : Hp) : G rvI I_X12_likeliest 15 39 [(0, .ref l0), (1, .int l1), (2, .int l2), (3, .int l3), (4, .int l4), (5, .int l5)] [] h (f_X12_likeliest_39_b F K39 l0 l1 l2 l3 l4 l5 h) := by
  delta f_X12_likeliest_39_b
  refine g_iload 5 dX12_likeliest_39 rfl ?_
  refine g_aload_n 0 dX12_likeliest_41 rfl ?_
  refine g_getR fl_RX12_13 rfl dX12_likeliest_42 (fun v8 => ?_)
  refine g_iconst (v := 2) dX12_likeliest_45 (by decide) ?_
  refine g_iald dX12_likeliest_46 (fun v9 => ?_)
  refine g_icmp_ge (tgt := 87) dX12_likeliest_47 (by decide) (fun c10 => ?_) (fun c10 => ?_)
  · refine g_iload_n 3 dX12_likeliest_87 rfl ?_
    exact g_iret rfl dX12_likeliest_88
  · refine g_aload_n 0 dX12_likeliest_50 rfl ?_
    refine g_aload_n 0 dX12_likeliest_51 rfl ?_
    refine g_callVi (J := I_X12_standNow) (t := 13) (As := []) (rest := [.ref l0]) mjv_X12_standNow ml_RX12_260 ⟨rfl, by decide, by decide⟩ (by decide) rfl rfl (Nat.le_of_ble_eq_true rfl) dX12_likeliest_52 (T_X12_standNow F l0 h) (fun v11 h12 => ?_)
    refine g_iload_n 1 dX12_likeliest_55 rfl ?_
    refine g_iload 5 dX12_likeliest_56 rfl ?_
    refine g_iload_n 2 dX12_likeliest_58 rfl ?_
    refine g_callVi (J := I_X12_likelyFrom) (t := 13) (As := [.int v11, .int l1, .int l5, .int l2]) (rest := []) mjv_X12_likelyFrom ml_RX12_434 ⟨rfl, by decide, by decide⟩ (by decide) rfl rfl (Nat.le_of_ble_eq_true rfl) dX12_likeliest_59 (T_X12_likelyFrom F l0 v11 l1 l5 l2 h12) (fun v13 h14 => ?_)
    refine g_istore (lv' := [(6, .int v13), (0, .ref l0), (1, .int l1), (2, .int l2), (3, .int l3), (4, .int l4), (5, .int l5)]) dX12_likeliest_62 (by decide) rfl ?_
    refine g_iload 0 dX12_likeliest_64 rfl ?_
    refine g_iload 5 dX12_likeliest_66 rfl ?_
    refine g_icmp_gt (tgt := 74) dX12_likeliest_68 (by decide) (fun c15 => ?_) (fun c15 => ?_)
    · refine g_iload 6 dX12_likeliest_74 rfl ?_
      refine g_istore_n (lv' := [(3, .int l5), (6, .int v13), (0, .ref l0), (1, .int l1), (2, .int l2), (4, .int l4), (5, .int l5)]) dX12_likeliest_76 (by decide) rfl ?_
      refine g_iload 1 dX12_likeliest_77 rfl ?_
      refine g_istore (lv' := [(4, .int v13), (3, .int l5), (6, .int v13), (0, .ref l0), (1, .int l1), (2, .int l2), (5, .int l5)]) dX12_likeliest_79 (by decide) rfl ?_
      refine G_lv [3, 4, 5, 1, 0, 6] rfl ?_
      exact T_X12_likeliest_81 F hK39 l0 l1 l2 l5 v13 l5 h14
    · refine g_goto (tgt := 81) dX12_likeliest_71 (by decide) ?_
      refine G_lv [1, 2, 3, 4, 5, 6] rfl ?_
      exact T_X12_likeliest_81 F hK39 l0 l1 l2 l3 l4 l5 h14
set_option maxRecDepth 100000 in
noncomputable def f_X12_likeliest_39 (F : Nat) : Nat → Nat → Int32 → Int32 → Int32 → Int32 → Int32 → Hp → Option (Int32 × Hp)
  | 0, _, _, _, _, _, _, _ => none
  | n + 1, l0, l1, l2, l3, l4, l5, h => f_X12_likeliest_39_b F (f_X12_likeliest_39 F n) l0 l1 l2 l3 l4 l5 h
set_option maxRecDepth 100000 in
set_option maxHeartbeats 4000000 in
theorem T_X12_likeliest_39 (F : Nat) : ∀ (n : Nat) (l0 : Nat) (l1 : Int32) (l2 : Int32) (l3 : Int32) (l4 : Int32) (l5 : Int32) (h : Hp), G rvI I_X12_likeliest 15 39 [(0, .ref l0), (1, .int l1), (2, .int l2), (3, .int l3), (4, .int l4), (5, .int l5)] [] h (f_X12_likeliest_39 F n l0 l1 l2 l3 l4 l5 h) := by
  intro n
  induction n with
  | zero => intros; exact G_none
  | succ n ih => intro l0 l1 l2 l3 l4 l5 h; exact T_X12_likeliest_39_b F ih l0 l1 l2 l3 l4 l5 h
set_option maxRecDepth 100000 in
noncomputable def f_X12_likeliest (F : Nat) (a0 : Nat) (a1 : Int32) (a2 : Int32) (h : Hp) : Option (Int32 × Hp) :=
  pI 13 h a0 0 0 fun h1 => bd (f_X12_isTwin F (a1.toInt64) h1) fun v2 h3 => if v2 = 0 then (some ((-2), h3)) else (bd (f_X12_within F (a2.toInt64) 0 4 h3) fun v5 h6 => if v5 = 0 then (some ((-3), h6)) else (f_X12_likeliest_39 F F a0 a1 a2 (-1) (-1) 0 h6))
set_option maxRecDepth 100000 in
set_option maxHeartbeats 4000000 in
theorem T_X12_likeliest (F : Nat) (a0 : Nat) (a1 : Int32) (a2 : Int32) (h : Hp) : GM rvI I_X12_likeliest 15 [.ref a0, .int a1, .int a2] h (f_X12_likeliest F a0 a1 a2 h) := by
  delta f_X12_likeliest
  refine GM_of (lv := [(0, .ref a0), (1, .int a1), (2, .int a2)]) (by decide +kernel) (Nat.le_of_ble_eq_true rfl) rfl ?_
  refine g_aload_n 0 dX12_likeliest_0 rfl ?_
  refine g_iconst (v := 0) dX12_likeliest_1 (by decide) ?_
  refine g_putI fl_RX12_1 (Or.inl rfl) dX12_likeliest_2 (fun h1 => ?_)
  refine g_iload_n 1 dX12_likeliest_5 rfl ?_
  refine g_i2l dX12_likeliest_6 ?_
  refine g_callSi (J := I_X12_isTwin) (As := [.long (a1.toInt64)]) (rest := []) mjs_X12_isTwin ml_RX12_250 (by decide) rfl rfl (Nat.le_of_ble_eq_true rfl) dX12_likeliest_7 (T_X12_isTwin F (a1.toInt64) h1) (fun v2 h3 => ?_)
  refine g_if_ne (tgt := 16) dX12_likeliest_10 (by decide) (fun c4 => ?_) (fun c4 => ?_)
  · refine g_bipush (v := (-2)) dX12_likeliest_13 (by decide) ?_
    exact g_iret rfl dX12_likeliest_15
  · refine g_iload_n 2 dX12_likeliest_16 rfl ?_
    refine g_i2l dX12_likeliest_17 ?_
    refine g_lconst (v := 0) dX12_likeliest_18 (by decide) ?_
    refine g_ldc2 (v := 4) dX12_likeliest_19 cl_RX12_440 ?_
    refine g_callSi (J := I_X12_within) (As := [.long (a2.toInt64), .long 0, .long 4]) (rest := []) mjs_X12_within ml_RX12_138 (by decide) rfl rfl (Nat.le_of_ble_eq_true rfl) dX12_likeliest_22 (T_X12_within F (a2.toInt64) 0 4 h3) (fun v5 h6 => ?_)
    refine g_if_ne (tgt := 31) dX12_likeliest_25 (by decide) (fun c7 => ?_) (fun c7 => ?_)
    · refine g_bipush (v := (-3)) dX12_likeliest_28 (by decide) ?_
      exact g_iret rfl dX12_likeliest_30
    · refine g_iconst (v := (-1)) dX12_likeliest_31 (by decide) ?_
      refine g_istore_n (lv' := [(3, .int (-1)), (0, .ref a0), (1, .int a1), (2, .int a2)]) dX12_likeliest_32 (by decide) rfl ?_
      refine g_iconst (v := (-1)) dX12_likeliest_33 (by decide) ?_
      refine g_istore (lv' := [(4, .int (-1)), (3, .int (-1)), (0, .ref a0), (1, .int a1), (2, .int a2)]) dX12_likeliest_34 (by decide) rfl ?_
      refine g_iconst (v := 0) dX12_likeliest_36 (by decide) ?_
      refine g_istore (lv' := [(5, .int 0), (4, .int (-1)), (3, .int (-1)), (0, .ref a0), (1, .int a1), (2, .int a2)]) dX12_likeliest_37 (by decide) rfl ?_
      refine G_lv [3, 4, 5, 2, 1, 0] rfl ?_
      exact T_X12_likeliest_39 F F a0 a1 a2 (-1) (-1) 0 h6
set_option maxRecDepth 100000 in
noncomputable def f_X12_goals (F : Nat) (a0 : Nat) (a1 : Int32) (a2 : Int32) (h : Hp) : Option (Unit × Hp) :=
  pI 13 h a0 24 a1 fun h1 => pI 13 h1 a0 25 a2 fun h2 => pI 13 h2 a0 27 (-1) fun h3 => some ((), h3)
set_option maxRecDepth 100000 in
set_option maxHeartbeats 4000000 in
theorem T_X12_goals (F : Nat) (a0 : Nat) (a1 : Int32) (a2 : Int32) (h : Hp) : GM rvV I_X12_goals 1 [.ref a0, .int a1, .int a2] h (f_X12_goals F a0 a1 a2 h) := by
  delta f_X12_goals
  refine GM_of (lv := [(0, .ref a0), (1, .int a1), (2, .int a2)]) (by decide +kernel) (Nat.le_of_ble_eq_true rfl) rfl ?_
  refine g_aload_n 0 dX12_goals_0 rfl ?_
  refine g_iload_n 1 dX12_goals_1 rfl ?_
  refine g_putI fl_RX12_345 (Or.inl rfl) dX12_goals_2 (fun h1 => ?_)
  refine g_aload_n 0 dX12_goals_5 rfl ?_
  refine g_iload_n 2 dX12_goals_6 rfl ?_
  refine g_putI fl_RX12_348 (Or.inl rfl) dX12_goals_7 (fun h2 => ?_)
  refine g_aload_n 0 dX12_goals_10 rfl ?_
  refine g_iconst (v := (-1)) dX12_goals_11 (by decide) ?_
  refine g_putI fl_RX12_351 (Or.inl rfl) dX12_goals_12 (fun h3 => ?_)
  exact g_vret rfl dX12_goals_15
set_option maxRecDepth 100000 in
noncomputable def f_X12_lists_128 (F : Nat) (K86 : Nat → Int32 → Int32 → Int32 → Hp → Option (Int32 × Hp)) (l0 : Nat) (l1 : Int32) (l6 : Int32) (l7 : Int32) (s0 : Int64) (s1 : Int32) (s2 : Nat) (h : Hp) : Option (Int32 × Hp) :=
  wL h s2 s1 s0 fun h23 => K86 l0 l1 l6 (l7 + 1) h23
set_option maxRecDepth 100000 in
set_option maxHeartbeats 4000000 in
theorem T_X12_lists_128 (F : Nat) {K86 : Nat → Int32 → Int32 → Int32 → Hp → Option (Int32 × Hp)} (hK86 : ∀ (l0 : Nat) (l1 : Int32) (l6 : Int32) (l7 : Int32) (h : Hp), G rvI I_X12_lists 9 86 [(0, .ref l0), (1, .int l1), (6, .int l6), (7, .int l7)] [] h (K86 l0 l1 l6 l7 h)) (l0 : Nat) (l1 : Int32) (l6 : Int32) (l7 : Int32) (s0 : Int64) (s1 : Int32) (s2 : Nat) (h : Hp) : G rvI I_X12_lists 9 128 [(0, .ref l0), (1, .int l1), (6, .int l6), (7, .int l7)] [.long s0, .int s1, .ref s2] h (f_X12_lists_128 F K86 l0 l1 l6 l7 s0 s1 s2 h) := by
  delta f_X12_lists_128
  refine g_last dX12_lists_128 (fun h23 => ?_)
  refine g_iinc (v' := l7 + 1) (lv' := [(7, .int (l7 + 1)), (0, .ref l0), (1, .int l1), (6, .int l6)]) 3 dX12_lists_129 rfl rfl (by decide) rfl ?_
  refine g_goto (tgt := 86) dX12_lists_132 (by decide) ?_
  refine G_lv [1, 2, 3, 0] rfl ?_
  exact hK86 l0 l1 l6 (l7 + 1) h23
set_option maxRecDepth 100000 in
noncomputable def f_X12_lists_86_b (F : Nat) (K86 : Nat → Int32 → Int32 → Int32 → Hp → Option (Int32 × Hp)) (l0 : Nat) (l1 : Int32) (l6 : Int32) (l7 : Int32) (h : Hp) : Option (Int32 × Hp) :=
  if l6 ≤ l7 then (some (l6, h)) else (gR 13 h l0 34 fun v19 => cV 13 h l0 (f_X12_moveAt F l0 l7 h) fun v20 h21 => if v20 = 99 then (f_X12_lists_128 F K86 l0 l1 l6 l7 (-1) ((40 * l1) + l7) v19 h21) else (cV 13 h21 l0 (f_X12_moveAt F l0 l7 h21) fun v24 h25 => f_X12_lists_128 F K86 l0 l1 l6 l7 (v24.toInt64) ((40 * l1) + l7) v19 h25))
set_option maxRecDepth 100000 in
set_option maxHeartbeats 4000000 in
theorem T_X12_lists_86_b (F : Nat) {K86 : Nat → Int32 → Int32 → Int32 → Hp → Option (Int32 × Hp)} (hK86 : ∀ (l0 : Nat) (l1 : Int32) (l6 : Int32) (l7 : Int32) (h : Hp), G rvI I_X12_lists 9 86 [(0, .ref l0), (1, .int l1), (6, .int l6), (7, .int l7)] [] h (K86 l0 l1 l6 l7 h)) (l0 : Nat) (l1 : Int32) (l6 : Int32) (l7 : Int32) (h : Hp) : G rvI I_X12_lists 9 86 [(0, .ref l0), (1, .int l1), (6, .int l6), (7, .int l7)] [] h (f_X12_lists_86_b F K86 l0 l1 l6 l7 h) := by
  delta f_X12_lists_86_b
  refine g_iload 3 dX12_lists_86 rfl ?_
  refine g_iload 2 dX12_lists_88 rfl ?_
  refine g_icmp_ge (tgt := 135) dX12_lists_90 (by decide) (fun c18 => ?_) (fun c18 => ?_)
  · refine g_iload 2 dX12_lists_135 rfl ?_
    exact g_iret rfl dX12_lists_137
  · refine g_aload_n 0 dX12_lists_93 rfl ?_
    refine g_getR fl_RX12_69 rfl dX12_lists_94 (fun v19 => ?_)
    refine g_bipush (v := 40) dX12_lists_97 (by decide) ?_
    refine g_iload_n 1 dX12_lists_99 rfl ?_
    refine g_imul dX12_lists_100 ?_
    refine g_iload 3 dX12_lists_101 rfl ?_
    refine g_iadd dX12_lists_103 ?_
    refine g_aload_n 0 dX12_lists_104 rfl ?_
    refine g_iload 3 dX12_lists_105 rfl ?_
    refine g_callVi (J := I_X12_moveAt) (t := 13) (As := [.int l7]) (rest := [.int ((40 * l1) + l7), .ref v19]) mjv_X12_moveAt ml_RX12_390 ⟨rfl, by decide, by decide⟩ (by decide) rfl rfl (Nat.le_of_ble_eq_true rfl) dX12_lists_107 (T_X12_moveAt F l0 l7 h) (fun v20 h21 => ?_)
    refine g_bipush (v := 99) dX12_lists_110 (by decide) ?_
    refine g_icmp_ne (tgt := 121) dX12_lists_112 (by decide) (fun c22 => ?_) (fun c22 => ?_)
    · refine g_ldc2 (v := (-1)) dX12_lists_115 cl_RX12_297 ?_
      refine g_goto (tgt := 128) dX12_lists_118 (by decide) ?_
      refine G_lv [0, 1, 2, 3] rfl ?_
      exact T_X12_lists_128 F hK86 l0 l1 l6 l7 (-1) ((40 * l1) + l7) v19 h21
    · refine g_aload_n 0 dX12_lists_121 rfl ?_
      refine g_iload 3 dX12_lists_122 rfl ?_
      refine g_callVi (J := I_X12_moveAt) (t := 13) (As := [.int l7]) (rest := [.int ((40 * l1) + l7), .ref v19]) mjv_X12_moveAt ml_RX12_390 ⟨rfl, by decide, by decide⟩ (by decide) rfl rfl (Nat.le_of_ble_eq_true rfl) dX12_lists_124 (T_X12_moveAt F l0 l7 h21) (fun v24 h25 => ?_)
      refine g_i2l dX12_lists_127 ?_
      refine G_lv [0, 1, 2, 3] rfl ?_
      exact T_X12_lists_128 F hK86 l0 l1 l6 l7 (v24.toInt64) ((40 * l1) + l7) v19 h25
set_option maxRecDepth 100000 in
noncomputable def f_X12_lists_86 (F : Nat) : Nat → Nat → Int32 → Int32 → Int32 → Hp → Option (Int32 × Hp)
  | 0, _, _, _, _, _ => none
  | n + 1, l0, l1, l6, l7, h => f_X12_lists_86_b F (f_X12_lists_86 F n) l0 l1 l6 l7 h
set_option maxRecDepth 100000 in
set_option maxHeartbeats 4000000 in
theorem T_X12_lists_86 (F : Nat) : ∀ (n : Nat) (l0 : Nat) (l1 : Int32) (l6 : Int32) (l7 : Int32) (h : Hp), G rvI I_X12_lists 9 86 [(0, .ref l0), (1, .int l1), (6, .int l6), (7, .int l7)] [] h (f_X12_lists_86 F n l0 l1 l6 l7 h) := by
  intro n
  induction n with
  | zero => intros; exact G_none
  | succ n ih => intro l0 l1 l6 l7 h; exact T_X12_lists_86_b F ih l0 l1 l6 l7 h
set_option maxRecDepth 100000 in
noncomputable def f_X12_lists_81 (F : Nat) (l0 : Nat) (l1 : Int32) (s0 : Int32) (h : Hp) : Option (Int32 × Hp) :=
  f_X12_lists_86 F F l0 l1 s0 0 h
set_option maxRecDepth 100000 in
set_option maxHeartbeats 4000000 in
theorem T_X12_lists_81 (F : Nat) (l0 : Nat) (l1 : Int32) (s0 : Int32) (h : Hp) : G rvI I_X12_lists 9 81 [(0, .ref l0), (1, .int l1)] [.int s0] h (f_X12_lists_81 F l0 l1 s0 h) := by
  delta f_X12_lists_81
  refine g_istore (lv' := [(6, .int s0), (0, .ref l0), (1, .int l1)]) dX12_lists_81 (by decide) rfl ?_
  refine g_iconst (v := 0) dX12_lists_83 (by decide) ?_
  refine g_istore (lv' := [(7, .int 0), (6, .int s0), (0, .ref l0), (1, .int l1)]) dX12_lists_84 (by decide) rfl ?_
  refine G_lv [2, 3, 1, 0] rfl ?_
  exact T_X12_lists_86 F F l0 l1 s0 0 h
set_option maxRecDepth 100000 in
noncomputable def f_X12_lists (F : Nat) (a0 : Nat) (a1 : Int32) (a2 : Int32) (a3 : Int32) (h : Hp) : Option (Int32 × Hp) :=
  pI 13 h a0 0 0 fun h1 => cV 13 h1 a0 (f_X12_noTray F a0 a1 h1) fun v2 h3 => if v2 = 0 then (cV 13 h3 a0 (f_X12_areSets F a0 a2 a3 h3) fun v5 h6 => if v5 = 0 then (some ((-3), h6)) else (cV 13 h6 a0 (f_X12_goals F a0 a2 a3 h6) fun v8 h9 => cV 13 h9 a0 (f_X12_laysStill F a0 511 0 h9) fun v10 h11 => if v10 = 268435456 then (some ((-5), h11)) else (gR 13 h11 a0 33 fun v13 => aI 20 h11 v13 a1 fun v14 => if v14 ≤ v10 then (gR 13 h11 a0 33 fun v16 => aI 20 h11 v16 a1 fun v17 => f_X12_lists_81 F a0 a1 v17 h11) else (f_X12_lists_81 F a0 a1 v10 h11)))) else (some (v2, h3))
set_option maxRecDepth 100000 in
set_option maxHeartbeats 4000000 in
theorem T_X12_lists (F : Nat) (a0 : Nat) (a1 : Int32) (a2 : Int32) (a3 : Int32) (h : Hp) : GM rvI I_X12_lists 9 [.ref a0, .int a1, .int a2, .int a3] h (f_X12_lists F a0 a1 a2 a3 h) := by
  delta f_X12_lists
  refine GM_of (lv := [(0, .ref a0), (1, .int a1), (2, .int a2), (3, .int a3)]) (by decide +kernel) (Nat.le_of_ble_eq_true rfl) rfl ?_
  refine g_aload_n 0 dX12_lists_0 rfl ?_
  refine g_iconst (v := 0) dX12_lists_1 (by decide) ?_
  refine g_putI fl_RX12_1 (Or.inl rfl) dX12_lists_2 (fun h1 => ?_)
  refine g_aload_n 0 dX12_lists_5 rfl ?_
  refine g_iload_n 1 dX12_lists_6 rfl ?_
  refine g_callVi (J := I_X12_noTray) (t := 13) (As := [.int a1]) (rest := []) mjv_X12_noTray ml_RX12_321 ⟨rfl, by decide, by decide⟩ (by decide) rfl rfl (Nat.le_of_ble_eq_true rfl) dX12_lists_7 (T_X12_noTray F a0 a1 h1) (fun v2 h3 => ?_)
  refine g_istore (lv' := [(4, .int v2), (0, .ref a0), (1, .int a1), (2, .int a2), (3, .int a3)]) dX12_lists_10 (by decide) rfl ?_
  refine g_iload 0 dX12_lists_12 rfl ?_
  refine g_if_eq (tgt := 20) dX12_lists_14 (by decide) (fun c4 => ?_) (fun c4 => ?_)
  · refine g_aload_n 1 dX12_lists_20 rfl ?_
    refine g_iload_n 3 dX12_lists_21 rfl ?_
    refine g_iload_n 4 dX12_lists_22 rfl ?_
    refine g_callVi (J := I_X12_areSets) (t := 13) (As := [.int a2, .int a3]) (rest := []) mjv_X12_areSets ml_RX12_375 ⟨rfl, by decide, by decide⟩ (by decide) rfl rfl (Nat.le_of_ble_eq_true rfl) dX12_lists_23 (T_X12_areSets F a0 a2 a3 h3) (fun v5 h6 => ?_)
    refine g_if_ne (tgt := 32) dX12_lists_26 (by decide) (fun c7 => ?_) (fun c7 => ?_)
    · refine g_bipush (v := (-3)) dX12_lists_29 (by decide) ?_
      exact g_iret rfl dX12_lists_31
    · refine g_aload_n 1 dX12_lists_32 rfl ?_
      refine g_iload_n 3 dX12_lists_33 rfl ?_
      refine g_iload_n 4 dX12_lists_34 rfl ?_
      refine g_callVv (J := I_X12_goals) (t := 13) (As := [.int a2, .int a3]) (rest := []) mjv_X12_goals ml_RX12_379 ⟨rfl, by decide, by decide⟩ (by decide) rfl rfl (Nat.le_of_ble_eq_true rfl) dX12_lists_35 (T_X12_goals F a0 a2 a3 h6) (fun v8 h9 => ?_)
      refine g_aload_n 1 dX12_lists_38 rfl ?_
      refine g_sipush (v := 511) dX12_lists_39 (by decide) ?_
      refine g_iconst (v := 0) dX12_lists_42 (by decide) ?_
      refine g_callVi (J := I_X12_laysStill) (t := 13) (As := [.int 511, .int 0]) (rest := []) mjv_X12_laysStill ml_RX12_383 ⟨rfl, by decide, by decide⟩ (by decide) rfl rfl (Nat.le_of_ble_eq_true rfl) dX12_lists_43 (T_X12_laysStill F a0 511 0 h9) (fun v10 h11 => ?_)
      refine g_istore (lv' := [(5, .int v10), (4, .int v2), (0, .ref a0), (1, .int a1), (2, .int a2), (3, .int a3)]) dX12_lists_46 (by decide) rfl ?_
      refine g_iload 0 dX12_lists_48 rfl ?_
      refine g_ldcw (v := 268435456) dX12_lists_50 co_RX12_357 ?_
      refine g_icmp_ne (tgt := 59) dX12_lists_53 (by decide) (fun c12 => ?_) (fun c12 => ?_)
      · refine g_bipush (v := (-5)) dX12_lists_56 (by decide) ?_
        exact g_iret rfl dX12_lists_58
      · refine g_iload 0 dX12_lists_59 rfl ?_
        refine g_aload_n 2 dX12_lists_61 rfl ?_
        refine g_getR fl_RX12_66 rfl dX12_lists_62 (fun v13 => ?_)
        refine g_iload_n 3 dX12_lists_65 rfl ?_
        refine g_iald dX12_lists_66 (fun v14 => ?_)
        refine g_icmp_ge (tgt := 75) dX12_lists_67 (by decide) (fun c15 => ?_) (fun c15 => ?_)
        · refine g_aload_n 2 dX12_lists_75 rfl ?_
          refine g_getR fl_RX12_66 rfl dX12_lists_76 (fun v16 => ?_)
          refine g_iload_n 3 dX12_lists_79 rfl ?_
          refine g_iald dX12_lists_80 (fun v17 => ?_)
          refine G_lv [2, 3] rfl ?_
          exact T_X12_lists_81 F a0 a1 v17 h11
        · refine g_iload 0 dX12_lists_70 rfl ?_
          refine g_goto (tgt := 81) dX12_lists_72 (by decide) ?_
          refine G_lv [2, 3] rfl ?_
          exact T_X12_lists_81 F a0 a1 v10 h11
  · refine g_iload 0 dX12_lists_17 rfl ?_
    exact g_iret rfl dX12_lists_19
set_option maxRecDepth 100000 in
noncomputable def f_X12_most_46 (F : Nat) (K16 : Nat → Int32 → Int32 → Hp → Option (Int32 × Hp)) (l0 : Nat) (l1 : Int32) (l2 : Int32) (h : Hp) : Option (Int32 × Hp) :=
  K16 l0 l1 (l2 + 1) h
set_option maxRecDepth 100000 in
set_option maxHeartbeats 4000000 in
theorem T_X12_most_46 (F : Nat) {K16 : Nat → Int32 → Int32 → Hp → Option (Int32 × Hp)} (hK16 : ∀ (l0 : Nat) (l1 : Int32) (l2 : Int32) (h : Hp), G rvI I_X12_most 8 16 [(0, .ref l0), (1, .int l1), (2, .int l2)] [] h (K16 l0 l1 l2 h)) (l0 : Nat) (l1 : Int32) (l2 : Int32) (h : Hp) : G rvI I_X12_most 8 46 [(0, .ref l0), (1, .int l1), (2, .int l2)] [] h (f_X12_most_46 F K16 l0 l1 l2 h) := by
  delta f_X12_most_46
  refine g_iinc (v' := l2 + 1) (lv' := [(2, .int (l2 + 1)), (0, .ref l0), (1, .int l1)]) 2 dX12_most_46 rfl rfl (by decide) rfl ?_
  refine g_goto (tgt := 16) dX12_most_49 (by decide) ?_
  refine G_lv [1, 2, 0] rfl ?_
  exact hK16 l0 l1 (l2 + 1) h
set_option maxRecDepth 100000 in
noncomputable def f_X12_most_16_b (F : Nat) (K16 : Nat → Int32 → Int32 → Hp → Option (Int32 × Hp)) (l0 : Nat) (l1 : Int32) (l2 : Int32) (h : Hp) : Option (Int32 × Hp) :=
  if 65536 ≤ l2 then (some (l1, h)) else (gR 13 h l0 21 fun v5 => aI 22 h v5 l2 fun v6 => if v6 = 0 then (f_X12_most_46 F K16 l0 l1 l2 h) else (cV 13 h l0 (f_X12_doesBoth F l0 l2 h) fun v8 h9 => if v8 ≤ l1 then (f_X12_most_46 F K16 l0 l1 l2 h9) else (cV 13 h9 l0 (f_X12_doesBoth F l0 l2 h9) fun v11 h12 => f_X12_most_46 F K16 l0 v11 l2 h12)))
set_option maxRecDepth 100000 in
set_option maxHeartbeats 4000000 in
theorem T_X12_most_16_b (F : Nat) {K16 : Nat → Int32 → Int32 → Hp → Option (Int32 × Hp)} (hK16 : ∀ (l0 : Nat) (l1 : Int32) (l2 : Int32) (h : Hp), G rvI I_X12_most 8 16 [(0, .ref l0), (1, .int l1), (2, .int l2)] [] h (K16 l0 l1 l2 h)) (l0 : Nat) (l1 : Int32) (l2 : Int32) (h : Hp) : G rvI I_X12_most 8 16 [(0, .ref l0), (1, .int l1), (2, .int l2)] [] h (f_X12_most_16_b F K16 l0 l1 l2 h) := by
  delta f_X12_most_16_b
  refine g_iload_n 2 dX12_most_16 rfl ?_
  refine g_ldc (v := 65536) dX12_most_17 co_RX12_39 ?_
  refine g_icmp_ge (tgt := 52) dX12_most_19 (by decide) (fun c4 => ?_) (fun c4 => ?_)
  · refine g_iload_n 1 dX12_most_52 rfl ?_
    exact g_iret rfl dX12_most_53
  · refine g_aload_n 0 dX12_most_22 rfl ?_
    refine g_getR fl_RX12_40 rfl dX12_most_23 (fun v5 => ?_)
    refine g_iload_n 2 dX12_most_26 rfl ?_
    refine g_zald dX12_most_27 (fun v6 => ?_)
    refine g_if_eq (tgt := 46) dX12_most_28 (by decide) (fun c7 => ?_) (fun c7 => ?_)
    · refine G_lv [0, 1, 2] rfl ?_
      exact T_X12_most_46 F hK16 l0 l1 l2 h
    · refine g_aload_n 0 dX12_most_31 rfl ?_
      refine g_iload_n 2 dX12_most_32 rfl ?_
      refine g_callVi (J := I_X12_doesBoth) (t := 13) (As := [.int l2]) (rest := []) mjv_X12_doesBoth ml_RX12_287 ⟨rfl, by decide, by decide⟩ (by decide) rfl rfl (Nat.le_of_ble_eq_true rfl) dX12_most_33 (T_X12_doesBoth F l0 l2 h) (fun v8 h9 => ?_)
      refine g_iload_n 1 dX12_most_36 rfl ?_
      refine g_icmp_le (tgt := 46) dX12_most_37 (by decide) (fun c10 => ?_) (fun c10 => ?_)
      · refine G_lv [0, 1, 2] rfl ?_
        exact T_X12_most_46 F hK16 l0 l1 l2 h9
      · refine g_aload_n 0 dX12_most_40 rfl ?_
        refine g_iload_n 2 dX12_most_41 rfl ?_
        refine g_callVi (J := I_X12_doesBoth) (t := 13) (As := [.int l2]) (rest := []) mjv_X12_doesBoth ml_RX12_287 ⟨rfl, by decide, by decide⟩ (by decide) rfl rfl (Nat.le_of_ble_eq_true rfl) dX12_most_42 (T_X12_doesBoth F l0 l2 h9) (fun v11 h12 => ?_)
        refine g_istore_n (lv' := [(1, .int v11), (0, .ref l0), (2, .int l2)]) dX12_most_45 (by decide) rfl ?_
        refine G_lv [1, 0, 2] rfl ?_
        exact T_X12_most_46 F hK16 l0 v11 l2 h12
set_option maxRecDepth 100000 in
noncomputable def f_X12_most_16 (F : Nat) : Nat → Nat → Int32 → Int32 → Hp → Option (Int32 × Hp)
  | 0, _, _, _, _ => none
  | n + 1, l0, l1, l2, h => f_X12_most_16_b F (f_X12_most_16 F n) l0 l1 l2 h
set_option maxRecDepth 100000 in
set_option maxHeartbeats 4000000 in
theorem T_X12_most_16 (F : Nat) : ∀ (n : Nat) (l0 : Nat) (l1 : Int32) (l2 : Int32) (h : Hp), G rvI I_X12_most 8 16 [(0, .ref l0), (1, .int l1), (2, .int l2)] [] h (f_X12_most_16 F n l0 l1 l2 h) := by
  intro n
  induction n with
  | zero => intros; exact G_none
  | succ n ih => intro l0 l1 l2 h; exact T_X12_most_16_b F ih l0 l1 l2 h
set_option maxRecDepth 100000 in
noncomputable def f_X12_most (F : Nat) (a0 : Nat) (h : Hp) : Option (Int32 × Hp) :=
  pI 13 h a0 0 0 fun h1 => cV 13 h1 a0 (f_X12_laysReached F a0 511 h1) fun v2 h3 => f_X12_most_16 F F a0 0 0 h3
set_option maxRecDepth 100000 in
set_option maxHeartbeats 4000000 in
theorem T_X12_most (F : Nat) (a0 : Nat) (h : Hp) : GM rvI I_X12_most 8 [.ref a0] h (f_X12_most F a0 h) := by
  delta f_X12_most
  refine GM_of (lv := [(0, .ref a0)]) (by decide +kernel) (Nat.le_of_ble_eq_true rfl) rfl ?_
  refine g_aload_n 0 dX12_most_0 rfl ?_
  refine g_iconst (v := 0) dX12_most_1 (by decide) ?_
  refine g_putI fl_RX12_1 (Or.inl rfl) dX12_most_2 (fun h1 => ?_)
  refine g_aload_n 0 dX12_most_5 rfl ?_
  refine g_sipush (v := 511) dX12_most_6 (by decide) ?_
  refine g_callVv (J := I_X12_laysReached) (t := 13) (As := [.int 511]) (rest := []) mjv_X12_laysReached ml_RX12_358 ⟨rfl, by decide, by decide⟩ (by decide) rfl rfl (Nat.le_of_ble_eq_true rfl) dX12_most_9 (T_X12_laysReached F a0 511 h1) (fun v2 h3 => ?_)
  refine g_iconst (v := 0) dX12_most_12 (by decide) ?_
  refine g_istore_n (lv' := [(1, .int 0), (0, .ref a0)]) dX12_most_13 (by decide) rfl ?_
  refine g_iconst (v := 0) dX12_most_14 (by decide) ?_
  refine g_istore_n (lv' := [(2, .int 0), (1, .int 0), (0, .ref a0)]) dX12_most_15 (by decide) rfl ?_
  refine G_lv [2, 1, 0] rfl ?_
  exact T_X12_most_16 F F a0 0 0 h3
set_option maxRecDepth 100000 in
noncomputable def f_X12_needed_94 (F : Nat) (K44 : Nat → Int32 → Int32 → Hp → Option (Int32 × Hp)) (l0 : Nat) (l4 : Int32) (s0 : Int32) (s1 : Int32) (h : Hp) : Option (Int32 × Hp) :=
  lt (s1 ||| s0) fun x16 => K44 l0 x16 (l4 + 1) h
set_option maxRecDepth 100000 in
set_option maxHeartbeats 4000000 in
theorem T_X12_needed_94 (F : Nat) {K44 : Nat → Int32 → Int32 → Hp → Option (Int32 × Hp)} (hK44 : ∀ (l0 : Nat) (l3 : Int32) (l4 : Int32) (h : Hp), G rvI I_X12_needed 9 44 [(0, .ref l0), (3, .int l3), (4, .int l4)] [] h (K44 l0 l3 l4 h)) (l0 : Nat) (l4 : Int32) (s0 : Int32) (s1 : Int32) (h : Hp) : G rvI I_X12_needed 9 94 [(0, .ref l0), (4, .int l4)] [.int s0, .int s1] h (f_X12_needed_94 F K44 l0 l4 s0 s1 h) := by
  delta f_X12_needed_94
  refine g_ior dX12_needed_94 ?_
  refine G_lti (fun x16 => ?_)
  refine g_istore_n (lv' := [(3, .int x16), (0, .ref l0), (4, .int l4)]) dX12_needed_95 (by decide) rfl ?_
  refine g_iinc (v' := l4 + 1) (lv' := [(4, .int (l4 + 1)), (3, .int x16), (0, .ref l0)]) 2 dX12_needed_96 rfl rfl (by decide) rfl ?_
  refine g_goto (tgt := 44) dX12_needed_99 (by decide) ?_
  refine G_lv [2, 1, 0] rfl ?_
  exact hK44 l0 x16 (l4 + 1) h
set_option maxRecDepth 100000 in
noncomputable def f_X12_needed_44_b (F : Nat) (K44 : Nat → Int32 → Int32 → Hp → Option (Int32 × Hp)) (l0 : Nat) (l3 : Int32) (l4 : Int32) (h : Hp) : Option (Int32 × Hp) :=
  gR 13 h l0 1 fun v10 => aI 20 h v10 1 fun v11 => if v11 ≤ l4 then (some (l3, h)) else (cV 13 h l0 (f_X12_laysStill F l0 ((511 &&& (((1 : Int32) <<< (l4 &&& 31)) ^^^ (-1))) &&& (((1 : Int32) <<< ((4 + l4) &&& 31)) ^^^ (-1))) 0 h) fun v13 h14 => if v13 = 268435456 then (f_X12_needed_94 F K44 l0 l4 ((1 : Int32) <<< (l4 &&& 31)) l3 h14) else (f_X12_needed_94 F K44 l0 l4 0 l3 h14))
set_option maxRecDepth 100000 in
set_option maxHeartbeats 4000000 in
theorem T_X12_needed_44_b (F : Nat) {K44 : Nat → Int32 → Int32 → Hp → Option (Int32 × Hp)} (hK44 : ∀ (l0 : Nat) (l3 : Int32) (l4 : Int32) (h : Hp), G rvI I_X12_needed 9 44 [(0, .ref l0), (3, .int l3), (4, .int l4)] [] h (K44 l0 l3 l4 h)) (l0 : Nat) (l3 : Int32) (l4 : Int32) (h : Hp) : G rvI I_X12_needed 9 44 [(0, .ref l0), (3, .int l3), (4, .int l4)] [] h (f_X12_needed_44_b F K44 l0 l3 l4 h) := by
  delta f_X12_needed_44_b
  refine g_iload 2 dX12_needed_44 rfl ?_
  refine g_aload_n 0 dX12_needed_46 rfl ?_
  refine g_getR fl_RX12_13 rfl dX12_needed_47 (fun v10 => ?_)
  refine g_iconst (v := 1) dX12_needed_50 (by decide) ?_
  refine g_iald dX12_needed_51 (fun v11 => ?_)
  refine g_icmp_ge (tgt := 102) dX12_needed_52 (by decide) (fun c12 => ?_) (fun c12 => ?_)
  · refine g_iload_n 1 dX12_needed_102 rfl ?_
    exact g_iret rfl dX12_needed_103
  · refine g_iload_n 1 dX12_needed_55 rfl ?_
    refine g_aload_n 0 dX12_needed_56 rfl ?_
    refine g_sipush (v := 511) dX12_needed_57 (by decide) ?_
    refine g_iconst (v := 1) dX12_needed_60 (by decide) ?_
    refine g_iload 2 dX12_needed_61 rfl ?_
    refine g_ishl dX12_needed_63 ?_
    refine g_iconst (v := (-1)) dX12_needed_64 (by decide) ?_
    refine g_ixor dX12_needed_65 ?_
    refine g_iand dX12_needed_66 ?_
    refine g_iconst (v := 1) dX12_needed_67 (by decide) ?_
    refine g_iconst (v := 4) dX12_needed_68 (by decide) ?_
    refine g_iload 2 dX12_needed_69 rfl ?_
    refine g_iadd dX12_needed_71 ?_
    refine g_ishl dX12_needed_72 ?_
    refine g_iconst (v := (-1)) dX12_needed_73 (by decide) ?_
    refine g_ixor dX12_needed_74 ?_
    refine g_iand dX12_needed_75 ?_
    refine g_iconst (v := 0) dX12_needed_76 (by decide) ?_
    refine g_callVi (J := I_X12_laysStill) (t := 13) (As := [.int ((511 &&& (((1 : Int32) <<< (l4 &&& 31)) ^^^ (-1))) &&& (((1 : Int32) <<< ((4 + l4) &&& 31)) ^^^ (-1))), .int 0]) (rest := [.int l3]) mjv_X12_laysStill ml_RX12_383 ⟨rfl, by decide, by decide⟩ (by decide) rfl rfl (Nat.le_of_ble_eq_true rfl) dX12_needed_77 (T_X12_laysStill F l0 ((511 &&& (((1 : Int32) <<< (l4 &&& 31)) ^^^ (-1))) &&& (((1 : Int32) <<< ((4 + l4) &&& 31)) ^^^ (-1))) 0 h) (fun v13 h14 => ?_)
    refine g_ldcw (v := 268435456) dX12_needed_80 co_RX12_357 ?_
    refine g_icmp_ne (tgt := 93) dX12_needed_83 (by decide) (fun c15 => ?_) (fun c15 => ?_)
    · refine g_iconst (v := 1) dX12_needed_86 (by decide) ?_
      refine g_iload 2 dX12_needed_87 rfl ?_
      refine g_ishl dX12_needed_89 ?_
      refine g_goto (tgt := 94) dX12_needed_90 (by decide) ?_
      refine G_lv [0, 2] rfl ?_
      exact T_X12_needed_94 F hK44 l0 l4 ((1 : Int32) <<< (l4 &&& 31)) l3 h14
    · refine g_iconst (v := 0) dX12_needed_93 (by decide) ?_
      refine G_lv [0, 2] rfl ?_
      exact T_X12_needed_94 F hK44 l0 l4 0 l3 h14
set_option maxRecDepth 100000 in
noncomputable def f_X12_needed_44 (F : Nat) : Nat → Nat → Int32 → Int32 → Hp → Option (Int32 × Hp)
  | 0, _, _, _, _ => none
  | n + 1, l0, l3, l4, h => f_X12_needed_44_b F (f_X12_needed_44 F n) l0 l3 l4 h
set_option maxRecDepth 100000 in
set_option maxHeartbeats 4000000 in
theorem T_X12_needed_44 (F : Nat) : ∀ (n : Nat) (l0 : Nat) (l3 : Int32) (l4 : Int32) (h : Hp), G rvI I_X12_needed 9 44 [(0, .ref l0), (3, .int l3), (4, .int l4)] [] h (f_X12_needed_44 F n l0 l3 l4 h) := by
  intro n
  induction n with
  | zero => intros; exact G_none
  | succ n ih => intro l0 l3 l4 h; exact T_X12_needed_44_b F ih l0 l3 l4 h
set_option maxRecDepth 100000 in
noncomputable def f_X12_needed (F : Nat) (a0 : Nat) (a1 : Int32) (a2 : Int32) (h : Hp) : Option (Int32 × Hp) :=
  pI 13 h a0 0 0 fun h1 => cV 13 h1 a0 (f_X12_areSets F a0 a1 a2 h1) fun v2 h3 => if v2 = 0 then (some ((-3), h3)) else (cV 13 h3 a0 (f_X12_goals F a0 a1 a2 h3) fun v5 h6 => cV 13 h6 a0 (f_X12_laysStill F a0 511 0 h6) fun v7 h8 => if v7 = 268435456 then (some (0, h8)) else (f_X12_needed_44 F F a0 0 0 h8))
set_option maxRecDepth 100000 in
set_option maxHeartbeats 4000000 in
theorem T_X12_needed (F : Nat) (a0 : Nat) (a1 : Int32) (a2 : Int32) (h : Hp) : GM rvI I_X12_needed 9 [.ref a0, .int a1, .int a2] h (f_X12_needed F a0 a1 a2 h) := by
  delta f_X12_needed
  refine GM_of (lv := [(0, .ref a0), (1, .int a1), (2, .int a2)]) (by decide +kernel) (Nat.le_of_ble_eq_true rfl) rfl ?_
  refine g_aload_n 0 dX12_needed_0 rfl ?_
  refine g_iconst (v := 0) dX12_needed_1 (by decide) ?_
  refine g_putI fl_RX12_1 (Or.inl rfl) dX12_needed_2 (fun h1 => ?_)
  refine g_aload_n 0 dX12_needed_5 rfl ?_
  refine g_iload_n 1 dX12_needed_6 rfl ?_
  refine g_iload_n 2 dX12_needed_7 rfl ?_
  refine g_callVi (J := I_X12_areSets) (t := 13) (As := [.int a1, .int a2]) (rest := []) mjv_X12_areSets ml_RX12_375 ⟨rfl, by decide, by decide⟩ (by decide) rfl rfl (Nat.le_of_ble_eq_true rfl) dX12_needed_8 (T_X12_areSets F a0 a1 a2 h1) (fun v2 h3 => ?_)
  refine g_if_ne (tgt := 17) dX12_needed_11 (by decide) (fun c4 => ?_) (fun c4 => ?_)
  · refine g_bipush (v := (-3)) dX12_needed_14 (by decide) ?_
    exact g_iret rfl dX12_needed_16
  · refine g_aload_n 0 dX12_needed_17 rfl ?_
    refine g_iload_n 1 dX12_needed_18 rfl ?_
    refine g_iload_n 2 dX12_needed_19 rfl ?_
    refine g_callVv (J := I_X12_goals) (t := 13) (As := [.int a1, .int a2]) (rest := []) mjv_X12_goals ml_RX12_379 ⟨rfl, by decide, by decide⟩ (by decide) rfl rfl (Nat.le_of_ble_eq_true rfl) dX12_needed_20 (T_X12_goals F a0 a1 a2 h3) (fun v5 h6 => ?_)
    refine g_iconst (v := 0) dX12_needed_23 (by decide) ?_
    refine g_istore_n (lv' := [(3, .int 0), (0, .ref a0), (1, .int a1), (2, .int a2)]) dX12_needed_24 (by decide) rfl ?_
    refine g_aload_n 1 dX12_needed_25 rfl ?_
    refine g_sipush (v := 511) dX12_needed_26 (by decide) ?_
    refine g_iconst (v := 0) dX12_needed_29 (by decide) ?_
    refine g_callVi (J := I_X12_laysStill) (t := 13) (As := [.int 511, .int 0]) (rest := []) mjv_X12_laysStill ml_RX12_383 ⟨rfl, by decide, by decide⟩ (by decide) rfl rfl (Nat.le_of_ble_eq_true rfl) dX12_needed_30 (T_X12_laysStill F a0 511 0 h6) (fun v7 h8 => ?_)
    refine g_ldcw (v := 268435456) dX12_needed_33 co_RX12_357 ?_
    refine g_icmp_ne (tgt := 41) dX12_needed_36 (by decide) (fun c9 => ?_) (fun c9 => ?_)
    · refine g_iload_n 0 dX12_needed_39 rfl ?_
      exact g_iret rfl dX12_needed_40
    · refine g_iconst (v := 0) dX12_needed_41 (by decide) ?_
      refine g_istore (lv' := [(4, .int 0), (3, .int 0), (0, .ref a0), (1, .int a1), (2, .int a2)]) dX12_needed_42 (by decide) rfl ?_
      refine G_lv [2, 1, 0] rfl ?_
      exact T_X12_needed_44 F F a0 0 0 h8
set_option maxRecDepth 100000 in
noncomputable def f_X12_numbers_64_b (F : Nat) (K64 : Nat → Int32 → Int32 → Int32 → Hp → Option (Int32 × Hp)) (l0 : Nat) (l1 : Int32) (l3 : Int32) (l4 : Int32) (h : Hp) : Option (Int32 × Hp) :=
  if l3 ≤ l4 then (some (0, h)) else (gR 13 h l0 34 fun v16 => wL h v16 ((40 * l1) + l4) 0 fun h17 => K64 l0 l1 l3 (l4 + 1) h17)
set_option maxRecDepth 100000 in
set_option maxHeartbeats 4000000 in
theorem T_X12_numbers_64_b (F : Nat) {K64 : Nat → Int32 → Int32 → Int32 → Hp → Option (Int32 × Hp)} (hK64 : ∀ (l0 : Nat) (l1 : Int32) (l3 : Int32) (l4 : Int32) (h : Hp), G rvI I_X12_numbers 2 64 [(0, .ref l0), (1, .int l1), (3, .int l3), (4, .int l4)] [] h (K64 l0 l1 l3 l4 h)) (l0 : Nat) (l1 : Int32) (l3 : Int32) (l4 : Int32) (h : Hp) : G rvI I_X12_numbers 2 64 [(0, .ref l0), (1, .int l1), (3, .int l3), (4, .int l4)] [] h (f_X12_numbers_64_b F K64 l0 l1 l3 l4 h) := by
  delta f_X12_numbers_64_b
  refine g_iload 3 dX12_numbers_64 rfl ?_
  refine g_iload_n 2 dX12_numbers_66 rfl ?_
  refine g_icmp_ge (tgt := 89) dX12_numbers_67 (by decide) (fun c15 => ?_) (fun c15 => ?_)
  · refine g_iconst (v := 0) dX12_numbers_89 (by decide) ?_
    exact g_iret rfl dX12_numbers_90
  · refine g_aload_n 0 dX12_numbers_70 rfl ?_
    refine g_getR fl_RX12_69 rfl dX12_numbers_71 (fun v16 => ?_)
    refine g_bipush (v := 40) dX12_numbers_74 (by decide) ?_
    refine g_iload_n 1 dX12_numbers_76 rfl ?_
    refine g_imul dX12_numbers_77 ?_
    refine g_iload 3 dX12_numbers_78 rfl ?_
    refine g_iadd dX12_numbers_80 ?_
    refine g_lconst (v := 0) dX12_numbers_81 (by decide) ?_
    refine g_last dX12_numbers_82 (fun h17 => ?_)
    refine g_iinc (v' := l4 + 1) (lv' := [(4, .int (l4 + 1)), (0, .ref l0), (1, .int l1), (3, .int l3)]) 3 dX12_numbers_83 rfl rfl (by decide) rfl ?_
    refine g_goto (tgt := 64) dX12_numbers_86 (by decide) ?_
    refine G_lv [1, 2, 3, 0] rfl ?_
    exact hK64 l0 l1 l3 (l4 + 1) h17
set_option maxRecDepth 100000 in
noncomputable def f_X12_numbers_64 (F : Nat) : Nat → Nat → Int32 → Int32 → Int32 → Hp → Option (Int32 × Hp)
  | 0, _, _, _, _, _ => none
  | n + 1, l0, l1, l3, l4, h => f_X12_numbers_64_b F (f_X12_numbers_64 F n) l0 l1 l3 l4 h
set_option maxRecDepth 100000 in
set_option maxHeartbeats 4000000 in
theorem T_X12_numbers_64 (F : Nat) : ∀ (n : Nat) (l0 : Nat) (l1 : Int32) (l3 : Int32) (l4 : Int32) (h : Hp), G rvI I_X12_numbers 2 64 [(0, .ref l0), (1, .int l1), (3, .int l3), (4, .int l4)] [] h (f_X12_numbers_64 F n l0 l1 l3 l4 h) := by
  intro n
  induction n with
  | zero => intros; exact G_none
  | succ n ih => intro l0 l1 l3 l4 h; exact T_X12_numbers_64_b F ih l0 l1 l3 l4 h
set_option maxRecDepth 100000 in
noncomputable def f_X12_numbers (F : Nat) (a0 : Nat) (a1 : Int32) (a2 : Int32) (a3 : Int32) (h : Hp) : Option (Int32 × Hp) :=
  pI 13 h a0 0 0 fun h1 => bd (f_X12_within F (a1.toInt64) 0 3 h1) fun v2 h3 => if v2 = 0 then (some ((-2), h3)) else (bd (f_X12_within F (a2.toInt64) 0 3 h3) fun v5 h6 => if v5 = 0 then (some ((-2), h6)) else (bd (f_X12_within F (a3.toInt64) 0 40 h6) fun v8 h9 => if v8 = 0 then (some ((-3), h9)) else (gR 13 h9 a0 32 fun v11 => wI h9 v11 a1 a2 fun h12 => gR 13 h12 a0 33 fun v13 => wI h12 v13 a1 a3 fun h14 => f_X12_numbers_64 F F a0 a1 a3 0 h14)))
set_option maxRecDepth 100000 in
set_option maxHeartbeats 4000000 in
theorem T_X12_numbers (F : Nat) (a0 : Nat) (a1 : Int32) (a2 : Int32) (a3 : Int32) (h : Hp) : GM rvI I_X12_numbers 2 [.ref a0, .int a1, .int a2, .int a3] h (f_X12_numbers F a0 a1 a2 a3 h) := by
  delta f_X12_numbers
  refine GM_of (lv := [(0, .ref a0), (1, .int a1), (2, .int a2), (3, .int a3)]) (by decide +kernel) (Nat.le_of_ble_eq_true rfl) rfl ?_
  refine g_aload_n 0 dX12_numbers_0 rfl ?_
  refine g_iconst (v := 0) dX12_numbers_1 (by decide) ?_
  refine g_putI fl_RX12_1 (Or.inl rfl) dX12_numbers_2 (fun h1 => ?_)
  refine g_iload_n 1 dX12_numbers_5 rfl ?_
  refine g_i2l dX12_numbers_6 ?_
  refine g_lconst (v := 0) dX12_numbers_7 (by decide) ?_
  refine g_ldc2 (v := 3) dX12_numbers_8 cl_RX12_319 ?_
  refine g_callSi (J := I_X12_within) (As := [.long (a1.toInt64), .long 0, .long 3]) (rest := []) mjs_X12_within ml_RX12_138 (by decide) rfl rfl (Nat.le_of_ble_eq_true rfl) dX12_numbers_11 (T_X12_within F (a1.toInt64) 0 3 h1) (fun v2 h3 => ?_)
  refine g_if_eq (tgt := 29) dX12_numbers_14 (by decide) (fun c4 => ?_) (fun c4 => ?_)
  · refine g_bipush (v := (-2)) dX12_numbers_29 (by decide) ?_
    exact g_iret rfl dX12_numbers_31
  · refine g_iload_n 2 dX12_numbers_17 rfl ?_
    refine g_i2l dX12_numbers_18 ?_
    refine g_lconst (v := 0) dX12_numbers_19 (by decide) ?_
    refine g_ldc2 (v := 3) dX12_numbers_20 cl_RX12_319 ?_
    refine g_callSi (J := I_X12_within) (As := [.long (a2.toInt64), .long 0, .long 3]) (rest := []) mjs_X12_within ml_RX12_138 (by decide) rfl rfl (Nat.le_of_ble_eq_true rfl) dX12_numbers_23 (T_X12_within F (a2.toInt64) 0 3 h3) (fun v5 h6 => ?_)
    refine g_if_ne (tgt := 32) dX12_numbers_26 (by decide) (fun c7 => ?_) (fun c7 => ?_)
    · refine g_bipush (v := (-2)) dX12_numbers_29 (by decide) ?_
      exact g_iret rfl dX12_numbers_31
    · refine g_iload_n 3 dX12_numbers_32 rfl ?_
      refine g_i2l dX12_numbers_33 ?_
      refine g_lconst (v := 0) dX12_numbers_34 (by decide) ?_
      refine g_ldc2 (v := 40) dX12_numbers_35 cl_RX12_337 ?_
      refine g_callSi (J := I_X12_within) (As := [.long (a3.toInt64), .long 0, .long 40]) (rest := []) mjs_X12_within ml_RX12_138 (by decide) rfl rfl (Nat.le_of_ble_eq_true rfl) dX12_numbers_38 (T_X12_within F (a3.toInt64) 0 40 h6) (fun v8 h9 => ?_)
      refine g_if_ne (tgt := 47) dX12_numbers_41 (by decide) (fun c10 => ?_) (fun c10 => ?_)
      · refine g_bipush (v := (-3)) dX12_numbers_44 (by decide) ?_
        exact g_iret rfl dX12_numbers_46
      · refine g_aload_n 0 dX12_numbers_47 rfl ?_
        refine g_getR fl_RX12_63 rfl dX12_numbers_48 (fun v11 => ?_)
        refine g_iload_n 1 dX12_numbers_51 rfl ?_
        refine g_iload_n 2 dX12_numbers_52 rfl ?_
        refine g_iast dX12_numbers_53 (fun h12 => ?_)
        refine g_aload_n 0 dX12_numbers_54 rfl ?_
        refine g_getR fl_RX12_66 rfl dX12_numbers_55 (fun v13 => ?_)
        refine g_iload_n 1 dX12_numbers_58 rfl ?_
        refine g_iload_n 3 dX12_numbers_59 rfl ?_
        refine g_iast dX12_numbers_60 (fun h14 => ?_)
        refine g_iconst (v := 0) dX12_numbers_61 (by decide) ?_
        refine g_istore (lv' := [(4, .int 0), (0, .ref a0), (1, .int a1), (2, .int a2), (3, .int a3)]) dX12_numbers_62 (by decide) rfl ?_
        refine G_lv [1, 2, 4, 0] rfl ?_
        exact T_X12_numbers_64 F F a0 a1 a3 0 h14
