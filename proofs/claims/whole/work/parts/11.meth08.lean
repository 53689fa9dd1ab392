/-! L2, by program (wip/whole/gen/gen.py) -/
set_option maxRecDepth 100000 in
noncomputable def f_X5_advance_139 (F : Nat) (l0 : Nat) (h : Hp) : Option (Unit × Hp) :=
  gI 6 h l0 6 fun v9 => if v9 = 1 then (cV 6 h l0 (f_X5_fail F l0 1 h) fun v11 h12 => some ((), h12)) else (some ((), h))
set_option maxRecDepth 100000 in
set_option maxHeartbeats 4000000 in
theorem T_X5_advance_139 (F : Nat) (l0 : Nat) (h : Hp) : G rvV I_X5_advance 6 139 [(0, .ref l0)] [] h (f_X5_advance_139 F l0 h) := by
  delta f_X5_advance_139
  refine g_aload_n 0 dX5_advance_139 rfl ?_
  refine g_getI fl_RX5_61 rfl dX5_advance_140 (fun v9 => ?_)
  refine g_iconst (v := 1) dX5_advance_143 (by decide) ?_
  refine g_icmp_ne (tgt := 152) dX5_advance_144 (by decide) (fun c10 => ?_) (fun c10 => ?_)
  · refine g_aload_n 0 dX5_advance_147 rfl ?_
    refine g_iconst (v := 1) dX5_advance_148 (by decide) ?_
    refine g_callVv (J := I_X5_fail) (t := 6) (As := [.int 1]) (rest := []) mjv_X5_fail ml_RX5_77 ⟨rfl, by decide, by decide⟩ (by decide) rfl rfl (Nat.le_of_ble_eq_true rfl) dX5_advance_149 (T_X5_fail F l0 1 h) (fun v11 h12 => ?_)
    exact g_vret rfl dX5_advance_152
  · exact g_vret rfl dX5_advance_152
set_option maxRecDepth 100000 in
noncomputable def f_X5_advance_136 (F : Nat) (l0 : Nat) (s0 : Int32) (s1 : Nat) (h : Hp) : Option (Unit × Hp) :=
  pI 6 h s1 6 s0 fun h21 => f_X5_advance_139 F l0 h21
set_option maxRecDepth 100000 in
set_option maxHeartbeats 4000000 in
theorem T_X5_advance_136 (F : Nat) (l0 : Nat) (s0 : Int32) (s1 : Nat) (h : Hp) : G rvV I_X5_advance 6 136 [(0, .ref l0)] [.int s0, .ref s1] h (f_X5_advance_136 F l0 s0 s1 h) := by
  delta f_X5_advance_136
  refine g_putI fl_RX5_61 (Or.inl rfl) dX5_advance_136 (fun h21 => ?_)
  refine G_lv [0] rfl ?_
  exact T_X5_advance_139 F l0 h21
set_option maxRecDepth 100000 in
noncomputable def f_X5_advance_109 (F : Nat) (l0 : Nat) (l1 : Int32) (l2 : Int32) (h : Hp) : Option (Unit × Hp) :=
  pI 6 h l0 5 (l1 + 1) fun h17 => cV 14 h17 (hp_k h17 1) (f_J0_indexOf_0f7a4 F (hp_k h17 1) ((((l2 &&& 255) : Int32).toUInt32 % 65536).toInt32) h17) fun v18 h19 => if v18 < 0 then (f_X5_advance_136 F l0 1 l0 h19) else (f_X5_advance_136 F l0 l2 l0 h19)
set_option maxRecDepth 100000 in
set_option maxHeartbeats 4000000 in
theorem T_X5_advance_109 (F : Nat) (l0 : Nat) (l1 : Int32) (l2 : Int32) (h : Hp) : G rvV I_X5_advance 6 109 [(0, .ref l0), (1, .int l1), (2, .int l2)] [] h (f_X5_advance_109 F l0 l1 l2 h) := by
  delta f_X5_advance_109
  refine g_aload_n 0 dX5_advance_109 rfl ?_
  refine g_iload_n 1 dX5_advance_110 rfl ?_
  refine g_iconst (v := 1) dX5_advance_111 (by decide) ?_
  refine g_iadd dX5_advance_112 ?_
  refine g_putI fl_RX5_42 (Or.inl rfl) dX5_advance_113 (fun h17 => ?_)
  refine g_aload_n 0 dX5_advance_116 rfl ?_
  refine g_ldcS 1 (by decide) rfl dX5_advance_117 ?_
  refine g_iload_n 2 dX5_advance_119 rfl ?_
  refine g_sipush (v := 255) dX5_advance_120 (by decide) ?_
  refine g_iand dX5_advance_123 ?_
  refine g_i2c dX5_advance_124 ?_
  refine g_callVSi (J := I_J0_indexOf_0f7a4) (As := [.int ((((l2 &&& 255) : Int32).toUInt32 % 65536).toInt32)]) (rest := [.ref l0]) mjv_J0_indexOf_0f7a4 ml_RX5_91 rfl (by decide) rfl rfl (Nat.le_of_ble_eq_true rfl) dX5_advance_125 (T_J0_indexOf_0f7a4 F (hp_k h17 1) ((((l2 &&& 255) : Int32).toUInt32 % 65536).toInt32) h17) (fun v18 h19 => ?_)
  refine g_if_lt (tgt := 135) dX5_advance_128 (by decide) (fun c20 => ?_) (fun c20 => ?_)
  · refine g_iconst (v := 1) dX5_advance_135 (by decide) ?_
    refine G_lv [0] rfl ?_
    exact T_X5_advance_136 F l0 1 l0 h19
  · refine g_iload_n 2 dX5_advance_131 rfl ?_
    refine g_goto (tgt := 136) dX5_advance_132 (by decide) ?_
    refine G_lv [0] rfl ?_
    exact T_X5_advance_136 F l0 l2 l0 h19
set_option maxRecDepth 100000 in
noncomputable def f_X5_advance_90 (F : Nat) (l0 : Nat) (l1 : Int32) (l2 : Int32) (h : Hp) : Option (Unit × Hp) :=
  if l2 < 48 then (f_X5_advance_109 F l0 l1 l2 h) else (if 57 < l2 then (f_X5_advance_109 F l0 l1 l2 h) else (cV 6 h l0 (f_X5_readDigits F l0 h) fun v23 h24 => f_X5_advance_139 F l0 h24))
set_option maxRecDepth 100000 in
set_option maxHeartbeats 4000000 in
theorem T_X5_advance_90 (F : Nat) (l0 : Nat) (l1 : Int32) (l2 : Int32) (h : Hp) : G rvV I_X5_advance 6 90 [(0, .ref l0), (1, .int l1), (2, .int l2)] [] h (f_X5_advance_90 F l0 l1 l2 h) := by
  delta f_X5_advance_90
  refine g_iload_n 2 dX5_advance_90 rfl ?_
  refine g_bipush (v := 48) dX5_advance_91 (by decide) ?_
  refine g_icmp_lt (tgt := 109) dX5_advance_93 (by decide) (fun c16 => ?_) (fun c16 => ?_)
  · refine G_lv [0, 1, 2] rfl ?_
    exact T_X5_advance_109 F l0 l1 l2 h
  · refine g_iload_n 2 dX5_advance_96 rfl ?_
    refine g_bipush (v := 57) dX5_advance_97 (by decide) ?_
    refine g_icmp_gt (tgt := 109) dX5_advance_99 (by decide) (fun c22 => ?_) (fun c22 => ?_)
    · refine G_lv [0, 1, 2] rfl ?_
      exact T_X5_advance_109 F l0 l1 l2 h
    · refine g_aload_n 0 dX5_advance_102 rfl ?_
      refine g_callVv (J := I_X5_readDigits) (t := 6) (As := []) (rest := []) mjv_X5_readDigits ml_RX5_86 ⟨rfl, by decide, by decide⟩ (by decide) rfl rfl (Nat.le_of_ble_eq_true rfl) dX5_advance_103 (T_X5_readDigits F l0 h) (fun v23 h24 => ?_)
      refine g_goto (tgt := 139) dX5_advance_106 (by decide) ?_
      refine G_lv [0] rfl ?_
      exact T_X5_advance_139 F l0 h24
set_option maxRecDepth 100000 in
noncomputable def f_X5_advance_41 (F : Nat) (l0 : Nat) (l1 : Int32) (h : Hp) : Option (Unit × Hp) :=
  pI 6 h l0 4 l1 fun h4 => pI 6 h4 l0 5 l1 fun h5 => pI 6 h5 l0 6 0 fun h6 => gI 6 h6 l0 3 fun v7 => if v7 ≤ l1 then (f_X5_advance_139 F l0 h6) else (gR 6 h6 l0 2 fun v13 => aI 21 h6 v13 l1 fun v14 => if v14 < 97 then (f_X5_advance_90 F l0 l1 v14 h6) else (if 122 < v14 then (f_X5_advance_90 F l0 l1 v14 h6) else (cV 6 h6 l0 (f_X5_readWord F l0 h6) fun v26 h27 => f_X5_advance_139 F l0 h27)))
set_option maxRecDepth 100000 in
set_option maxHeartbeats 4000000 in
theorem T_X5_advance_41 (F : Nat) (l0 : Nat) (l1 : Int32) (h : Hp) : G rvV I_X5_advance 6 41 [(0, .ref l0), (1, .int l1)] [] h (f_X5_advance_41 F l0 l1 h) := by
  delta f_X5_advance_41
  refine g_aload_n 0 dX5_advance_41 rfl ?_
  refine g_iload_n 1 dX5_advance_42 rfl ?_
  refine g_putI fl_RX5_74 (Or.inl rfl) dX5_advance_43 (fun h4 => ?_)
  refine g_aload_n 0 dX5_advance_46 rfl ?_
  refine g_iload_n 1 dX5_advance_47 rfl ?_
  refine g_putI fl_RX5_42 (Or.inl rfl) dX5_advance_48 (fun h5 => ?_)
  refine g_aload_n 0 dX5_advance_51 rfl ?_
  refine g_iconst (v := 0) dX5_advance_52 (by decide) ?_
  refine g_putI fl_RX5_61 (Or.inl rfl) dX5_advance_53 (fun h6 => ?_)
  refine g_iload_n 1 dX5_advance_56 rfl ?_
  refine g_aload_n 0 dX5_advance_57 rfl ?_
  refine g_getI fl_RX5_36 rfl dX5_advance_58 (fun v7 => ?_)
  refine g_icmp_ge (tgt := 139) dX5_advance_61 (by decide) (fun c8 => ?_) (fun c8 => ?_)
  · refine G_lv [0] rfl ?_
    exact T_X5_advance_139 F l0 h6
  · refine g_aload_n 0 dX5_advance_64 rfl ?_
    refine g_getR fl_RX5_15 rfl dX5_advance_65 (fun v13 => ?_)
    refine g_iload_n 1 dX5_advance_68 rfl ?_
    refine g_bald dX5_advance_69 (fun v14 => ?_)
    refine g_istore_n (lv' := [(2, .int v14), (0, .ref l0), (1, .int l1)]) dX5_advance_70 (by decide) rfl ?_
    refine g_iload_n 0 dX5_advance_71 rfl ?_
    refine g_bipush (v := 97) dX5_advance_72 (by decide) ?_
    refine g_icmp_lt (tgt := 90) dX5_advance_74 (by decide) (fun c15 => ?_) (fun c15 => ?_)
    · refine G_lv [1, 2, 0] rfl ?_
      exact T_X5_advance_90 F l0 l1 v14 h6
    · refine g_iload_n 0 dX5_advance_77 rfl ?_
      refine g_bipush (v := 122) dX5_advance_78 (by decide) ?_
      refine g_icmp_gt (tgt := 90) dX5_advance_80 (by decide) (fun c25 => ?_) (fun c25 => ?_)
      · refine G_lv [1, 2, 0] rfl ?_
        exact T_X5_advance_90 F l0 l1 v14 h6
      · refine g_aload_n 1 dX5_advance_83 rfl ?_
        refine g_callVv (J := I_X5_readWord) (t := 6) (As := []) (rest := []) mjv_X5_readWord ml_RX5_83 ⟨rfl, by decide, by decide⟩ (by decide) rfl rfl (Nat.le_of_ble_eq_true rfl) dX5_advance_84 (T_X5_readWord F l0 h6) (fun v26 h27 => ?_)
        refine g_goto (tgt := 139) dX5_advance_87 (by decide) ?_
        refine G_lv [1] rfl ?_
        exact T_X5_advance_139 F l0 h27
set_option maxRecDepth 100000 in
noncomputable def f_X5_advance_35 (F : Nat) (K5 : Nat → Int32 → Hp → Option (Unit × Hp)) (l0 : Nat) (l1 : Int32) (h : Hp) : Option (Unit × Hp) :=
  K5 l0 (l1 + 1) h
set_option maxRecDepth 100000 in
set_option maxHeartbeats 4000000 in
theorem T_X5_advance_35 (F : Nat) {K5 : Nat → Int32 → Hp → Option (Unit × Hp)} (hK5 : ∀ (l0 : Nat) (l1 : Int32) (h : Hp), G rvV I_X5_advance 6 5 [(0, .ref l0), (1, .int l1)] [] h (K5 l0 l1 h)) (l0 : Nat) (l1 : Int32) (h : Hp) : G rvV I_X5_advance 6 35 [(0, .ref l0), (1, .int l1)] [] h (f_X5_advance_35 F K5 l0 l1 h) := by
  delta f_X5_advance_35
  refine g_iinc (v' := l1 + 1) (lv' := [(1, .int (l1 + 1)), (0, .ref l0)]) 1 dX5_advance_35 rfl rfl (by decide) rfl ?_
  refine g_goto (tgt := 5) dX5_advance_38 (by decide) ?_
  refine G_lv [1, 0] rfl ?_
  exact hK5 l0 (l1 + 1) h
set_option maxRecDepth 100000 in
noncomputable def f_X5_advance_5_b (F : Nat) (K5 : Nat → Int32 → Hp → Option (Unit × Hp)) (l0 : Nat) (l1 : Int32) (h : Hp) : Option (Unit × Hp) :=
  gI 6 h l0 3 fun v2 => if v2 ≤ l1 then (f_X5_advance_41 F l0 l1 h) else (gR 6 h l0 2 fun v28 => aI 21 h v28 l1 fun v29 => if v29 = 10 then (f_X5_advance_35 F K5 l0 l1 h) else (gR 6 h l0 2 fun v31 => aI 21 h v31 l1 fun v32 => if v32 = 32 then (f_X5_advance_35 F K5 l0 l1 h) else (f_X5_advance_41 F l0 l1 h)))
set_option maxRecDepth 100000 in
set_option maxHeartbeats 4000000 in
theorem T_X5_advance_5_b (F : Nat) {K5 : Nat → Int32 → Hp → Option (Unit × Hp)} (hK5 : ∀ (l0 : Nat) (l1 : Int32) (h : Hp), G rvV I_X5_advance 6 5 [(0, .ref l0), (1, .int l1)] [] h (K5 l0 l1 h)) (l0 : Nat) (l1 : Int32) (h : Hp) : G rvV I_X5_advance 6 5 [(0, .ref l0), (1, .int l1)] [] h (f_X5_advance_5_b F K5 l0 l1 h) := by
  delta f_X5_advance_5_b
  refine g_iload_n 1 dX5_advance_5 rfl ?_
  refine g_aload_n 0 dX5_advance_6 rfl ?_
  refine g_getI fl_RX5_36 rfl dX5_advance_7 (fun v2 => ?_)
  refine g_icmp_ge (tgt := 41) dX5_advance_10 (by decide) (fun c3 => ?_) (fun c3 => ?_)
  · refine G_lv [0, 1] rfl ?_
    exact T_X5_advance_41 F l0 l1 h
  · refine g_aload_n 0 dX5_advance_13 rfl ?_
    refine g_getR fl_RX5_15 rfl dX5_advance_14 (fun v28 => ?_)
    refine g_iload_n 1 dX5_advance_17 rfl ?_
    refine g_bald dX5_advance_18 (fun v29 => ?_)
    refine g_bipush (v := 10) dX5_advance_19 (by decide) ?_
    refine g_icmp_eq (tgt := 35) dX5_advance_21 (by decide) (fun c30 => ?_) (fun c30 => ?_)
    · refine G_lv [0, 1] rfl ?_
      exact T_X5_advance_35 F hK5 l0 l1 h
    · refine g_aload_n 0 dX5_advance_24 rfl ?_
      refine g_getR fl_RX5_15 rfl dX5_advance_25 (fun v31 => ?_)
      refine g_iload_n 1 dX5_advance_28 rfl ?_
      refine g_bald dX5_advance_29 (fun v32 => ?_)
      refine g_bipush (v := 32) dX5_advance_30 (by decide) ?_
      refine g_icmp_ne (tgt := 41) dX5_advance_32 (by decide) (fun c33 => ?_) (fun c33 => ?_)
      · refine G_lv [0, 1] rfl ?_
        exact T_X5_advance_35 F hK5 l0 l1 h
      · refine G_lv [0, 1] rfl ?_
        exact T_X5_advance_41 F l0 l1 h
set_option maxRecDepth 100000 in
noncomputable def f_X5_advance_5 (F : Nat) : Nat → Nat → Int32 → Hp → Option (Unit × Hp)
  | 0, _, _, _ => none
  | n + 1, l0, l1, h => f_X5_advance_5_b F (f_X5_advance_5 F n) l0 l1 h
set_option maxRecDepth 100000 in
set_option maxHeartbeats 4000000 in
theorem T_X5_advance_5 (F : Nat) : ∀ (n : Nat) (l0 : Nat) (l1 : Int32) (h : Hp), G rvV I_X5_advance 6 5 [(0, .ref l0), (1, .int l1)] [] h (f_X5_advance_5 F n l0 l1 h) := by
  intro n
  induction n with
  | zero => intros; exact G_none
  | succ n ih => intro l0 l1 h; exact T_X5_advance_5_b F ih l0 l1 h
set_option maxRecDepth 100000 in
noncomputable def f_X5_advance (F : Nat) (a0 : Nat) (h : Hp) : Option (Unit × Hp) :=
  gI 6 h a0 5 fun v1 => f_X5_advance_5 F F a0 v1 h
set_option maxRecDepth 100000 in
set_option maxHeartbeats 4000000 in
theorem T_X5_advance (F : Nat) (a0 : Nat) (h : Hp) : GM rvV I_X5_advance 6 [.ref a0] h (f_X5_advance F a0 h) := by
  delta f_X5_advance
  refine GM_of (lv := [(0, .ref a0)]) (by decide +kernel) (Nat.le_of_ble_eq_true rfl) rfl ?_
  refine g_aload_n 0 dX5_advance_0 rfl ?_
  refine g_getI fl_RX5_42 rfl dX5_advance_1 (fun v1 => ?_)
  refine g_istore_n (lv' := [(1, .int v1), (0, .ref a0)]) dX5_advance_4 (by decide) rfl ?_
  refine G_lv [1, 0] rfl ?_
  exact T_X5_advance_5 F F a0 v1 h
set_option maxRecDepth 100000 in
noncomputable def f_X2_setBut (F : Nat) (a0 : Nat) (a1 : Int32) (a2 : Int32) (h : Hp) : Option (Unit × Hp) :=
  bd (f_X2_isPlace F a1 a2 h) fun v1 h2 => if v1 = 0 then (some ((), h2)) else (gR 3 h2 a0 6 fun v4 => wI h2 v4 ((a1 * 4) + a2) 0 fun h5 => gR 3 h5 a0 7 fun v6 => aI 20 h5 v6 a1 fun v7 => wI h5 v6 a1 (v7 ||| ((1 : Int32) <<< (a2 &&& 31))) fun h8 => some ((), h8))
set_option maxRecDepth 100000 in
set_option maxHeartbeats 4000000 in
theorem T_X2_setBut (F : Nat) (a0 : Nat) (a1 : Int32) (a2 : Int32) (h : Hp) : GM rvV I_X2_setBut 2 [.ref a0, .int a1, .int a2] h (f_X2_setBut F a0 a1 a2 h) := by
  delta f_X2_setBut
  refine GM_of (lv := [(0, .ref a0), (1, .int a1), (2, .int a2)]) (by decide +kernel) (Nat.le_of_ble_eq_true rfl) rfl ?_
  refine g_iload_n 1 dX2_setBut_0 rfl ?_
  refine g_iload_n 2 dX2_setBut_1 rfl ?_
  refine g_callSi (J := I_X2_isPlace) (As := [.int a1, .int a2]) (rest := []) mjs_X2_isPlace ml_RX2_49 (by decide) rfl rfl (Nat.le_of_ble_eq_true rfl) dX2_setBut_2 (T_X2_isPlace F a1 a2 h) (fun v1 h2 => ?_)
  refine g_if_eq (tgt := 31) dX2_setBut_5 (by decide) (fun c3 => ?_) (fun c3 => ?_)
  · exact g_vret rfl dX2_setBut_31
  · refine g_aload_n 0 dX2_setBut_8 rfl ?_
    refine g_getR fl_RX2_15 rfl dX2_setBut_9 (fun v4 => ?_)
    refine g_iload_n 1 dX2_setBut_12 rfl ?_
    refine g_iconst (v := 4) dX2_setBut_13 (by decide) ?_
    refine g_imul dX2_setBut_14 ?_
    refine g_iload_n 2 dX2_setBut_15 rfl ?_
    refine g_iadd dX2_setBut_16 ?_
    refine g_iconst (v := 0) dX2_setBut_17 (by decide) ?_
    refine g_iast dX2_setBut_18 (fun h5 => ?_)
    refine g_aload_n 0 dX2_setBut_19 rfl ?_
    refine g_getR fl_RX2_18 rfl dX2_setBut_20 (fun v6 => ?_)
    refine g_iload_n 1 dX2_setBut_23 rfl ?_
    refine g_dup2 dX2_setBut_24 rfl rfl ?_
    refine g_iald dX2_setBut_25 (fun v7 => ?_)
    refine g_iconst (v := 1) dX2_setBut_26 (by decide) ?_
    refine g_iload_n 2 dX2_setBut_27 rfl ?_
    refine g_ishl dX2_setBut_28 ?_
    refine g_ior dX2_setBut_29 ?_
    refine g_iast dX2_setBut_30 (fun h8 => ?_)
    exact g_vret rfl dX2_setBut_31
set_option maxRecDepth 100000 in
noncomputable def f_X2_setNeed (F : Nat) (a0 : Nat) (a1 : Int32) (a2 : Int32) (a3 : Int32) (h : Hp) : Option (Unit × Hp) :=
  bd (f_X2_isPlace F a1 a2 h) fun v1 h2 => if v1 = 0 then (some ((), h2)) else (gR 3 h2 a0 6 fun v4 => wI h2 v4 ((a1 * 4) + a2) a3 fun h5 => gR 3 h5 a0 7 fun v6 => aI 20 h5 v6 a1 fun v7 => wI h5 v6 a1 (v7 &&& (((1 : Int32) <<< (a2 &&& 31)) ^^^ (-1))) fun h8 => some ((), h8))
set_option maxRecDepth 100000 in
set_option maxHeartbeats 4000000 in
theorem T_X2_setNeed (F : Nat) (a0 : Nat) (a1 : Int32) (a2 : Int32) (a3 : Int32) (h : Hp) : GM rvV I_X2_setNeed 2 [.ref a0, .int a1, .int a2, .int a3] h (f_X2_setNeed F a0 a1 a2 a3 h) := by
  delta f_X2_setNeed
  refine GM_of (lv := [(0, .ref a0), (1, .int a1), (2, .int a2), (3, .int a3)]) (by decide +kernel) (Nat.le_of_ble_eq_true rfl) rfl ?_
  refine g_iload_n 1 dX2_setNeed_0 rfl ?_
  refine g_iload_n 2 dX2_setNeed_1 rfl ?_
  refine g_callSi (J := I_X2_isPlace) (As := [.int a1, .int a2]) (rest := []) mjs_X2_isPlace ml_RX2_49 (by decide) rfl rfl (Nat.le_of_ble_eq_true rfl) dX2_setNeed_2 (T_X2_isPlace F a1 a2 h) (fun v1 h2 => ?_)
  refine g_if_eq (tgt := 33) dX2_setNeed_5 (by decide) (fun c3 => ?_) (fun c3 => ?_)
  · exact g_vret rfl dX2_setNeed_33
  · refine g_aload_n 0 dX2_setNeed_8 rfl ?_
    refine g_getR fl_RX2_15 rfl dX2_setNeed_9 (fun v4 => ?_)
    refine g_iload_n 1 dX2_setNeed_12 rfl ?_
    refine g_iconst (v := 4) dX2_setNeed_13 (by decide) ?_
    refine g_imul dX2_setNeed_14 ?_
    refine g_iload_n 2 dX2_setNeed_15 rfl ?_
    refine g_iadd dX2_setNeed_16 ?_
    refine g_iload_n 3 dX2_setNeed_17 rfl ?_
    refine g_iast dX2_setNeed_18 (fun h5 => ?_)
    refine g_aload_n 0 dX2_setNeed_19 rfl ?_
    refine g_getR fl_RX2_18 rfl dX2_setNeed_20 (fun v6 => ?_)
    refine g_iload_n 1 dX2_setNeed_23 rfl ?_
    refine g_dup2 dX2_setNeed_24 rfl rfl ?_
    refine g_iald dX2_setNeed_25 (fun v7 => ?_)
    refine g_iconst (v := 1) dX2_setNeed_26 (by decide) ?_
    refine g_iload_n 2 dX2_setNeed_27 rfl ?_
    refine g_ishl dX2_setNeed_28 ?_
    refine g_iconst (v := (-1)) dX2_setNeed_29 (by decide) ?_
    refine g_ixor dX2_setNeed_30 ?_
    refine g_iand dX2_setNeed_31 ?_
    refine g_iast dX2_setNeed_32 (fun h8 => ?_)
    exact g_vret rfl dX2_setNeed_33
set_option maxRecDepth 100000 in
noncomputable def f_X5_take (F : Nat) (a0 : Nat) (a1 : Int32) (h : Hp) : Option (Unit × Hp) :=
  gI 6 h a0 6 fun v1 => if v1 = a1 then (cV 6 h a0 (f_X5_advance F a0 h) fun v3 h4 => some ((), h4)) else (cV 6 h a0 (f_X5_fail F a0 2 h) fun v5 h6 => some ((), h6))
set_option maxRecDepth 100000 in
set_option maxHeartbeats 4000000 in
theorem T_X5_take (F : Nat) (a0 : Nat) (a1 : Int32) (h : Hp) : GM rvV I_X5_take 7 [.ref a0, .int a1] h (f_X5_take F a0 a1 h) := by
  delta f_X5_take
  refine GM_of (lv := [(0, .ref a0), (1, .int a1)]) (by decide +kernel) (Nat.le_of_ble_eq_true rfl) rfl ?_
  refine g_aload_n 0 dX5_take_0 rfl ?_
  refine g_getI fl_RX5_61 rfl dX5_take_1 (fun v1 => ?_)
  refine g_iload_n 1 dX5_take_4 rfl ?_
  refine g_icmp_ne (tgt := 15) dX5_take_5 (by decide) (fun c2 => ?_) (fun c2 => ?_)
  · refine g_aload_n 0 dX5_take_8 rfl ?_
    refine g_callVv (J := I_X5_advance) (t := 6) (As := []) (rest := []) mjv_X5_advance ml_RX5_51 ⟨rfl, by decide, by decide⟩ (by decide) rfl rfl (Nat.le_of_ble_eq_true rfl) dX5_take_9 (T_X5_advance F a0 h) (fun v3 h4 => ?_)
    refine g_goto (tgt := 20) dX5_take_12 (by decide) ?_
    exact g_vret rfl dX5_take_20
  · refine g_aload_n 0 dX5_take_15 rfl ?_
    refine g_iconst (v := 2) dX5_take_16 (by decide) ?_
    refine g_callVv (J := I_X5_fail) (t := 6) (As := [.int 2]) (rest := []) mjv_X5_fail ml_RX5_77 ⟨rfl, by decide, by decide⟩ (by decide) rfl rfl (Nat.le_of_ble_eq_true rfl) dX5_take_17 (T_X5_fail F a0 2 h) (fun v5 h6 => ?_)
    exact g_vret rfl dX5_take_20
set_option maxRecDepth 100000 in
noncomputable def f_X5_takeNumber_31 (F : Nat) (l0 : Nat) (h : Hp) : Option (Int32 × Hp) :=
  cV 6 h l0 (f_X5_fail F l0 3 h) fun v5 h6 => some (0, h6)
set_option maxRecDepth 100000 in
set_option maxHeartbeats 4000000 in
theorem T_X5_takeNumber_31 (F : Nat) (l0 : Nat) (h : Hp) : G rvI I_X5_takeNumber 7 31 [(0, .ref l0)] [] h (f_X5_takeNumber_31 F l0 h) := by
  delta f_X5_takeNumber_31
  refine g_aload_n 0 dX5_takeNumber_31 rfl ?_
  refine g_iconst (v := 3) dX5_takeNumber_32 (by decide) ?_
  refine g_callVv (J := I_X5_fail) (t := 6) (As := [.int 3]) (rest := []) mjv_X5_fail ml_RX5_77 ⟨rfl, by decide, by decide⟩ (by decide) rfl rfl (Nat.le_of_ble_eq_true rfl) dX5_takeNumber_33 (T_X5_fail F l0 3 h) (fun v5 h6 => ?_)
  refine g_iconst (v := 0) dX5_takeNumber_36 (by decide) ?_
  exact g_iret rfl dX5_takeNumber_37
set_option maxRecDepth 100000 in
noncomputable def f_X5_takeNumber (F : Nat) (a0 : Nat) (a1 : Int32) (a2 : Int32) (h : Hp) : Option (Int32 × Hp) :=
  gI 6 h a0 6 fun v1 => if v1 = 2 then (gI 6 h a0 7 fun v3 => if v3 < a1 then (f_X5_takeNumber_31 F a0 h) else (gI 6 h a0 7 fun v7 => if v7 ≤ a2 then (gI 6 h a0 7 fun v9 => cV 6 h a0 (f_X5_advance F a0 h) fun v10 h11 => some (v9, h11)) else (f_X5_takeNumber_31 F a0 h))) else (cV 6 h a0 (f_X5_fail F a0 2 h) fun v12 h13 => some (0, h13))
set_option maxRecDepth 100000 in
set_option maxHeartbeats 4000000 in
theorem T_X5_takeNumber (F : Nat) (a0 : Nat) (a1 : Int32) (a2 : Int32) (h : Hp) : GM rvI I_X5_takeNumber 7 [.ref a0, .int a1, .int a2] h (f_X5_takeNumber F a0 a1 a2 h) := by
  delta f_X5_takeNumber
  refine GM_of (lv := [(0, .ref a0), (1, .int a1), (2, .int a2)]) (by decide +kernel) (Nat.le_of_ble_eq_true rfl) rfl ?_
  refine g_aload_n 0 dX5_takeNumber_0 rfl ?_
  refine g_getI fl_RX5_61 rfl dX5_takeNumber_1 (fun v1 => ?_)
  refine g_iconst (v := 2) dX5_takeNumber_4 (by decide) ?_
  refine g_icmp_eq (tgt := 15) dX5_takeNumber_5 (by decide) (fun c2 => ?_) (fun c2 => ?_)
  · refine g_aload_n 0 dX5_takeNumber_15 rfl ?_
    refine g_getI fl_RX5_80 rfl dX5_takeNumber_16 (fun v3 => ?_)
    refine g_iload_n 1 dX5_takeNumber_19 rfl ?_
    refine g_icmp_lt (tgt := 31) dX5_takeNumber_20 (by decide) (fun c4 => ?_) (fun c4 => ?_)
    · refine G_lv [0] rfl ?_
      exact T_X5_takeNumber_31 F a0 h
    · refine g_aload_n 0 dX5_takeNumber_23 rfl ?_
      refine g_getI fl_RX5_80 rfl dX5_takeNumber_24 (fun v7 => ?_)
      refine g_iload_n 2 dX5_takeNumber_27 rfl ?_
      refine g_icmp_le (tgt := 38) dX5_takeNumber_28 (by decide) (fun c8 => ?_) (fun c8 => ?_)
      · refine g_aload_n 0 dX5_takeNumber_38 rfl ?_
        refine g_getI fl_RX5_80 rfl dX5_takeNumber_39 (fun v9 => ?_)
        refine g_istore_n (lv' := [(3, .int v9), (0, .ref a0), (1, .int a1), (2, .int a2)]) dX5_takeNumber_42 (by decide) rfl ?_
        refine g_aload_n 1 dX5_takeNumber_43 rfl ?_
        refine g_callVv (J := I_X5_advance) (t := 6) (As := []) (rest := []) mjv_X5_advance ml_RX5_51 ⟨rfl, by decide, by decide⟩ (by decide) rfl rfl (Nat.le_of_ble_eq_true rfl) dX5_takeNumber_44 (T_X5_advance F a0 h) (fun v10 h11 => ?_)
        refine g_iload_n 0 dX5_takeNumber_47 rfl ?_
        exact g_iret rfl dX5_takeNumber_48
      · refine G_lv [0] rfl ?_
        exact T_X5_takeNumber_31 F a0 h
  · refine g_aload_n 0 dX5_takeNumber_8 rfl ?_
    refine g_iconst (v := 2) dX5_takeNumber_9 (by decide) ?_
    refine g_callVv (J := I_X5_fail) (t := 6) (As := [.int 2]) (rest := []) mjv_X5_fail ml_RX5_77 ⟨rfl, by decide, by decide⟩ (by decide) rfl rfl (Nat.le_of_ble_eq_true rfl) dX5_takeNumber_10 (T_X5_fail F a0 2 h) (fun v12 h13 => ?_)
    refine g_iconst (v := 0) dX5_takeNumber_13 (by decide) ?_
    exact g_iret rfl dX5_takeNumber_14
set_option maxRecDepth 100000 in
noncomputable def f_X5_doingLine_153 (F : Nat) (K45 : Nat → Int32 → Int32 → Hp → Option (Unit × Hp)) (l0 : Nat) (l1 : Int32) (l2 : Int32) (h : Hp) : Option (Unit × Hp) :=
  K45 l0 l1 (l2 + 1) h
set_option maxRecDepth 100000 in
set_option maxHeartbeats 4000000 in
theorem T_X5_doingLine_153 (F : Nat) {K45 : Nat → Int32 → Int32 → Hp → Option (Unit × Hp)} (hK45 : ∀ (l0 : Nat) (l1 : Int32) (l2 : Int32) (h : Hp), G rvV I_X5_doingLine 8 45 [(0, .ref l0), (1, .int l1), (2, .int l2)] [] h (K45 l0 l1 l2 h)) (l0 : Nat) (l1 : Int32) (l2 : Int32) (h : Hp) : G rvV I_X5_doingLine 8 153 [(0, .ref l0), (1, .int l1), (2, .int l2)] [] h (f_X5_doingLine_153 F K45 l0 l1 l2 h) := by
  delta f_X5_doingLine_153
  refine g_iinc (v' := l2 + 1) (lv' := [(2, .int (l2 + 1)), (0, .ref l0), (1, .int l1)]) 2 dX5_doingLine_153 rfl rfl (by decide) rfl ?_
  refine g_goto (tgt := 45) dX5_doingLine_156 (by decide) ?_
  refine G_lv [1, 2, 0] rfl ?_
  exact hK45 l0 l1 (l2 + 1) h
set_option maxRecDepth 100000 in
noncomputable def f_X5_doingLine_73 (F : Nat) (K45 : Nat → Int32 → Int32 → Hp → Option (Unit × Hp)) (l0 : Nat) (l1 : Int32) (l2 : Int32) (h : Hp) : Option (Unit × Hp) :=
  gI 6 h l0 6 fun v15 => if v15 = 208 then (cV 6 h l0 (f_X5_advance F l0 h) fun v17 h18 => gR 6 h18 l0 8 fun v19 => gI 3 h18 v19 0 fun v20 => cV 6 h18 l0 (f_X5_takeNumber F l0 0 (v20 - 1) h18) fun v21 h22 => cV 6 h22 l0 (f_X5_take F l0 209 h22) fun v23 h24 => gR 6 h24 l0 8 fun v25 => cV 6 h24 l0 (f_X5_takeNumber F l0 1 3 h24) fun v26 h27 => cV 3 h27 v25 (f_X2_setNeed F v25 l1 v21 v26 h27) fun v28 h29 => f_X5_doingLine_153 F K45 l0 l1 l2 h29) else (cV 6 h l0 (f_X5_advance F l0 h) fun v30 h31 => gR 6 h31 l0 8 fun v32 => gR 6 h31 l0 8 fun v33 => gI 3 h31 v33 0 fun v34 => cV 6 h31 l0 (f_X5_takeNumber F l0 0 (v34 - 1) h31) fun v35 h36 => cV 3 h36 v32 (f_X2_setBut F v32 l1 v35 h36) fun v37 h38 => f_X5_doingLine_153 F K45 l0 l1 l2 h38)
set_option maxRecDepth 100000 in
set_option maxHeartbeats 4000000 in
theorem T_X5_doingLine_73 (F : Nat) {K45 : Nat → Int32 → Int32 → Hp → Option (Unit × Hp)} (hK45 : ∀ (l0 : Nat) (l1 : Int32) (l2 : Int32) (h : Hp), G rvV I_X5_doingLine 8 45 [(0, .ref l0), (1, .int l1), (2, .int l2)] [] h (K45 l0 l1 l2 h)) (l0 : Nat) (l1 : Int32) (l2 : Int32) (h : Hp) : G rvV I_X5_doingLine 8 73 [(0, .ref l0), (1, .int l1), (2, .int l2)] [] h (f_X5_doingLine_73 F K45 l0 l1 l2 h) := by
  delta f_X5_doingLine_73
  refine g_aload_n 0 dX5_doingLine_73 rfl ?_
  refine g_getI fl_RX5_61 rfl dX5_doingLine_74 (fun v15 => ?_)
  refine g_sipush (v := 208) dX5_doingLine_77 (by decide) ?_
  refine g_icmp_ne (tgt := 127) dX5_doingLine_80 (by decide) (fun c16 => ?_) (fun c16 => ?_)
  · refine g_aload_n 0 dX5_doingLine_83 rfl ?_
    refine g_callVv (J := I_X5_advance) (t := 6) (As := []) (rest := []) mjv_X5_advance ml_RX5_51 ⟨rfl, by decide, by decide⟩ (by decide) rfl rfl (Nat.le_of_ble_eq_true rfl) dX5_doingLine_84 (T_X5_advance F l0 h) (fun v17 h18 => ?_)
    refine g_aload_n 0 dX5_doingLine_87 rfl ?_
    refine g_iconst (v := 0) dX5_doingLine_88 (by decide) ?_
    refine g_aload_n 0 dX5_doingLine_89 rfl ?_
    refine g_getR fl_RX5_26 rfl dX5_doingLine_90 (fun v19 => ?_)
    refine g_getI fl_RX5_124 rfl dX5_doingLine_93 (fun v20 => ?_)
    refine g_iconst (v := 1) dX5_doingLine_96 (by decide) ?_
    refine g_isub dX5_doingLine_97 ?_
    refine g_callVi (J := I_X5_takeNumber) (t := 6) (As := [.int 0, .int (v20 - 1)]) (rest := []) mjv_X5_takeNumber ml_RX5_112 ⟨rfl, by decide, by decide⟩ (by decide) rfl rfl (Nat.le_of_ble_eq_true rfl) dX5_doingLine_98 (T_X5_takeNumber F l0 0 (v20 - 1) h18) (fun v21 h22 => ?_)
    refine g_istore_n (lv' := [(3, .int v21), (0, .ref l0), (1, .int l1), (2, .int l2)]) dX5_doingLine_101 (by decide) rfl ?_
    refine g_aload_n 1 dX5_doingLine_102 rfl ?_
    refine g_sipush (v := 209) dX5_doingLine_103 (by decide) ?_
    refine g_callVv (J := I_X5_take) (t := 6) (As := [.int 209]) (rest := []) mjv_X5_take ml_RX5_54 ⟨rfl, by decide, by decide⟩ (by decide) rfl rfl (Nat.le_of_ble_eq_true rfl) dX5_doingLine_106 (T_X5_take F l0 209 h22) (fun v23 h24 => ?_)
    refine g_aload_n 1 dX5_doingLine_109 rfl ?_
    refine g_getR fl_RX5_26 rfl dX5_doingLine_110 (fun v25 => ?_)
    refine g_iload_n 2 dX5_doingLine_113 rfl ?_
    refine g_iload_n 0 dX5_doingLine_114 rfl ?_
    refine g_aload_n 1 dX5_doingLine_115 rfl ?_
    refine g_iconst (v := 1) dX5_doingLine_116 (by decide) ?_
    refine g_iconst (v := 3) dX5_doingLine_117 (by decide) ?_
    refine g_callVi (J := I_X5_takeNumber) (t := 6) (As := [.int 1, .int 3]) (rest := [.int v21, .int l1, .ref v25]) mjv_X5_takeNumber ml_RX5_112 ⟨rfl, by decide, by decide⟩ (by decide) rfl rfl (Nat.le_of_ble_eq_true rfl) dX5_doingLine_118 (T_X5_takeNumber F l0 1 3 h24) (fun v26 h27 => ?_)
    refine g_callVv (J := I_X2_setNeed) (t := 3) (As := [.int l1, .int v21, .int v26]) (rest := []) mjv_X2_setNeed ml_RX5_134 ⟨rfl, by decide, by decide⟩ (by decide) rfl rfl (Nat.le_of_ble_eq_true rfl) dX5_doingLine_121 (T_X2_setNeed F v25 l1 v21 v26 h27) (fun v28 h29 => ?_)
    refine g_goto (tgt := 153) dX5_doingLine_124 (by decide) ?_
    refine G_lv [1, 2, 3] rfl ?_
    exact T_X5_doingLine_153 F hK45 l0 l1 l2 h29
  · refine g_aload_n 0 dX5_doingLine_127 rfl ?_
    refine g_callVv (J := I_X5_advance) (t := 6) (As := []) (rest := []) mjv_X5_advance ml_RX5_51 ⟨rfl, by decide, by decide⟩ (by decide) rfl rfl (Nat.le_of_ble_eq_true rfl) dX5_doingLine_128 (T_X5_advance F l0 h) (fun v30 h31 => ?_)
    refine g_aload_n 0 dX5_doingLine_131 rfl ?_
    refine g_getR fl_RX5_26 rfl dX5_doingLine_132 (fun v32 => ?_)
    refine g_iload_n 1 dX5_doingLine_135 rfl ?_
    refine g_aload_n 0 dX5_doingLine_136 rfl ?_
    refine g_iconst (v := 0) dX5_doingLine_137 (by decide) ?_
    refine g_aload_n 0 dX5_doingLine_138 rfl ?_
    refine g_getR fl_RX5_26 rfl dX5_doingLine_139 (fun v33 => ?_)
    refine g_getI fl_RX5_124 rfl dX5_doingLine_142 (fun v34 => ?_)
    refine g_iconst (v := 1) dX5_doingLine_145 (by decide) ?_
    refine g_isub dX5_doingLine_146 ?_
    refine g_callVi (J := I_X5_takeNumber) (t := 6) (As := [.int 0, .int (v34 - 1)]) (rest := [.int l1, .ref v32]) mjv_X5_takeNumber ml_RX5_112 ⟨rfl, by decide, by decide⟩ (by decide) rfl rfl (Nat.le_of_ble_eq_true rfl) dX5_doingLine_147 (T_X5_takeNumber F l0 0 (v34 - 1) h31) (fun v35 h36 => ?_)
    refine g_callVv (J := I_X2_setBut) (t := 3) (As := [.int l1, .int v35]) (rest := []) mjv_X2_setBut ml_RX5_138 ⟨rfl, by decide, by decide⟩ (by decide) rfl rfl (Nat.le_of_ble_eq_true rfl) dX5_doingLine_150 (T_X2_setBut F v32 l1 v35 h36) (fun v37 h38 => ?_)
    refine G_lv [0, 1, 2] rfl ?_
    exact T_X5_doingLine_153 F hK45 l0 l1 l2 h38
set_option maxRecDepth 100000 in
noncomputable def f_X5_doingLine_45_b (F : Nat) (K45 : Nat → Int32 → Int32 → Hp → Option (Unit × Hp)) (l0 : Nat) (l1 : Int32) (l2 : Int32) (h : Hp) : Option (Unit × Hp) :=
  gI 6 h l0 3 fun v11 => if v11 ≤ l2 then (some ((), h)) else (gI 6 h l0 6 fun v13 => if v13 = 208 then (f_X5_doingLine_73 F K45 l0 l1 l2 h) else (gI 6 h l0 6 fun v39 => if v39 = 210 then (f_X5_doingLine_73 F K45 l0 l1 l2 h) else (some ((), h))))
set_option maxRecDepth 100000 in
set_option maxHeartbeats 4000000 in
theorem T_X5_doingLine_45_b (F : Nat) {K45 : Nat → Int32 → Int32 → Hp → Option (Unit × Hp)} (hK45 : ∀ (l0 : Nat) (l1 : Int32) (l2 : Int32) (h : Hp), G rvV I_X5_doingLine 8 45 [(0, .ref l0), (1, .int l1), (2, .int l2)] [] h (K45 l0 l1 l2 h)) (l0 : Nat) (l1 : Int32) (l2 : Int32) (h : Hp) : G rvV I_X5_doingLine 8 45 [(0, .ref l0), (1, .int l1), (2, .int l2)] [] h (f_X5_doingLine_45_b F K45 l0 l1 l2 h) := by
  delta f_X5_doingLine_45_b
  refine g_iload_n 2 dX5_doingLine_45 rfl ?_
  refine g_aload_n 0 dX5_doingLine_46 rfl ?_
  refine g_getI fl_RX5_36 rfl dX5_doingLine_47 (fun v11 => ?_)
  refine g_icmp_ge (tgt := 159) dX5_doingLine_50 (by decide) (fun c12 => ?_) (fun c12 => ?_)
  · exact g_vret rfl dX5_doingLine_159
  · refine g_aload_n 0 dX5_doingLine_53 rfl ?_
    refine g_getI fl_RX5_61 rfl dX5_doingLine_54 (fun v13 => ?_)
    refine g_sipush (v := 208) dX5_doingLine_57 (by decide) ?_
    refine g_icmp_eq (tgt := 73) dX5_doingLine_60 (by decide) (fun c14 => ?_) (fun c14 => ?_)
    · refine G_lv [0, 1, 2] rfl ?_
      exact T_X5_doingLine_73 F hK45 l0 l1 l2 h
    · refine g_aload_n 0 dX5_doingLine_63 rfl ?_
      refine g_getI fl_RX5_61 rfl dX5_doingLine_64 (fun v39 => ?_)
      refine g_sipush (v := 210) dX5_doingLine_67 (by decide) ?_
      refine g_icmp_ne (tgt := 159) dX5_doingLine_70 (by decide) (fun c40 => ?_) (fun c40 => ?_)
      · refine G_lv [0, 1, 2] rfl ?_
        exact T_X5_doingLine_73 F hK45 l0 l1 l2 h
      · exact g_vret rfl dX5_doingLine_159
set_option maxRecDepth 100000 in
noncomputable def f_X5_doingLine_45 (F : Nat) : Nat → Nat → Int32 → Int32 → Hp → Option (Unit × Hp)
  | 0, _, _, _, _ => none
  | n + 1, l0, l1, l2, h => f_X5_doingLine_45_b F (f_X5_doingLine_45 F n) l0 l1 l2 h
set_option maxRecDepth 100000 in
set_option maxHeartbeats 4000000 in
theorem T_X5_doingLine_45 (F : Nat) : ∀ (n : Nat) (l0 : Nat) (l1 : Int32) (l2 : Int32) (h : Hp), G rvV I_X5_doingLine 8 45 [(0, .ref l0), (1, .int l1), (2, .int l2)] [] h (f_X5_doingLine_45 F n l0 l1 l2 h) := by
  intro n
  induction n with
  | zero => intros; exact G_none
  | succ n ih => intro l0 l1 l2 h; exact T_X5_doingLine_45_b F ih l0 l1 l2 h
set_option maxRecDepth 100000 in
noncomputable def f_X5_doingLine (F : Nat) (a0 : Nat) (h : Hp) : Option (Unit × Hp) :=
  gR 6 h a0 8 fun v1 => gI 3 h v1 1 fun v2 => if v2 < 6 then (gR 6 h a0 8 fun v4 => gI 3 h v4 1 fun v5 => gR 6 h a0 8 fun v6 => gI 3 h v6 1 fun v7 => pI 3 h v6 1 (v7 + 1) fun h8 => cV 6 h8 a0 (f_X5_advance F a0 h8) fun v9 h10 => f_X5_doingLine_45 F F a0 v5 0 h10) else (cV 6 h a0 (f_X5_fail F a0 4 h) fun v41 h42 => some ((), h42))
set_option maxRecDepth 100000 in
set_option maxHeartbeats 4000000 in
theorem T_X5_doingLine (F : Nat) (a0 : Nat) (h : Hp) : GM rvV I_X5_doingLine 8 [.ref a0] h (f_X5_doingLine F a0 h) := by
  delta f_X5_doingLine
  refine GM_of (lv := [(0, .ref a0)]) (by decide +kernel) (Nat.le_of_ble_eq_true rfl) rfl ?_
  refine g_aload_n 0 dX5_doingLine_0 rfl ?_
  refine g_getR fl_RX5_26 rfl dX5_doingLine_1 (fun v1 => ?_)
  refine g_getI fl_RX5_131 rfl dX5_doingLine_4 (fun v2 => ?_)
  refine g_bipush (v := 6) dX5_doingLine_7 (by decide) ?_
  refine g_icmp_lt (tgt := 18) dX5_doingLine_9 (by decide) (fun c3 => ?_) (fun c3 => ?_)
  · refine g_aload_n 0 dX5_doingLine_18 rfl ?_
    refine g_getR fl_RX5_26 rfl dX5_doingLine_19 (fun v4 => ?_)
    refine g_getI fl_RX5_131 rfl dX5_doingLine_22 (fun v5 => ?_)
    refine g_istore_n (lv' := [(1, .int v5), (0, .ref a0)]) dX5_doingLine_25 (by decide) rfl ?_
    refine g_aload_n 1 dX5_doingLine_26 rfl ?_
    refine g_getR fl_RX5_26 rfl dX5_doingLine_27 (fun v6 => ?_)
    refine g_dup dX5_doingLine_30 rfl ?_
    refine g_getI fl_RX5_131 rfl dX5_doingLine_31 (fun v7 => ?_)
    refine g_iconst (v := 1) dX5_doingLine_34 (by decide) ?_
    refine g_iadd dX5_doingLine_35 ?_
    refine g_putI fl_RX5_131 (Or.inl rfl) dX5_doingLine_36 (fun h8 => ?_)
    refine g_aload_n 1 dX5_doingLine_39 rfl ?_
    refine g_callVv (J := I_X5_advance) (t := 6) (As := []) (rest := []) mjv_X5_advance ml_RX5_51 ⟨rfl, by decide, by decide⟩ (by decide) rfl rfl (Nat.le_of_ble_eq_true rfl) dX5_doingLine_40 (T_X5_advance F a0 h8) (fun v9 h10 => ?_)
    refine g_iconst (v := 0) dX5_doingLine_43 (by decide) ?_
    refine g_istore_n (lv' := [(2, .int 0), (1, .int v5), (0, .ref a0)]) dX5_doingLine_44 (by decide) rfl ?_
    refine G_lv [2, 1, 0] rfl ?_
    exact T_X5_doingLine_45 F F a0 v5 0 h10
  · refine g_aload_n 0 dX5_doingLine_12 rfl ?_
    refine g_iconst (v := 4) dX5_doingLine_13 (by decide) ?_
    refine g_callVv (J := I_X5_fail) (t := 6) (As := [.int 4]) (rest := []) mjv_X5_fail ml_RX5_77 ⟨rfl, by decide, by decide⟩ (by decide) rfl rfl (Nat.le_of_ble_eq_true rfl) dX5_doingLine_14 (T_X5_fail F a0 4 h) (fun v41 h42 => ?_)
    exact g_vret rfl dX5_doingLine_17
set_option maxRecDepth 100000 in
noncomputable def f_X2_setKind (F : Nat) (a0 : Nat) (a1 : Int32) (a2 : Int32) (h : Hp) : Option (Unit × Hp) :=
  if a1 < 0 then (some ((), h)) else (if 4 ≤ a1 then (some ((), h)) else (gR 3 h a0 5 fun v3 => wI h v3 a1 a2 fun h4 => some ((), h4)))
set_option maxRecDepth 100000 in
set_option maxHeartbeats 4000000 in
theorem T_X2_setKind (F : Nat) (a0 : Nat) (a1 : Int32) (a2 : Int32) (h : Hp) : GM rvV I_X2_setKind 1 [.ref a0, .int a1, .int a2] h (f_X2_setKind F a0 a1 a2 h) := by
  delta f_X2_setKind
  refine GM_of (lv := [(0, .ref a0), (1, .int a1), (2, .int a2)]) (by decide +kernel) (Nat.le_of_ble_eq_true rfl) rfl ?_
  refine g_iload_n 1 dX2_setKind_0 rfl ?_
  refine g_if_lt (tgt := 16) dX2_setKind_1 (by decide) (fun c1 => ?_) (fun c1 => ?_)
  · exact g_vret rfl dX2_setKind_16
  · refine g_iload_n 1 dX2_setKind_4 rfl ?_
    refine g_iconst (v := 4) dX2_setKind_5 (by decide) ?_
    refine g_icmp_ge (tgt := 16) dX2_setKind_6 (by decide) (fun c2 => ?_) (fun c2 => ?_)
    · exact g_vret rfl dX2_setKind_16
    · refine g_aload_n 0 dX2_setKind_9 rfl ?_
      refine g_getR fl_RX2_11 rfl dX2_setKind_10 (fun v3 => ?_)
      refine g_iload_n 1 dX2_setKind_13 rfl ?_
      refine g_iload_n 2 dX2_setKind_14 rfl ?_
      refine g_iast dX2_setKind_15 (fun h4 => ?_)
      exact g_vret rfl dX2_setKind_16
set_option maxRecDepth 100000 in
noncomputable def f_X5_factLine_44_b (F : Nat) (K44 : Nat → Int32 → Int32 → Hp → Option (Unit × Hp)) (l0 : Nat) (l1 : Int32) (l2 : Int32) (h : Hp) : Option (Unit × Hp) :=
  gI 6 h l0 3 fun v11 => if v11 ≤ l2 then (some ((), h)) else (gI 6 h l0 6 fun v13 => if v13 = 207 then (cV 6 h l0 (f_X5_advance F l0 h) fun v15 h16 => gR 6 h16 l0 8 fun v17 => cV 6 h16 l0 (f_X5_takeNumber F l0 0 9 h16) fun v18 h19 => cV 3 h19 v17 (f_X2_setKind F v17 l1 v18 h19) fun v20 h21 => K44 l0 l1 (l2 + 1) h21) else (some ((), h)))
set_option maxRecDepth 100000 in
set_option maxHeartbeats 4000000 in
theorem T_X5_factLine_44_b (F : Nat) {K44 : Nat → Int32 → Int32 → Hp → Option (Unit × Hp)} (hK44 : ∀ (l0 : Nat) (l1 : Int32) (l2 : Int32) (h : Hp), G rvV I_X5_factLine 8 44 [(0, .ref l0), (1, .int l1), (2, .int l2)] [] h (K44 l0 l1 l2 h)) (l0 : Nat) (l1 : Int32) (l2 : Int32) (h : Hp) : G rvV I_X5_factLine 8 44 [(0, .ref l0), (1, .int l1), (2, .int l2)] [] h (f_X5_factLine_44_b F K44 l0 l1 l2 h) := by
  delta f_X5_factLine_44_b
  refine g_iload_n 2 dX5_factLine_44 rfl ?_
  refine g_aload_n 0 dX5_factLine_45 rfl ?_
  refine g_getI fl_RX5_36 rfl dX5_factLine_46 (fun v11 => ?_)
  refine g_icmp_ge (tgt := 87) dX5_factLine_49 (by decide) (fun c12 => ?_) (fun c12 => ?_)
  · exact g_vret rfl dX5_factLine_87
  · refine g_aload_n 0 dX5_factLine_52 rfl ?_
    refine g_getI fl_RX5_61 rfl dX5_factLine_53 (fun v13 => ?_)
    refine g_sipush (v := 207) dX5_factLine_56 (by decide) ?_
    refine g_icmp_ne (tgt := 87) dX5_factLine_59 (by decide) (fun c14 => ?_) (fun c14 => ?_)
    · refine g_aload_n 0 dX5_factLine_62 rfl ?_
      refine g_callVv (J := I_X5_advance) (t := 6) (As := []) (rest := []) mjv_X5_advance ml_RX5_51 ⟨rfl, by decide, by decide⟩ (by decide) rfl rfl (Nat.le_of_ble_eq_true rfl) dX5_factLine_63 (T_X5_advance F l0 h) (fun v15 h16 => ?_)
      refine g_aload_n 0 dX5_factLine_66 rfl ?_
      refine g_getR fl_RX5_26 rfl dX5_factLine_67 (fun v17 => ?_)
      refine g_iload_n 1 dX5_factLine_70 rfl ?_
      refine g_aload_n 0 dX5_factLine_71 rfl ?_
      refine g_iconst (v := 0) dX5_factLine_72 (by decide) ?_
      refine g_bipush (v := 9) dX5_factLine_73 (by decide) ?_
      refine g_callVi (J := I_X5_takeNumber) (t := 6) (As := [.int 0, .int 9]) (rest := [.int l1, .ref v17]) mjv_X5_takeNumber ml_RX5_112 ⟨rfl, by decide, by decide⟩ (by decide) rfl rfl (Nat.le_of_ble_eq_true rfl) dX5_factLine_75 (T_X5_takeNumber F l0 0 9 h16) (fun v18 h19 => ?_)
      refine g_callVv (J := I_X2_setKind) (t := 3) (As := [.int l1, .int v18]) (rest := []) mjv_X2_setKind ml_RX5_127 ⟨rfl, by decide, by decide⟩ (by decide) rfl rfl (Nat.le_of_ble_eq_true rfl) dX5_factLine_78 (T_X2_setKind F v17 l1 v18 h19) (fun v20 h21 => ?_)
      refine g_iinc (v' := l2 + 1) (lv' := [(2, .int (l2 + 1)), (0, .ref l0), (1, .int l1)]) 2 dX5_factLine_81 rfl rfl (by decide) rfl ?_
      refine g_goto (tgt := 44) dX5_factLine_84 (by decide) ?_
      refine G_lv [1, 2, 0] rfl ?_
      exact hK44 l0 l1 (l2 + 1) h21
    · exact g_vret rfl dX5_factLine_87
set_option maxRecDepth 100000 in
noncomputable def f_X5_factLine_44 (F : Nat) : Nat → Nat → Int32 → Int32 → Hp → Option (Unit × Hp)
  | 0, _, _, _, _ => none
  | n + 1, l0, l1, l2, h => f_X5_factLine_44_b F (f_X5_factLine_44 F n) l0 l1 l2 h
set_option maxRecDepth 100000 in
set_option maxHeartbeats 4000000 in
theorem T_X5_factLine_44 (F : Nat) : ∀ (n : Nat) (l0 : Nat) (l1 : Int32) (l2 : Int32) (h : Hp), G rvV I_X5_factLine 8 44 [(0, .ref l0), (1, .int l1), (2, .int l2)] [] h (f_X5_factLine_44 F n l0 l1 l2 h) := by
  intro n
  induction n with
  | zero => intros; exact G_none
  | succ n ih => intro l0 l1 l2 h; exact T_X5_factLine_44_b F ih l0 l1 l2 h
set_option maxRecDepth 100000 in
noncomputable def f_X5_factLine (F : Nat) (a0 : Nat) (h : Hp) : Option (Unit × Hp) :=
  gR 6 h a0 8 fun v1 => gI 3 h v1 0 fun v2 => if v2 < 4 then (gR 6 h a0 8 fun v4 => gI 3 h v4 0 fun v5 => gR 6 h a0 8 fun v6 => gI 3 h v6 0 fun v7 => pI 3 h v6 0 (v7 + 1) fun h8 => cV 6 h8 a0 (f_X5_advance F a0 h8) fun v9 h10 => f_X5_factLine_44 F F a0 v5 0 h10) else (cV 6 h a0 (f_X5_fail F a0 4 h) fun v22 h23 => some ((), h23))
set_option maxRecDepth 100000 in
set_option maxHeartbeats 4000000 in
theorem T_X5_factLine (F : Nat) (a0 : Nat) (h : Hp) : GM rvV I_X5_factLine 8 [.ref a0] h (f_X5_factLine F a0 h) := by
  delta f_X5_factLine
  refine GM_of (lv := [(0, .ref a0)]) (by decide +kernel) (Nat.le_of_ble_eq_true rfl) rfl ?_
  refine g_aload_n 0 dX5_factLine_0 rfl ?_
  refine g_getR fl_RX5_26 rfl dX5_factLine_1 (fun v1 => ?_)
  refine g_getI fl_RX5_124 rfl dX5_factLine_4 (fun v2 => ?_)
  refine g_iconst (v := 4) dX5_factLine_7 (by decide) ?_
  refine g_icmp_lt (tgt := 17) dX5_factLine_8 (by decide) (fun c3 => ?_) (fun c3 => ?_)
  · refine g_aload_n 0 dX5_factLine_17 rfl ?_
    refine g_getR fl_RX5_26 rfl dX5_factLine_18 (fun v4 => ?_)
    refine g_getI fl_RX5_124 rfl dX5_factLine_21 (fun v5 => ?_)
    refine g_istore_n (lv' := [(1, .int v5), (0, .ref a0)]) dX5_factLine_24 (by decide) rfl ?_
    refine g_aload_n 1 dX5_factLine_25 rfl ?_
    refine g_getR fl_RX5_26 rfl dX5_factLine_26 (fun v6 => ?_)
    refine g_dup dX5_factLine_29 rfl ?_
    refine g_getI fl_RX5_124 rfl dX5_factLine_30 (fun v7 => ?_)
    refine g_iconst (v := 1) dX5_factLine_33 (by decide) ?_
    refine g_iadd dX5_factLine_34 ?_
    refine g_putI fl_RX5_124 (Or.inl rfl) dX5_factLine_35 (fun h8 => ?_)
    refine g_aload_n 1 dX5_factLine_38 rfl ?_
    refine g_callVv (J := I_X5_advance) (t := 6) (As := []) (rest := []) mjv_X5_advance ml_RX5_51 ⟨rfl, by decide, by decide⟩ (by decide) rfl rfl (Nat.le_of_ble_eq_true rfl) dX5_factLine_39 (T_X5_advance F a0 h8) (fun v9 h10 => ?_)
    refine g_iconst (v := 0) dX5_factLine_42 (by decide) ?_
    refine g_istore_n (lv' := [(2, .int 0), (1, .int v5), (0, .ref a0)]) dX5_factLine_43 (by decide) rfl ?_
    refine G_lv [2, 1, 0] rfl ?_
    exact T_X5_factLine_44 F F a0 v5 0 h10
  · refine g_aload_n 0 dX5_factLine_11 rfl ?_
    refine g_iconst (v := 4) dX5_factLine_12 (by decide) ?_
    refine g_callVv (J := I_X5_fail) (t := 6) (As := [.int 4]) (rest := []) mjv_X5_fail ml_RX5_77 ⟨rfl, by decide, by decide⟩ (by decide) rfl rfl (Nat.le_of_ble_eq_true rfl) dX5_factLine_13 (T_X5_fail F a0 4 h) (fun v22 h23 => ?_)
    exact g_vret rfl dX5_factLine_16
set_option maxRecDepth 100000 in
noncomputable def f_X2_setStart (F : Nat) (a0 : Nat) (a1 : Int32) (a2 : Int32) (a3 : Int32) (h : Hp) : Option (Unit × Hp) :=
  gI 3 h a0 4 fun v1 => pI 3 h a0 4 ((v1 &&& (((3 : Int32) <<< (((4 * a2) + (2 * a1)) &&& 31)) ^^^ (-1))) ||| (a3 <<< (((4 * a2) + (2 * a1)) &&& 31))) fun h2 => some ((), h2)
set_option maxRecDepth 100000 in
set_option maxHeartbeats 4000000 in
theorem T_X2_setStart (F : Nat) (a0 : Nat) (a1 : Int32) (a2 : Int32) (a3 : Int32) (h : Hp) : GM rvV I_X2_setStart 1 [.ref a0, .int a1, .int a2, .int a3] h (f_X2_setStart F a0 a1 a2 a3 h) := by
  delta f_X2_setStart
  refine GM_of (lv := [(0, .ref a0), (1, .int a1), (2, .int a2), (3, .int a3)]) (by decide +kernel) (Nat.le_of_ble_eq_true rfl) rfl ?_
  refine g_aload_n 0 dX2_setStart_0 rfl ?_
  refine g_aload_n 0 dX2_setStart_1 rfl ?_
  refine g_getI fl_RX2_40 rfl dX2_setStart_2 (fun v1 => ?_)
  refine g_iconst (v := 3) dX2_setStart_5 (by decide) ?_
  refine g_iconst (v := 4) dX2_setStart_6 (by decide) ?_
  refine g_iload_n 2 dX2_setStart_7 rfl ?_
  refine g_imul dX2_setStart_8 ?_
  refine g_iconst (v := 2) dX2_setStart_9 (by decide) ?_
  refine g_iload_n 1 dX2_setStart_10 rfl ?_
  refine g_imul dX2_setStart_11 ?_
  refine g_iadd dX2_setStart_12 ?_
  refine g_ishl dX2_setStart_13 ?_
  refine g_iconst (v := (-1)) dX2_setStart_14 (by decide) ?_
  refine g_ixor dX2_setStart_15 ?_
  refine g_iand dX2_setStart_16 ?_
  refine g_iload_n 3 dX2_setStart_17 rfl ?_
  refine g_iconst (v := 4) dX2_setStart_18 (by decide) ?_
  refine g_iload_n 2 dX2_setStart_19 rfl ?_
  refine g_imul dX2_setStart_20 ?_
  refine g_iconst (v := 2) dX2_setStart_21 (by decide) ?_
  refine g_iload_n 1 dX2_setStart_22 rfl ?_
  refine g_imul dX2_setStart_23 ?_
  refine g_iadd dX2_setStart_24 ?_
  refine g_ishl dX2_setStart_25 ?_
  refine g_ior dX2_setStart_26 ?_
  refine g_putI fl_RX2_40 (Or.inl rfl) dX2_setStart_27 (fun h2 => ?_)
  exact g_vret rfl dX2_setStart_30
set_option maxRecDepth 100000 in
noncomputable def f_X5_knowsLine (F : Nat) (a0 : Nat) (h : Hp) : Option (Unit × Hp) :=
  cV 6 h a0 (f_X5_advance F a0 h) fun v1 h2 => cV 6 h2 a0 (f_X5_takeNumber F a0 0 1 h2) fun v3 h4 => gR 6 h4 a0 8 fun v5 => gI 3 h4 v5 0 fun v6 => cV 6 h4 a0 (f_X5_takeNumber F a0 0 (v6 - 1) h4) fun v7 h8 => cV 6 h8 a0 (f_X5_takeNumber F a0 0 3 h8) fun v9 h10 => gI 6 h10 a0 0 fun v11 => if v11 = 0 then (gR 6 h10 a0 8 fun v13 => cV 3 h10 v13 (f_X2_setStart F v13 v3 v7 v9 h10) fun v14 h15 => some ((), h15)) else (some ((), h10))
set_option maxRecDepth 100000 in
set_option maxHeartbeats 4000000 in
theorem T_X5_knowsLine (F : Nat) (a0 : Nat) (h : Hp) : GM rvV I_X5_knowsLine 8 [.ref a0] h (f_X5_knowsLine F a0 h) := by
  delta f_X5_knowsLine
  refine GM_of (lv := [(0, .ref a0)]) (by decide +kernel) (Nat.le_of_ble_eq_true rfl) rfl ?_
  refine g_aload_n 0 dX5_knowsLine_0 rfl ?_
  refine g_callVv (J := I_X5_advance) (t := 6) (As := []) (rest := []) mjv_X5_advance ml_RX5_51 ⟨rfl, by decide, by decide⟩ (by decide) rfl rfl (Nat.le_of_ble_eq_true rfl) dX5_knowsLine_1 (T_X5_advance F a0 h) (fun v1 h2 => ?_)
  refine g_aload_n 0 dX5_knowsLine_4 rfl ?_
  refine g_iconst (v := 0) dX5_knowsLine_5 (by decide) ?_
  refine g_iconst (v := 1) dX5_knowsLine_6 (by decide) ?_
  refine g_callVi (J := I_X5_takeNumber) (t := 6) (As := [.int 0, .int 1]) (rest := []) mjv_X5_takeNumber ml_RX5_112 ⟨rfl, by decide, by decide⟩ (by decide) rfl rfl (Nat.le_of_ble_eq_true rfl) dX5_knowsLine_7 (T_X5_takeNumber F a0 0 1 h2) (fun v3 h4 => ?_)
  refine g_istore_n (lv' := [(1, .int v3), (0, .ref a0)]) dX5_knowsLine_10 (by decide) rfl ?_
  refine g_aload_n 1 dX5_knowsLine_11 rfl ?_
  refine g_iconst (v := 0) dX5_knowsLine_12 (by decide) ?_
  refine g_aload_n 1 dX5_knowsLine_13 rfl ?_
  refine g_getR fl_RX5_26 rfl dX5_knowsLine_14 (fun v5 => ?_)
  refine g_getI fl_RX5_124 rfl dX5_knowsLine_17 (fun v6 => ?_)
  refine g_iconst (v := 1) dX5_knowsLine_20 (by decide) ?_
  refine g_isub dX5_knowsLine_21 ?_
  refine g_callVi (J := I_X5_takeNumber) (t := 6) (As := [.int 0, .int (v6 - 1)]) (rest := []) mjv_X5_takeNumber ml_RX5_112 ⟨rfl, by decide, by decide⟩ (by decide) rfl rfl (Nat.le_of_ble_eq_true rfl) dX5_knowsLine_22 (T_X5_takeNumber F a0 0 (v6 - 1) h4) (fun v7 h8 => ?_)
  refine g_istore_n (lv' := [(2, .int v7), (1, .int v3), (0, .ref a0)]) dX5_knowsLine_25 (by decide) rfl ?_
  refine g_aload_n 2 dX5_knowsLine_26 rfl ?_
  refine g_iconst (v := 0) dX5_knowsLine_27 (by decide) ?_
  refine g_iconst (v := 3) dX5_knowsLine_28 (by decide) ?_
  refine g_callVi (J := I_X5_takeNumber) (t := 6) (As := [.int 0, .int 3]) (rest := []) mjv_X5_takeNumber ml_RX5_112 ⟨rfl, by decide, by decide⟩ (by decide) rfl rfl (Nat.le_of_ble_eq_true rfl) dX5_knowsLine_29 (T_X5_takeNumber F a0 0 3 h8) (fun v9 h10 => ?_)
  refine g_istore_n (lv' := [(3, .int v9), (2, .int v7), (1, .int v3), (0, .ref a0)]) dX5_knowsLine_32 (by decide) rfl ?_
  refine g_aload_n 3 dX5_knowsLine_33 rfl ?_
  refine g_getI fl_RX5_39 rfl dX5_knowsLine_34 (fun v11 => ?_)
  refine g_if_ne (tgt := 50) dX5_knowsLine_37 (by decide) (fun c12 => ?_) (fun c12 => ?_)
  · refine g_aload_n 3 dX5_knowsLine_40 rfl ?_
    refine g_getR fl_RX5_26 rfl dX5_knowsLine_41 (fun v13 => ?_)
    refine g_iload_n 2 dX5_knowsLine_44 rfl ?_
    refine g_iload_n 1 dX5_knowsLine_45 rfl ?_
    refine g_iload_n 0 dX5_knowsLine_46 rfl ?_
    refine g_callVv (J := I_X2_setStart) (t := 3) (As := [.int v3, .int v7, .int v9]) (rest := []) mjv_X2_setStart ml_RX5_141 ⟨rfl, by decide, by decide⟩ (by decide) rfl rfl (Nat.le_of_ble_eq_true rfl) dX5_knowsLine_47 (T_X2_setStart F v13 v3 v7 v9 h10) (fun v14 h15 => ?_)
    exact g_vret rfl dX5_knowsLine_50
  · exact g_vret rfl dX5_knowsLine_50
set_option maxRecDepth 100000 in
noncomputable def f_X3_setComes (F : Nat) (a0 : Nat) (a1 : Int32) (h : Hp) : Option (Unit × Hp) :=
  pI 4 h a0 2 a1 fun h1 => gI 4 h1 a0 1 fun v2 => pI 4 h1 a0 3 v2 fun h3 => some ((), h3)
set_option maxRecDepth 100000 in
set_option maxHeartbeats 4000000 in
theorem T_X3_setComes (F : Nat) (a0 : Nat) (a1 : Int32) (h : Hp) : GM rvV I_X3_setComes 1 [.ref a0, .int a1] h (f_X3_setComes F a0 a1 h) := by
  delta f_X3_setComes
  refine GM_of (lv := [(0, .ref a0), (1, .int a1)]) (by decide +kernel) (Nat.le_of_ble_eq_true rfl) rfl ?_
  refine g_aload_n 0 dX3_setComes_0 rfl ?_
  refine g_iload_n 1 dX3_setComes_1 rfl ?_
  refine g_putI fl_RX3_25 (Or.inl rfl) dX3_setComes_2 (fun h1 => ?_)
  refine g_aload_n 0 dX3_setComes_5 rfl ?_
  refine g_aload_n 0 dX3_setComes_6 rfl ?_
  refine g_getI fl_RX3_21 rfl dX3_setComes_7 (fun v2 => ?_)
  refine g_putI fl_RX3_28 (Or.inl rfl) dX3_setComes_10 (fun h3 => ?_)
  exact g_vret rfl dX3_setComes_13
set_option maxRecDepth 100000 in
noncomputable def f_X3_setMay (F : Nat) (a0 : Nat) (a1 : Int32) (h : Hp) : Option (Unit × Hp) :=
  pI 4 h a0 4 a1 fun h1 => gI 4 h1 a0 1 fun v2 => pI 4 h1 a0 5 v2 fun h3 => some ((), h3)
set_option maxRecDepth 100000 in
set_option maxHeartbeats 4000000 in
theorem T_X3_setMay (F : Nat) (a0 : Nat) (a1 : Int32) (h : Hp) : GM rvV I_X3_setMay 1 [.ref a0, .int a1] h (f_X3_setMay F a0 a1 h) := by
  delta f_X3_setMay
  refine GM_of (lv := [(0, .ref a0), (1, .int a1)]) (by decide +kernel) (Nat.le_of_ble_eq_true rfl) rfl ?_
  refine g_aload_n 0 dX3_setMay_0 rfl ?_
  refine g_iload_n 1 dX3_setMay_1 rfl ?_
  refine g_putI fl_RX3_31 (Or.inl rfl) dX3_setMay_2 (fun h1 => ?_)
  refine g_aload_n 0 dX3_setMay_5 rfl ?_
  refine g_aload_n 0 dX3_setMay_6 rfl ?_
  refine g_getI fl_RX3_21 rfl dX3_setMay_7 (fun v2 => ?_)
  refine g_putI fl_RX3_34 (Or.inl rfl) dX3_setMay_10 (fun h3 => ?_)
  exact g_vret rfl dX3_setMay_13
set_option maxRecDepth 100000 in
noncomputable def f_X3_add (F : Nat) (a0 : Nat) (a1 : Int32) (h : Hp) : Option (Unit × Hp) :=
  gI 4 h a0 1 fun v1 => gR 4 h a0 0 fun v2 => al 20 h v2 fun v3 => if v3 ≤ v1 then (some ((), h)) else (gR 4 h a0 0 fun v5 => gI 4 h a0 1 fun v6 => wI h v5 v6 a1 fun h7 => gI 4 h7 a0 1 fun v8 => pI 4 h7 a0 1 (v8 + 1) fun h9 => some ((), h9))
set_option maxRecDepth 100000 in
set_option maxHeartbeats 4000000 in
theorem T_X3_add (F : Nat) (a0 : Nat) (a1 : Int32) (h : Hp) : GM rvV I_X3_add 1 [.ref a0, .int a1] h (f_X3_add F a0 a1 h) := by
  delta f_X3_add
  refine GM_of (lv := [(0, .ref a0), (1, .int a1)]) (by decide +kernel) (Nat.le_of_ble_eq_true rfl) rfl ?_
  refine g_aload_n 0 dX3_add_0 rfl ?_
  refine g_getI fl_RX3_21 rfl dX3_add_1 (fun v1 => ?_)
  refine g_aload_n 0 dX3_add_4 rfl ?_
  refine g_getR fl_RX3_9 rfl dX3_add_5 (fun v2 => ?_)
  refine g_alen (by decide) (by decide) dX3_add_8 (fun v3 => ?_)
  refine g_icmp_ge (tgt := 32) dX3_add_9 (by decide) (fun c4 => ?_) (fun c4 => ?_)
  · exact g_vret rfl dX3_add_32
  · refine g_aload_n 0 dX3_add_12 rfl ?_
    refine g_getR fl_RX3_9 rfl dX3_add_13 (fun v5 => ?_)
    refine g_aload_n 0 dX3_add_16 rfl ?_
    refine g_getI fl_RX3_21 rfl dX3_add_17 (fun v6 => ?_)
    refine g_iload_n 1 dX3_add_20 rfl ?_
    refine g_iast dX3_add_21 (fun h7 => ?_)
    refine g_aload_n 0 dX3_add_22 rfl ?_
    refine g_dup dX3_add_23 rfl ?_
    refine g_getI fl_RX3_21 rfl dX3_add_24 (fun v8 => ?_)
    refine g_iconst (v := 1) dX3_add_27 (by decide) ?_
    refine g_iadd dX3_add_28 ?_
    refine g_putI fl_RX3_21 (Or.inl rfl) dX3_add_29 (fun h9 => ?_)
    exact g_vret rfl dX3_add_32
set_option maxRecDepth 100000 in
noncomputable def f_X5_opens (F : Nat) (a0 : Nat) (a1 : Int32) (h : Hp) : Option (Int32 × Hp) :=
  if a1 < 6 then (cV 6 h a0 (f_X5_advance F a0 h) fun v2 h3 => some (1, h3)) else (cV 6 h a0 (f_X5_fail F a0 4 h) fun v4 h5 => some (0, h5))
set_option maxRecDepth 100000 in
set_option maxHeartbeats 4000000 in
theorem T_X5_opens (F : Nat) (a0 : Nat) (a1 : Int32) (h : Hp) : GM rvI I_X5_opens 7 [.ref a0, .int a1] h (f_X5_opens F a0 a1 h) := by
  delta f_X5_opens
  refine GM_of (lv := [(0, .ref a0), (1, .int a1)]) (by decide +kernel) (Nat.le_of_ble_eq_true rfl) rfl ?_
  refine g_iload_n 1 dX5_opens_0 rfl ?_
  refine g_bipush (v := 6) dX5_opens_1 (by decide) ?_
  refine g_icmp_lt (tgt := 13) dX5_opens_3 (by decide) (fun c1 => ?_) (fun c1 => ?_)
  · refine g_aload_n 0 dX5_opens_13 rfl ?_
    refine g_callVv (J := I_X5_advance) (t := 6) (As := []) (rest := []) mjv_X5_advance ml_RX5_51 ⟨rfl, by decide, by decide⟩ (by decide) rfl rfl (Nat.le_of_ble_eq_true rfl) dX5_opens_14 (T_X5_advance F a0 h) (fun v2 h3 => ?_)
    refine g_iconst (v := 1) dX5_opens_17 (by decide) ?_
    exact g_zret (ty := .boolean) rfl rfl dX5_opens_18
  · refine g_aload_n 0 dX5_opens_6 rfl ?_
    refine g_iconst (v := 4) dX5_opens_7 (by decide) ?_
    refine g_callVv (J := I_X5_fail) (t := 6) (As := [.int 4]) (rest := []) mjv_X5_fail ml_RX5_77 ⟨rfl, by decide, by decide⟩ (by decide) rfl rfl (Nat.le_of_ble_eq_true rfl) dX5_opens_8 (T_X5_fail F a0 4 h) (fun v4 h5 => ?_)
    refine g_iconst (v := 0) dX5_opens_11 (by decide) ?_
    exact g_zret (ty := .boolean) rfl rfl dX5_opens_12
set_option maxRecDepth 100000 in
noncomputable def f_X5_stepOfToken (F : Nat) (a0 : Nat) (h : Hp) : Option (Int32 × Hp) :=
  gI 6 h a0 6 fun v1 => if v1 = 2 then (gI 6 h a0 7 fun v3 => some ((100 + v3), h)) else (if v1 = 201 then (some (1, h)) else (if v1 = 203 then (gI 6 h a0 10 fun v6 => if v6 = 0 then (some (5, h)) else (some ((-1), h))) else (if v1 = 207 then (some (2, h)) else (if v1 = 215 then (some (0, h)) else (if v1 = 216 then (some (3, h)) else (if v1 = 217 then (some (4, h)) else (some ((-1), h))))))))
set_option maxRecDepth 100000 in
set_option maxHeartbeats 4000000 in
theorem T_X5_stepOfToken (F : Nat) (a0 : Nat) (h : Hp) : GM rvI I_X5_stepOfToken 1 [.ref a0] h (f_X5_stepOfToken F a0 h) := by
  delta f_X5_stepOfToken
  refine GM_of (lv := [(0, .ref a0)]) (by decide +kernel) (Nat.le_of_ble_eq_true rfl) rfl ?_
  refine g_aload_n 0 dX5_stepOfToken_0 rfl ?_
  refine g_getI fl_RX5_61 rfl dX5_stepOfToken_1 (fun v1 => ?_)
  refine G_ite (fun c2 => ?_) (fun c2 => ?_)
  · refine g_look (68) dX5_stepOfToken_4 (by decide) (by rw [c2]; decide) (by decide) (tgt := 72) ?_
    refine g_bipush (v := 100) dX5_stepOfToken_72 (by decide) ?_
    refine g_aload_n 0 dX5_stepOfToken_74 rfl ?_
    refine g_getI fl_RX5_80 rfl dX5_stepOfToken_75 (fun v3 => ?_)
    refine g_iadd dX5_stepOfToken_78 ?_
    exact g_iret rfl dX5_stepOfToken_79
  · refine G_ite (fun c4 => ?_) (fun c4 => ?_)
    · refine g_look (78) dX5_stepOfToken_4 (by decide) (by rw [c4]; decide) (by decide) (tgt := 82) ?_
      refine g_iconst (v := 1) dX5_stepOfToken_82 (by decide) ?_
      exact g_iret rfl dX5_stepOfToken_83
    · refine G_ite (fun c5 => ?_) (fun c5 => ?_)
      · refine g_look (86) dX5_stepOfToken_4 (by decide) (by rw [c5]; decide) (by decide) (tgt := 90) ?_
        refine g_aload_n 0 dX5_stepOfToken_90 rfl ?_
        refine g_getI fl_RX5_144 rfl dX5_stepOfToken_91 (fun v6 => ?_)
        refine g_if_eq (tgt := 101) dX5_stepOfToken_94 (by decide) (fun c7 => ?_) (fun c7 => ?_)
        · refine g_iconst (v := 5) dX5_stepOfToken_101 (by decide) ?_
          exact g_iret rfl dX5_stepOfToken_102
        · refine g_iconst (v := (-1)) dX5_stepOfToken_97 (by decide) ?_
          refine g_goto (tgt := 102) dX5_stepOfToken_98 (by decide) ?_
          exact g_iret rfl dX5_stepOfToken_102
      · refine G_ite (fun c8 => ?_) (fun c8 => ?_)
        · refine g_look (80) dX5_stepOfToken_4 (by decide) (by rw [c8]; decide) (by decide) (tgt := 84) ?_
          refine g_iconst (v := 2) dX5_stepOfToken_84 (by decide) ?_
          exact g_iret rfl dX5_stepOfToken_85
        · refine G_ite (fun c9 => ?_) (fun c9 => ?_)
          · refine g_look (76) dX5_stepOfToken_4 (by decide) (by rw [c9]; decide) (by decide) (tgt := 80) ?_
            refine g_iconst (v := 0) dX5_stepOfToken_80 (by decide) ?_
            exact g_iret rfl dX5_stepOfToken_81
          · refine G_ite (fun c10 => ?_) (fun c10 => ?_)
            · refine g_look (82) dX5_stepOfToken_4 (by decide) (by rw [c10]; decide) (by decide) (tgt := 86) ?_
              refine g_iconst (v := 3) dX5_stepOfToken_86 (by decide) ?_
              exact g_iret rfl dX5_stepOfToken_87
            · refine G_ite (fun c11 => ?_) (fun c11 => ?_)
              · refine g_look (84) dX5_stepOfToken_4 (by decide) (by rw [c11]; decide) (by decide) (tgt := 88) ?_
                refine g_iconst (v := 4) dX5_stepOfToken_88 (by decide) ?_
                exact g_iret rfl dX5_stepOfToken_89
              · refine g_look (99) dX5_stepOfToken_4 (by decide) ((lv_osw c2 (by decide)).trans <| (lv_osw c4 (by decide)).trans <| (lv_osw c5 (by decide)).trans <| (lv_osw c8 (by decide)).trans <| (lv_osw c9 (by decide)).trans <| (lv_osw c10 (by decide)).trans <| (lv_osw c11 (by decide)).trans <|  rfl) (by decide) (tgt := 103) ?_
                refine g_iconst (v := (-1)) dX5_stepOfToken_103 (by decide) ?_
                exact g_iret rfl dX5_stepOfToken_104
set_option maxRecDepth 100000 in
noncomputable def f_X5_atom_w (F : Nat) (Rc : Nat → Nat → Int32 → Hp → Option (Unit × Hp)) (a0 : Nat) (a1 : Int32) (h : Hp) : Option (Unit × Hp) :=
  gI 6 h a0 6 fun v1 => if v1 = 40 then (cV 6 h a0 (f_X5_opens F a0 a1 h) fun v3 h4 => if v3 = 0 then (some ((), h4)) else (cV 6 h4 a0 (Rc 4 a0 (a1 + 1) h4) fun v6 h7 => cV 6 h7 a0 (f_X5_take F a0 41 h7) fun v8 h9 => some ((), h9))) else (gI 6 h a0 6 fun v10 => if v10 = 211 then (cV 6 h a0 (f_X5_opens F a0 a1 h) fun v12 h13 => if v12 = 0 then (some ((), h13)) else (cV 6 h13 a0 (Rc 2 a0 (a1 + 1) h13) fun v15 h16 => some ((), h16))) else (cV 6 h a0 (f_X5_stepOfToken F a0 h) fun v17 h18 => if 0 ≤ v17 then (gR 6 h18 a0 9 fun v20 => cV 4 h18 v20 (f_X3_add F v20 v17 h18) fun v21 h22 => cV 6 h22 a0 (f_X5_advance F a0 h22) fun v23 h24 => some ((), h24)) else (cV 6 h18 a0 (f_X5_fail F a0 2 h18) fun v25 h26 => some ((), h26))))
set_option maxRecDepth 100000 in
set_option maxHeartbeats 4000000 in
theorem T_X5_atom_w (F : Nat) {d dR : Nat} (hd1 : 8 ≤ d) (hdR : dR + 1 ≤ d) {Rc : Nat → Nat → Int32 → Hp → Option (Unit × Hp)} (hR : ∀ (w : Nat) (a0 : Nat) (a1 : Int32) (h : Hp), GM rvV (I_grp_X5_atom w) dR [.ref a0, .int a1] h (Rc w a0 a1 h)) (a0 : Nat) (a1 : Int32) (h : Hp) : GM rvV I_X5_atom d [.ref a0, .int a1] h (f_X5_atom_w F Rc a0 a1 h) := by
  delta f_X5_atom_w
  refine GM_of (lv := [(0, .ref a0), (1, .int a1)]) (by decide +kernel) (Nat.le_of_ble_eq_true rfl) rfl ?_
  refine g_aload_n 0 dX5_atom_0 rfl ?_
  refine g_getI fl_RX5_61 rfl dX5_atom_1 (fun v1 => ?_)
  refine g_bipush (v := 40) dX5_atom_4 (by decide) ?_
  refine g_icmp_ne (tgt := 33) dX5_atom_6 (by decide) (fun c2 => ?_) (fun c2 => ?_)
  · refine g_aload_n 0 dX5_atom_9 rfl ?_
    refine g_iload_n 1 dX5_atom_10 rfl ?_
    refine g_callVi (J := I_X5_opens) (t := 6) (As := [.int a1]) (rest := []) mjv_X5_opens ml_RX5_172 ⟨rfl, by decide, by decide⟩ (Nat.le_trans (by decide) hd1) rfl rfl (Nat.le_of_ble_eq_true rfl) dX5_atom_11 (T_X5_opens F a0 a1 h) (fun v3 h4 => ?_)
    refine g_if_eq (tgt := 90) dX5_atom_14 (by decide) (fun c5 => ?_) (fun c5 => ?_)
    · exact g_vret rfl dX5_atom_90
    · refine g_aload_n 0 dX5_atom_17 rfl ?_
      refine g_iload_n 1 dX5_atom_18 rfl ?_
      refine g_iconst (v := 1) dX5_atom_19 (by decide) ?_
      refine g_iadd dX5_atom_20 ?_
      refine g_callVv (J := I_X5_sum) (t := 6) (As := [.int (a1 + 1)]) (rest := []) mjv_X5_sum ml_RX5_157 ⟨rfl, by decide, by decide⟩ hdR rfl rfl (Nat.le_of_ble_eq_true rfl) dX5_atom_21 (hR 4 a0 (a1 + 1) h4) (fun v6 h7 => ?_)
      refine g_aload_n 0 dX5_atom_24 rfl ?_
      refine g_bipush (v := 41) dX5_atom_25 (by decide) ?_
      refine g_callVv (J := I_X5_take) (t := 6) (As := [.int 41]) (rest := []) mjv_X5_take ml_RX5_54 ⟨rfl, by decide, by decide⟩ (Nat.le_trans (by decide) hd1) rfl rfl (Nat.le_of_ble_eq_true rfl) dX5_atom_27 (T_X5_take F a0 41 h7) (fun v8 h9 => ?_)
      refine g_goto (tgt := 90) dX5_atom_30 (by decide) ?_
      exact g_vret rfl dX5_atom_90
  · refine g_aload_n 0 dX5_atom_33 rfl ?_
    refine g_getI fl_RX5_61 rfl dX5_atom_34 (fun v10 => ?_)
    refine g_sipush (v := 211) dX5_atom_37 (by decide) ?_
    refine g_icmp_ne (tgt := 61) dX5_atom_40 (by decide) (fun c11 => ?_) (fun c11 => ?_)
    · refine g_aload_n 0 dX5_atom_43 rfl ?_
      refine g_iload_n 1 dX5_atom_44 rfl ?_
      refine g_callVi (J := I_X5_opens) (t := 6) (As := [.int a1]) (rest := []) mjv_X5_opens ml_RX5_172 ⟨rfl, by decide, by decide⟩ (Nat.le_trans (by decide) hd1) rfl rfl (Nat.le_of_ble_eq_true rfl) dX5_atom_45 (T_X5_opens F a0 a1 h) (fun v12 h13 => ?_)
      refine g_if_eq (tgt := 90) dX5_atom_48 (by decide) (fun c14 => ?_) (fun c14 => ?_)
      · exact g_vret rfl dX5_atom_90
      · refine g_aload_n 0 dX5_atom_51 rfl ?_
        refine g_iload_n 1 dX5_atom_52 rfl ?_
        refine g_iconst (v := 1) dX5_atom_53 (by decide) ?_
        refine g_iadd dX5_atom_54 ?_
        refine g_callVv (J := I_X5_choice) (t := 6) (As := [.int (a1 + 1)]) (rest := []) mjv_X5_choice ml_RX5_176 ⟨rfl, by decide, by decide⟩ hdR rfl rfl (Nat.le_of_ble_eq_true rfl) dX5_atom_55 (hR 2 a0 (a1 + 1) h13) (fun v15 h16 => ?_)
        refine g_goto (tgt := 90) dX5_atom_58 (by decide) ?_
        exact g_vret rfl dX5_atom_90
    · refine g_aload_n 0 dX5_atom_61 rfl ?_
      refine g_callVi (J := I_X5_stepOfToken) (t := 6) (As := []) (rest := []) mjv_X5_stepOfToken ml_RX5_179 ⟨rfl, by decide, by decide⟩ (Nat.le_trans (by decide) hd1) rfl rfl (Nat.le_of_ble_eq_true rfl) dX5_atom_62 (T_X5_stepOfToken F a0 h) (fun v17 h18 => ?_)
      refine g_istore_n (lv' := [(2, .int v17), (0, .ref a0), (1, .int a1)]) dX5_atom_65 (by decide) rfl ?_
      refine g_iload_n 0 dX5_atom_66 rfl ?_
      refine g_if_ge (tgt := 78) dX5_atom_67 (by decide) (fun c19 => ?_) (fun c19 => ?_)
      · refine g_aload_n 1 dX5_atom_78 rfl ?_
        refine g_getR fl_RX5_22 rfl dX5_atom_79 (fun v20 => ?_)
        refine g_iload_n 0 dX5_atom_82 rfl ?_
        refine g_callVv (J := I_X3_add) (t := 4) (As := [.int v17]) (rest := []) mjv_X3_add ml_RX5_166 ⟨rfl, by decide, by decide⟩ (Nat.le_trans (by decide) hd1) rfl rfl (Nat.le_of_ble_eq_true rfl) dX5_atom_83 (T_X3_add F v20 v17 h18) (fun v21 h22 => ?_)
        refine g_aload_n 1 dX5_atom_86 rfl ?_
        refine g_callVv (J := I_X5_advance) (t := 6) (As := []) (rest := []) mjv_X5_advance ml_RX5_51 ⟨rfl, by decide, by decide⟩ (Nat.le_trans (by decide) hd1) rfl rfl (Nat.le_of_ble_eq_true rfl) dX5_atom_87 (T_X5_advance F a0 h22) (fun v23 h24 => ?_)
        exact g_vret rfl dX5_atom_90
      · refine g_aload_n 1 dX5_atom_70 rfl ?_
        refine g_iconst (v := 2) dX5_atom_71 (by decide) ?_
        refine g_callVv (J := I_X5_fail) (t := 6) (As := [.int 2]) (rest := []) mjv_X5_fail ml_RX5_77 ⟨rfl, by decide, by decide⟩ (Nat.le_trans (by decide) hd1) rfl rfl (Nat.le_of_ble_eq_true rfl) dX5_atom_72 (T_X5_fail F a0 2 h18) (fun v25 h26 => ?_)
        refine g_goto (tgt := 90) dX5_atom_75 (by decide) ?_
        exact g_vret rfl dX5_atom_90
