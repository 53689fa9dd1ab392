/-! L2, by program (wip/whole/gen/gen.py) -/
set_option maxRecDepth 100000 in
noncomputable def f_X5_reads_135 (F : Nat) (l0 : Nat) (h : Hp) : Option (Int32 × Hp) :=
  gI 6 h l0 0 fun v35 => if v35 = 0 then (some (1, h)) else (some (0, h))
set_option maxRecDepth 100000 in
set_option maxHeartbeats 4000000 in
theorem T_X5_reads_135 (F : Nat) (l0 : Nat) (h : Hp) : G rvI I_X5_reads 75 135 [(0, .ref l0)] [] h (f_X5_reads_135 F l0 h) := by
  delta f_X5_reads_135
  refine g_aload_n 0 dX5_reads_135 rfl ?_
  refine g_getI fl_RX5_39 rfl dX5_reads_136 (fun v35 => ?_)
  refine g_if_ne (tgt := 146) dX5_reads_139 (by decide) (fun c36 => ?_) (fun c36 => ?_)
  · refine g_iconst (v := 1) dX5_reads_142 (by decide) ?_
    refine g_goto (tgt := 147) dX5_reads_143 (by decide) ?_
    exact g_zret (ty := .boolean) rfl rfl dX5_reads_147
  · refine g_iconst (v := 0) dX5_reads_146 (by decide) ?_
    exact g_zret (ty := .boolean) rfl rfl dX5_reads_147
set_option maxRecDepth 100000 in
noncomputable def f_X5_reads_110 (F : Nat) (l0 : Nat) (h : Hp) : Option (Int32 × Hp) :=
  gI 6 h l0 0 fun v26 => if v26 = 0 then (gR 6 h l0 8 fun v28 => cV 3 h v28 (f_X2_weighDoings F v28 h) fun v29 h30 => gR 6 h30 l0 9 fun v31 => gR 6 h30 l0 8 fun v32 => cV 4 h30 v31 (f_X3_weigh F v31 v32 h30) fun v33 h34 => f_X5_reads_135 F l0 h34) else (f_X5_reads_135 F l0 h)
set_option maxRecDepth 100000 in
set_option maxHeartbeats 4000000 in
theorem T_X5_reads_110 (F : Nat) (l0 : Nat) (h : Hp) : G rvI I_X5_reads 75 110 [(0, .ref l0)] [] h (f_X5_reads_110 F l0 h) := by
  delta f_X5_reads_110
  refine g_aload_n 0 dX5_reads_110 rfl ?_
  refine g_getI fl_RX5_39 rfl dX5_reads_111 (fun v26 => ?_)
  refine g_if_ne (tgt := 135) dX5_reads_114 (by decide) (fun c27 => ?_) (fun c27 => ?_)
  · refine g_aload_n 0 dX5_reads_117 rfl ?_
    refine g_getR fl_RX5_26 rfl dX5_reads_118 (fun v28 => ?_)
    refine g_callVv (J := I_X2_weighDoings) (t := 3) (As := []) (rest := []) mjv_X2_weighDoings ml_RX5_67 ⟨rfl, by decide, by decide⟩ (by decide) rfl rfl (Nat.le_of_ble_eq_true rfl) dX5_reads_121 (T_X2_weighDoings F v28 h) (fun v29 h30 => ?_)
    refine g_aload_n 0 dX5_reads_124 rfl ?_
    refine g_getR fl_RX5_22 rfl dX5_reads_125 (fun v31 => ?_)
    refine g_aload_n 0 dX5_reads_128 rfl ?_
    refine g_getR fl_RX5_26 rfl dX5_reads_129 (fun v32 => ?_)
    refine g_callVv (J := I_X3_weigh) (t := 4) (As := [.ref v32]) (rest := []) mjv_X3_weigh ml_RX5_70 ⟨rfl, by decide, by decide⟩ (by decide) rfl rfl (Nat.le_of_ble_eq_true rfl) dX5_reads_132 (T_X3_weigh F v31 v32 h30) (fun v33 h34 => ?_)
    refine G_lv [0] rfl ?_
    exact T_X5_reads_135 F l0 h34
  · refine G_lv [0] rfl ?_
    exact T_X5_reads_135 F l0 h
set_option maxRecDepth 100000 in
noncomputable def f_X5_reads_77_b (F : Nat) (K77 : Nat → Int32 → Hp → Option (Int32 × Hp)) (l0 : Nat) (l4 : Int32) (h : Hp) : Option (Int32 × Hp) :=
  gI 6 h l0 3 fun v24 => if v24 ≤ l4 then (f_X5_reads_110 F l0 h) else (gI 6 h l0 0 fun v37 => if v37 = 0 then (gI 6 h l0 6 fun v39 => if v39 = 0 then (f_X5_reads_110 F l0 h) else (cV 6 h l0 (f_X5_line F l0 h) fun v41 h42 => K77 l0 (l4 + 1) h42)) else (f_X5_reads_110 F l0 h))
set_option maxRecDepth 100000 in
set_option maxHeartbeats 4000000 in
theorem T_X5_reads_77_b (F : Nat) {K77 : Nat → Int32 → Hp → Option (Int32 × Hp)} (hK77 : ∀ (l0 : Nat) (l4 : Int32) (h : Hp), G rvI I_X5_reads 75 77 [(0, .ref l0), (4, .int l4)] [] h (K77 l0 l4 h)) (l0 : Nat) (l4 : Int32) (h : Hp) : G rvI I_X5_reads 75 77 [(0, .ref l0), (4, .int l4)] [] h (f_X5_reads_77_b F K77 l0 l4 h) := by
  delta f_X5_reads_77_b
  refine g_iload 1 dX5_reads_77 rfl ?_
  refine g_aload_n 0 dX5_reads_79 rfl ?_
  refine g_getI fl_RX5_36 rfl dX5_reads_80 (fun v24 => ?_)
  refine g_icmp_ge (tgt := 110) dX5_reads_83 (by decide) (fun c25 => ?_) (fun c25 => ?_)
  · refine G_lv [0] rfl ?_
    exact T_X5_reads_110 F l0 h
  · refine g_aload_n 0 dX5_reads_86 rfl ?_
    refine g_getI fl_RX5_39 rfl dX5_reads_87 (fun v37 => ?_)
    refine g_if_ne (tgt := 110) dX5_reads_90 (by decide) (fun c38 => ?_) (fun c38 => ?_)
    · refine g_aload_n 0 dX5_reads_93 rfl ?_
      refine g_getI fl_RX5_61 rfl dX5_reads_94 (fun v39 => ?_)
      refine g_if_eq (tgt := 110) dX5_reads_97 (by decide) (fun c40 => ?_) (fun c40 => ?_)
      · refine G_lv [0] rfl ?_
        exact T_X5_reads_110 F l0 h
      · refine g_aload_n 0 dX5_reads_100 rfl ?_
        refine g_callVv (J := I_X5_line) (t := 6) (As := []) (rest := []) mjv_X5_line ml_RX5_64 ⟨rfl, by decide, by decide⟩ (by decide) rfl rfl (Nat.le_of_ble_eq_true rfl) dX5_reads_101 (T_X5_line F l0 h) (fun v41 h42 => ?_)
        refine g_iinc (v' := l4 + 1) (lv' := [(4, .int (l4 + 1)), (0, .ref l0)]) 1 dX5_reads_104 rfl rfl (by decide) rfl ?_
        refine g_goto (tgt := 77) dX5_reads_107 (by decide) ?_
        refine G_lv [1, 0] rfl ?_
        exact hK77 l0 (l4 + 1) h42
    · refine G_lv [0] rfl ?_
      exact T_X5_reads_110 F l0 h
set_option maxRecDepth 100000 in
noncomputable def f_X5_reads_77 (F : Nat) : Nat → Nat → Int32 → Hp → Option (Int32 × Hp)
  | 0, _, _, _ => none
  | n + 1, l0, l4, h => f_X5_reads_77_b F (f_X5_reads_77 F n) l0 l4 h
set_option maxRecDepth 100000 in
set_option maxHeartbeats 4000000 in
theorem T_X5_reads_77 (F : Nat) : ∀ (n : Nat) (l0 : Nat) (l4 : Int32) (h : Hp), G rvI I_X5_reads 75 77 [(0, .ref l0), (4, .int l4)] [] h (f_X5_reads_77 F n l0 l4 h) := by
  intro n
  induction n with
  | zero => intros; exact G_none
  | succ n ih => intro l0 l4 h; exact T_X5_reads_77_b F ih l0 l4 h
set_option maxRecDepth 100000 in
noncomputable def f_X5_reads (F : Nat) (a0 : Nat) (a1 : Nat) (a2 : Int32) (a3 : Nat) (h : Hp) : Option (Int32 × Hp) :=
  pR 6 h a0 2 a1 fun h1 => al 21 h1 a1 fun v2 => bd (f_J9_min_7cf53 F a2 v2 h1) fun v3 h4 => pI 6 h4 a0 3 v3 fun h5 => pI 6 h5 a0 0 0 fun h6 => pI 6 h6 a0 1 (-1) fun h7 => pI 6 h7 a0 5 0 fun h8 => pR 6 h8 a0 8 a3 fun h9 => gR 6 h9 a0 8 fun v10 => cV 3 h9 v10 (f_X2_clear F v10 h9) fun v11 h12 => gR 6 h12 a0 9 fun v13 => cV 4 h12 v13 (f_X3_clear F v13 h12) fun v14 h15 => cV 6 h15 a0 (f_X5_advance F a0 h15) fun v16 h17 => cV 6 h17 a0 (f_X5_take F a0 200 h17) fun v18 h19 => cV 6 h19 a0 (f_X5_take F a0 59 h19) fun v20 h21 => gR 6 h21 a0 8 fun v22 => pI 3 h21 v22 2 1 fun h23 => f_X5_reads_77 F F a0 0 h23
set_option maxRecDepth 100000 in
set_option maxHeartbeats 4000000 in
theorem T_X5_reads (F : Nat) (a0 : Nat) (a1 : Nat) (a2 : Int32) (a3 : Nat) (h : Hp) : GM rvI I_X5_reads 75 [.ref a0, .ref a1, .int a2, .ref a3] h (f_X5_reads F a0 a1 a2 a3 h) := by
  delta f_X5_reads
  refine GM_of (lv := [(0, .ref a0), (1, .ref a1), (2, .int a2), (3, .ref a3)]) (by decide +kernel) (Nat.le_of_ble_eq_true rfl) rfl ?_
  refine g_aload_n 0 dX5_reads_0 rfl ?_
  refine g_aload_n 1 dX5_reads_1 rfl ?_
  refine g_putR fl_RX5_15 rfl (Or.inl rfl) dX5_reads_2 (fun h1 => ?_)
  refine g_aload_n 0 dX5_reads_5 rfl ?_
  refine g_iload_n 2 dX5_reads_6 rfl ?_
  refine g_aload_n 1 dX5_reads_7 rfl ?_
  refine g_alen (by decide) (by decide) dX5_reads_8 (fun v2 => ?_)
  refine g_callSi (J := I_J9_min_7cf53) (As := [.int a2, .int v2]) (rest := [.ref a0]) mjs_J9_min_7cf53 ml_RX5_30 (by decide) rfl rfl (Nat.le_of_ble_eq_true rfl) dX5_reads_9 (T_J9_min_7cf53 F a2 v2 h1) (fun v3 h4 => ?_)
  refine g_putI fl_RX5_36 (Or.inl rfl) dX5_reads_12 (fun h5 => ?_)
  refine g_aload_n 0 dX5_reads_15 rfl ?_
  refine g_iconst (v := 0) dX5_reads_16 (by decide) ?_
  refine g_putI fl_RX5_39 (Or.inl rfl) dX5_reads_17 (fun h6 => ?_)
  refine g_aload_n 0 dX5_reads_20 rfl ?_
  refine g_iconst (v := (-1)) dX5_reads_21 (by decide) ?_
  refine g_putI fl_RX5_9 (Or.inl rfl) dX5_reads_22 (fun h7 => ?_)
  refine g_aload_n 0 dX5_reads_25 rfl ?_
  refine g_iconst (v := 0) dX5_reads_26 (by decide) ?_
  refine g_putI fl_RX5_42 (Or.inl rfl) dX5_reads_27 (fun h8 => ?_)
  refine g_aload_n 0 dX5_reads_30 rfl ?_
  refine g_aload_n 3 dX5_reads_31 rfl ?_
  refine g_putR fl_RX5_26 rfl (Or.inl rfl) dX5_reads_32 (fun h9 => ?_)
  refine g_aload_n 0 dX5_reads_35 rfl ?_
  refine g_getR fl_RX5_26 rfl dX5_reads_36 (fun v10 => ?_)
  refine g_callVv (J := I_X2_clear) (t := 3) (As := []) (rest := []) mjv_X2_clear ml_RX5_45 ⟨rfl, by decide, by decide⟩ (by decide) rfl rfl (Nat.le_of_ble_eq_true rfl) dX5_reads_39 (T_X2_clear F v10 h9) (fun v11 h12 => ?_)
  refine g_aload_n 0 dX5_reads_42 rfl ?_
  refine g_getR fl_RX5_22 rfl dX5_reads_43 (fun v13 => ?_)
  refine g_callVv (J := I_X3_clear) (t := 4) (As := []) (rest := []) mjv_X3_clear ml_RX5_50 ⟨rfl, by decide, by decide⟩ (by decide) rfl rfl (Nat.le_of_ble_eq_true rfl) dX5_reads_46 (T_X3_clear F v13 h12) (fun v14 h15 => ?_)
  refine g_aload_n 0 dX5_reads_49 rfl ?_
  refine g_callVv (J := I_X5_advance) (t := 6) (As := []) (rest := []) mjv_X5_advance ml_RX5_51 ⟨rfl, by decide, by decide⟩ (by decide) rfl rfl (Nat.le_of_ble_eq_true rfl) dX5_reads_50 (T_X5_advance F a0 h15) (fun v16 h17 => ?_)
  refine g_aload_n 0 dX5_reads_53 rfl ?_
  refine g_sipush (v := 200) dX5_reads_54 (by decide) ?_
  refine g_callVv (J := I_X5_take) (t := 6) (As := [.int 200]) (rest := []) mjv_X5_take ml_RX5_54 ⟨rfl, by decide, by decide⟩ (by decide) rfl rfl (Nat.le_of_ble_eq_true rfl) dX5_reads_57 (T_X5_take F a0 200 h17) (fun v18 h19 => ?_)
  refine g_aload_n 0 dX5_reads_60 rfl ?_
  refine g_bipush (v := 59) dX5_reads_61 (by decide) ?_
  refine g_callVv (J := I_X5_take) (t := 6) (As := [.int 59]) (rest := []) mjv_X5_take ml_RX5_54 ⟨rfl, by decide, by decide⟩ (by decide) rfl rfl (Nat.le_of_ble_eq_true rfl) dX5_reads_63 (T_X5_take F a0 59 h19) (fun v20 h21 => ?_)
  refine g_aload_n 0 dX5_reads_66 rfl ?_
  refine g_getR fl_RX5_26 rfl dX5_reads_67 (fun v22 => ?_)
  refine g_iconst (v := 1) dX5_reads_70 (by decide) ?_
  refine g_putI fl_RX5_58 (Or.inl rfl) dX5_reads_71 (fun h23 => ?_)
  refine g_iconst (v := 0) dX5_reads_74 (by decide) ?_
  refine g_istore (lv' := [(4, .int 0), (0, .ref a0), (1, .ref a1), (2, .int a2), (3, .ref a3)]) dX5_reads_75 (by decide) rfl ?_
  refine G_lv [1, 0] rfl ?_
  exact T_X5_reads_77 F F a0 0 h23
set_option maxRecDepth 100000 in
noncomputable def f_X11_house (F : Nat) (a0 : Nat) (a1 : Int32) (h : Hp) : Option (Int32 × Hp) :=
  if a1 < 0 then (some ((-3), h)) else (gI 12 h a0 1 fun v2 => if a1 ≤ v2 then (pI 12 h a0 1 0 fun h4 => gR 12 h4 a0 11 fun v5 => cV 8 h4 v5 (f_X7_drop F v5 h4) fun v6 h7 => gR 12 h7 a0 12 fun v8 => cV 8 h7 v8 (f_X7_drop F v8 h7) fun v9 h10 => cV 12 h10 a0 (f_X11_spareHouse F a0 h10) fun v11 h12 => gR 12 h12 a0 4 fun v13 => gR 12 h12 a0 0 fun v14 => cV 6 h12 v13 (f_X5_reads F v13 v14 a1 v11 h12) fun v15 h16 => if v15 = 0 then (gR 12 h16 a0 4 fun v18 => gI 6 h16 v18 0 fun v19 => some (((-30) - v19), h16)) else (pR 12 h16 a0 3 v11 fun h20 => gR 12 h20 a0 5 fun v21 => gI 3 h20 v11 4 fun v22 => pI 9 h20 v21 0 v22 fun h23 => gR 12 h23 a0 5 fun v24 => gI 3 h23 v11 3 fun v25 => pI 9 h23 v24 1 v25 fun h26 => gR 12 h26 a0 7 fun v27 => cV 5 h26 v27 (f_X4_clear F v27 h26) fun v28 h29 => gR 12 h29 a0 3 fun v30 => gI 3 h29 v30 2 fun v31 => some (v31, h29))) else (some ((-3), h)))
set_option maxRecDepth 100000 in
set_option maxHeartbeats 4000000 in
theorem T_X11_house (F : Nat) (a0 : Nat) (a1 : Int32) (h : Hp) : GM rvI I_X11_house 76 [.ref a0, .int a1] h (f_X11_house F a0 a1 h) := by
  delta f_X11_house
  refine GM_of (lv := [(0, .ref a0), (1, .int a1)]) (by decide +kernel) (Nat.le_of_ble_eq_true rfl) rfl ?_
  refine g_iload_n 1 dX11_house_0 rfl ?_
  refine g_if_lt (tgt := 12) dX11_house_1 (by decide) (fun c1 => ?_) (fun c1 => ?_)
  · refine g_bipush (v := (-3)) dX11_house_12 (by decide) ?_
    exact g_iret rfl dX11_house_14
  · refine g_iload_n 1 dX11_house_4 rfl ?_
    refine g_aload_n 0 dX11_house_5 rfl ?_
    refine g_getI fl_RX11_102 rfl dX11_house_6 (fun v2 => ?_)
    refine g_icmp_le (tgt := 15) dX11_house_9 (by decide) (fun c3 => ?_) (fun c3 => ?_)
    · refine g_aload_n 0 dX11_house_15 rfl ?_
      refine g_iconst (v := 0) dX11_house_16 (by decide) ?_
      refine g_putI fl_RX11_102 (Or.inl rfl) dX11_house_17 (fun h4 => ?_)
      refine g_aload_n 0 dX11_house_20 rfl ?_
      refine g_getR fl_RX11_66 rfl dX11_house_21 (fun v5 => ?_)
      refine g_callVv (J := I_X7_drop) (t := 8) (As := []) (rest := []) mjv_X7_drop ml_RX11_110 ⟨rfl, by decide, by decide⟩ (by decide) rfl rfl (Nat.le_of_ble_eq_true rfl) dX11_house_24 (T_X7_drop F v5 h4) (fun v6 h7 => ?_)
      refine g_aload_n 0 dX11_house_27 rfl ?_
      refine g_getR fl_RX11_70 rfl dX11_house_28 (fun v8 => ?_)
      refine g_callVv (J := I_X7_drop) (t := 8) (As := []) (rest := []) mjv_X7_drop ml_RX11_110 ⟨rfl, by decide, by decide⟩ (by decide) rfl rfl (Nat.le_of_ble_eq_true rfl) dX11_house_31 (T_X7_drop F v8 h7) (fun v9 h10 => ?_)
      refine g_aload_n 0 dX11_house_34 rfl ?_
      refine g_callVr (J := I_X11_spareHouse) (t := 12) (As := []) (rest := []) mjv_X11_spareHouse ml_RX11_113 ⟨rfl, by decide, by decide⟩ (by decide) rfl rfl (Nat.le_of_ble_eq_true rfl) dX11_house_35 (T_X11_spareHouse F a0 h10) (fun v11 h12 => ?_)
      refine g_astore_n (lv' := [(2, .ref v11), (0, .ref a0), (1, .int a1)]) dX11_house_38 (by decide) rfl ?_
      refine g_aload_n 1 dX11_house_39 rfl ?_
      refine g_getR fl_RX11_29 rfl dX11_house_40 (fun v13 => ?_)
      refine g_aload_n 1 dX11_house_43 rfl ?_
      refine g_getR fl_RX11_9 rfl dX11_house_44 (fun v14 => ?_)
      refine g_iload_n 2 dX11_house_47 rfl ?_
      refine g_aload_n 0 dX11_house_48 rfl ?_
      refine g_callVi (J := I_X5_reads) (t := 6) (As := [.ref v14, .int a1, .ref v11]) (rest := []) mjv_X5_reads ml_RX11_117 ⟨rfl, by decide, by decide⟩ (by decide) rfl rfl (Nat.le_of_ble_eq_true rfl) dX11_house_49 (T_X5_reads F v13 v14 a1 v11 h12) (fun v15 h16 => ?_)
      refine g_if_ne (tgt := 66) dX11_house_52 (by decide) (fun c17 => ?_) (fun c17 => ?_)
      · refine g_bipush (v := (-30)) dX11_house_55 (by decide) ?_
        refine g_aload_n 1 dX11_house_57 rfl ?_
        refine g_getR fl_RX11_29 rfl dX11_house_58 (fun v18 => ?_)
        refine g_getI fl_RX11_121 rfl dX11_house_61 (fun v19 => ?_)
        refine g_isub dX11_house_64 ?_
        exact g_iret rfl dX11_house_65
      · refine g_aload_n 1 dX11_house_66 rfl ?_
        refine g_aload_n 0 dX11_house_67 rfl ?_
        refine g_putR fl_RX11_20 rfl (Or.inl rfl) dX11_house_68 (fun h20 => ?_)
        refine g_aload_n 1 dX11_house_71 rfl ?_
        refine g_getR fl_RX11_36 rfl dX11_house_72 (fun v21 => ?_)
        refine g_aload_n 0 dX11_house_75 rfl ?_
        refine g_getI fl_RX11_124 rfl dX11_house_76 (fun v22 => ?_)
        refine g_putI fl_RX11_127 (Or.inl rfl) dX11_house_79 (fun h23 => ?_)
        refine g_aload_n 1 dX11_house_82 rfl ?_
        refine g_getR fl_RX11_36 rfl dX11_house_83 (fun v24 => ?_)
        refine g_aload_n 0 dX11_house_86 rfl ?_
        refine g_getI fl_RX11_130 rfl dX11_house_87 (fun v25 => ?_)
        refine g_putI fl_RX11_133 (Or.inl rfl) dX11_house_90 (fun h26 => ?_)
        refine g_aload_n 1 dX11_house_93 rfl ?_
        refine g_getR fl_RX11_46 rfl dX11_house_94 (fun v27 => ?_)
        refine g_callVv (J := I_X4_clear) (t := 5) (As := []) (rest := []) mjv_X4_clear ml_RX11_136 ⟨rfl, by decide, by decide⟩ (by decide) rfl rfl (Nat.le_of_ble_eq_true rfl) dX11_house_97 (T_X4_clear F v27 h26) (fun v28 h29 => ?_)
        refine g_aload_n 1 dX11_house_100 rfl ?_
        refine g_getR fl_RX11_20 rfl dX11_house_101 (fun v30 => ?_)
        refine g_getI fl_RX11_139 rfl dX11_house_104 (fun v31 => ?_)
        exact g_iret rfl dX11_house_107
    · refine g_bipush (v := (-3)) dX11_house_12 (by decide) ?_
      exact g_iret rfl dX11_house_14
set_option maxRecDepth 100000 in
noncomputable def f_X11_noImage (F : Nat) (a0 : Nat) (a1 : Int32) (h : Hp) : Option (Int32 × Hp) :=
  if a1 < 0 then (some (1, h)) else (gR 12 h a0 9 fun v2 => al 24 h v2 fun v3 => if v3 ≤ a1 then (some (1, h)) else (gR 12 h a0 10 fun v5 => al 25 h v5 fun v6 => if a1 < v6 then (some (0, h)) else (some (1, h))))
set_option maxRecDepth 100000 in
set_option maxHeartbeats 4000000 in
theorem T_X11_noImage (F : Nat) (a0 : Nat) (a1 : Int32) (h : Hp) : GM rvI I_X11_noImage 1 [.ref a0, .int a1] h (f_X11_noImage F a0 a1 h) := by
  delta f_X11_noImage
  refine GM_of (lv := [(0, .ref a0), (1, .int a1)]) (by decide +kernel) (Nat.le_of_ble_eq_true rfl) rfl ?_
  refine g_iload_n 1 dX11_noImage_0 rfl ?_
  refine g_if_lt (tgt := 22) dX11_noImage_1 (by decide) (fun c1 => ?_) (fun c1 => ?_)
  · refine g_iconst (v := 1) dX11_noImage_22 (by decide) ?_
    refine g_goto (tgt := 27) dX11_noImage_23 (by decide) ?_
    exact g_zret (ty := .boolean) rfl rfl dX11_noImage_27
  · refine g_iload_n 1 dX11_noImage_4 rfl ?_
    refine g_aload_n 0 dX11_noImage_5 rfl ?_
    refine g_getR fl_RX11_56 rfl dX11_noImage_6 (fun v2 => ?_)
    refine g_alen (by decide) (by decide) dX11_noImage_9 (fun v3 => ?_)
    refine g_icmp_ge (tgt := 22) dX11_noImage_10 (by decide) (fun c4 => ?_) (fun c4 => ?_)
    · refine g_iconst (v := 1) dX11_noImage_22 (by decide) ?_
      refine g_goto (tgt := 27) dX11_noImage_23 (by decide) ?_
      exact g_zret (ty := .boolean) rfl rfl dX11_noImage_27
    · refine g_iload_n 1 dX11_noImage_13 rfl ?_
      refine g_aload_n 0 dX11_noImage_14 rfl ?_
      refine g_getR fl_RX11_59 rfl dX11_noImage_15 (fun v5 => ?_)
      refine g_alen (by decide) (by decide) dX11_noImage_18 (fun v6 => ?_)
      refine g_icmp_lt (tgt := 26) dX11_noImage_19 (by decide) (fun c7 => ?_) (fun c7 => ?_)
      · refine g_iconst (v := 0) dX11_noImage_26 (by decide) ?_
        exact g_zret (ty := .boolean) rfl rfl dX11_noImage_27
      · refine g_iconst (v := 1) dX11_noImage_22 (by decide) ?_
        refine g_goto (tgt := 27) dX11_noImage_23 (by decide) ?_
        exact g_zret (ty := .boolean) rfl rfl dX11_noImage_27
set_option maxRecDepth 100000 in
noncomputable def f_X11_image (F : Nat) (a0 : Nat) (a1 : Int32) (h : Hp) : Option (Int32 × Hp) :=
  cV 12 h a0 (f_X11_noImage F a0 a1 h) fun v1 h2 => if v1 = 0 then (gR 12 h2 a0 9 fun v4 => gR 12 h2 a0 3 fun v5 => wR 24 h2 v4 a1 v5 fun h6 => gR 12 h6 a0 10 fun v7 => aR 25 h6 v7 a1 fun v8 => gR 12 h6 a0 5 fun v9 => cV 9 h6 v8 (f_X8_copy F v8 v9 h6) fun v10 h11 => some (0, h11)) else (some ((-2), h2))
set_option maxRecDepth 100000 in
set_option maxHeartbeats 4000000 in
theorem T_X11_image (F : Nat) (a0 : Nat) (a1 : Int32) (h : Hp) : GM rvI I_X11_image 2 [.ref a0, .int a1] h (f_X11_image F a0 a1 h) := by
  delta f_X11_image
  refine GM_of (lv := [(0, .ref a0), (1, .int a1)]) (by decide +kernel) (Nat.le_of_ble_eq_true rfl) rfl ?_
  refine g_aload_n 0 dX11_image_0 rfl ?_
  refine g_iload_n 1 dX11_image_1 rfl ?_
  refine g_callVi (J := I_X11_noImage) (t := 12) (As := [.int a1]) (rest := []) mjv_X11_noImage ml_RX11_386 ⟨rfl, by decide, by decide⟩ (by decide) rfl rfl (Nat.le_of_ble_eq_true rfl) dX11_image_2 (T_X11_noImage F a0 a1 h) (fun v1 h2 => ?_)
  refine g_if_eq (tgt := 11) dX11_image_5 (by decide) (fun c3 => ?_) (fun c3 => ?_)
  · refine g_aload_n 0 dX11_image_11 rfl ?_
    refine g_getR fl_RX11_56 rfl dX11_image_12 (fun v4 => ?_)
    refine g_iload_n 1 dX11_image_15 rfl ?_
    refine g_aload_n 0 dX11_image_16 rfl ?_
    refine g_getR fl_RX11_20 rfl dX11_image_17 (fun v5 => ?_)
    refine g_aast (by decide) (by decide) dX11_image_20 (fun h6 => ?_)
    refine g_aload_n 0 dX11_image_21 rfl ?_
    refine g_getR fl_RX11_59 rfl dX11_image_22 (fun v7 => ?_)
    refine g_iload_n 1 dX11_image_25 rfl ?_
    refine g_aald (by decide) (by decide) dX11_image_26 (fun v8 => ?_)
    refine g_aload_n 0 dX11_image_27 rfl ?_
    refine g_getR fl_RX11_36 rfl dX11_image_28 (fun v9 => ?_)
    refine g_callVv (J := I_X8_copy) (t := 9) (As := [.ref v9]) (rest := []) mjv_X8_copy ml_RX11_187 ⟨rfl, by decide, by decide⟩ (by decide) rfl rfl (Nat.le_of_ble_eq_true rfl) dX11_image_31 (T_X8_copy F v8 v9 h6) (fun v10 h11 => ?_)
    refine g_iconst (v := 0) dX11_image_34 (by decide) ?_
    exact g_iret rfl dX11_image_35
  · refine g_bipush (v := (-2)) dX11_image_8 (by decide) ?_
    exact g_iret rfl dX11_image_10
set_option maxRecDepth 100000 in
noncomputable def f_X0_init (F : Nat) (a0 : Nat) (a1 : Nat) (h : Hp) : Option (Unit × Hp) :=
  nA 20 h 6 fun b1 h2 => pR 1 h2 a0 1 b1 fun h3 => pR 1 h3 a0 2 a1 fun h4 => some ((), h4)
set_option maxRecDepth 100000 in
set_option maxHeartbeats 4000000 in
theorem T_X0_init (F : Nat) (a0 : Nat) (a1 : Nat) (h : Hp) : GM rvV I_X0_init 1 [.ref a0, .ref a1] h (f_X0_init F a0 a1 h) := by
  delta f_X0_init
  refine GM_of (lv := [(0, .ref a0), (1, .ref a1)]) (by decide +kernel) (Nat.le_of_ble_eq_true rfl) rfl ?_
  refine g_aload_n 0 dX0_init_0 rfl ?_
  refine g_objInit oi_RX0_3 (by decide) (Nat.le_of_ble_eq_true rfl) dX0_init_1 ?_
  refine g_aload_n 0 dX0_init_4 rfl ?_
  refine g_bipush (v := 6) dX0_init_5 (by decide) ?_
  refine g_newa (t := 20) (by decide) (by decide) rfl ac_int dX0_init_7 (fun b1 h2 => ?_)
  refine g_putR fl_RX0_9 rfl (Or.inr ⟨rfl, rfl, rfl⟩) dX0_init_9 (fun h3 => ?_)
  refine g_aload_n 0 dX0_init_12 rfl ?_
  refine g_aload_n 1 dX0_init_13 rfl ?_
  refine g_putR fl_RX0_15 rfl (Or.inl rfl) dX0_init_14 (fun h4 => ?_)
  exact g_vret rfl dX0_init_17
set_option maxRecDepth 100000 in
noncomputable def f_X9_init (F : Nat) (a0 : Nat) (h : Hp) : Option (Unit × Hp) :=
  pI 10 h a0 0 (-1) fun h1 => nA 23 h1 40 fun b2 h3 => pR 10 h3 a0 2 b2 fun h4 => some ((), h4)
set_option maxRecDepth 100000 in
set_option maxHeartbeats 4000000 in
theorem T_X9_init (F : Nat) (a0 : Nat) (h : Hp) : GM rvV I_X9_init 1 [.ref a0] h (f_X9_init F a0 h) := by
  delta f_X9_init
  refine GM_of (lv := [(0, .ref a0)]) (by decide +kernel) (Nat.le_of_ble_eq_true rfl) rfl ?_
  refine g_aload_n 0 dX9_init_0 rfl ?_
  refine g_objInit oi_RX9_3 (by decide) (Nat.le_of_ble_eq_true rfl) dX9_init_1 ?_
  refine g_aload_n 0 dX9_init_4 rfl ?_
  refine g_iconst (v := (-1)) dX9_init_5 (by decide) ?_
  refine g_putI fl_RX9_9 (Or.inl rfl) dX9_init_6 (fun h1 => ?_)
  refine g_aload_n 0 dX9_init_9 rfl ?_
  refine g_bipush (v := 40) dX9_init_10 (by decide) ?_
  refine g_newa (t := 23) (by decide) (by decide) rfl ac_long dX9_init_12 (fun b2 h3 => ?_)
  refine g_putR fl_RX9_15 rfl (Or.inr ⟨rfl, rfl, rfl⟩) dX9_init_14 (fun h4 => ?_)
  exact g_vret rfl dX9_init_17
set_option maxRecDepth 100000 in
noncomputable def f_X10_init (F : Nat) (a0 : Nat) (a1 : Nat) (h : Hp) : Option (Unit × Hp) :=
  nO 10 h fun b1 h2 => bd (f_X9_init F b1 h2) fun _ h4 => pR 11 h4 a0 6 b1 fun h5 => pR 11 h5 a0 4 a1 fun h6 => some ((), h6)
set_option maxRecDepth 100000 in
set_option maxHeartbeats 4000000 in
theorem T_X10_init (F : Nat) (a0 : Nat) (a1 : Nat) (h : Hp) : GM rvV I_X10_init 2 [.ref a0, .ref a1] h (f_X10_init F a0 a1 h) := by
  delta f_X10_init
  refine GM_of (lv := [(0, .ref a0), (1, .ref a1)]) (by decide +kernel) (Nat.le_of_ble_eq_true rfl) rfl ?_
  refine g_aload_n 0 dX10_init_0 rfl ?_
  refine g_objInit oi_RX10_3 (by decide) (Nat.le_of_ble_eq_true rfl) dX10_init_1 ?_
  refine g_aload_n 0 dX10_init_4 rfl ?_
  refine g_new (by decide) (by decide) nl_RX10_9 dX10_init_5 (fun b1 h2 => ?_)
  refine g_dup dX10_init_8 rfl ?_
  refine g_callIN (J := I_X9_init) (As := []) (rest := [.ref b1, .ref a0]) mji_X9_init rfl (by decide +kernel) (by decide) rfl rfl (Nat.le_of_ble_eq_true rfl) dX10_init_9 (T_X9_init F b1 h2) (fun h4 => ?_)
  refine g_putR fl_RX10_12 rfl (Or.inl rfl) dX10_init_12 (fun h5 => ?_)
  refine g_aload_n 0 dX10_init_15 rfl ?_
  refine g_aload_n 1 dX10_init_16 rfl ?_
  refine g_putR fl_RX10_18 rfl (Or.inl rfl) dX10_init_17 (fun h6 => ?_)
  exact g_vret rfl dX10_init_20
set_option maxRecDepth 100000 in
noncomputable def f_X1_init (F : Nat) (a0 : Nat) (a1 : Nat) (h : Hp) : Option (Unit × Hp) :=
  nA 20 h 1 fun b1 h2 => pR 2 h2 a0 0 b1 fun h3 => pR 2 h3 a0 1 a1 fun h4 => some ((), h4)
set_option maxRecDepth 100000 in
set_option maxHeartbeats 4000000 in
theorem T_X1_init (F : Nat) (a0 : Nat) (a1 : Nat) (h : Hp) : GM rvV I_X1_init 1 [.ref a0, .ref a1] h (f_X1_init F a0 a1 h) := by
  delta f_X1_init
  refine GM_of (lv := [(0, .ref a0), (1, .ref a1)]) (by decide +kernel) (Nat.le_of_ble_eq_true rfl) rfl ?_
  refine g_aload_n 0 dX1_init_0 rfl ?_
  refine g_objInit oi_RX1_3 (by decide) (Nat.le_of_ble_eq_true rfl) dX1_init_1 ?_
  refine g_aload_n 0 dX1_init_4 rfl ?_
  refine g_iconst (v := 1) dX1_init_5 (by decide) ?_
  refine g_newa (t := 20) (by decide) (by decide) rfl ac_int dX1_init_6 (fun b1 h2 => ?_)
  refine g_putR fl_RX1_9 rfl (Or.inl rfl) dX1_init_8 (fun h3 => ?_)
  refine g_aload_n 0 dX1_init_11 rfl ?_
  refine g_aload_n 1 dX1_init_12 rfl ?_
  refine g_putR fl_RX1_15 rfl (Or.inl rfl) dX1_init_13 (fun h4 => ?_)
  exact g_vret rfl dX1_init_16
set_option maxRecDepth 100000 in
noncomputable def f_X4_init (F : Nat) (a0 : Nat) (h : Hp) : Option (Unit × Hp) :=
  nA 20 h 10 fun b1 h2 => pR 5 h2 a0 1 b1 fun h3 => nA 20 h3 10 fun b4 h5 => pR 5 h5 a0 2 b4 fun h6 => some ((), h6)
set_option maxRecDepth 100000 in
set_option maxHeartbeats 4000000 in
theorem T_X4_init (F : Nat) (a0 : Nat) (h : Hp) : GM rvV I_X4_init 1 [.ref a0] h (f_X4_init F a0 h) := by
  delta f_X4_init
  refine GM_of (lv := [(0, .ref a0)]) (by decide +kernel) (Nat.le_of_ble_eq_true rfl) rfl ?_
  refine g_aload_n 0 dX4_init_0 rfl ?_
  refine g_objInit oi_RX4_3 (by decide) (Nat.le_of_ble_eq_true rfl) dX4_init_1 ?_
  refine g_aload_n 0 dX4_init_4 rfl ?_
  refine g_bipush (v := 10) dX4_init_5 (by decide) ?_
  refine g_newa (t := 20) (by decide) (by decide) rfl ac_int dX4_init_7 (fun b1 h2 => ?_)
  refine g_putR fl_RX4_9 rfl (Or.inr ⟨rfl, rfl, rfl⟩) dX4_init_9 (fun h3 => ?_)
  refine g_aload_n 0 dX4_init_12 rfl ?_
  refine g_bipush (v := 10) dX4_init_13 (by decide) ?_
  refine g_newa (t := 20) (by decide) (by decide) rfl ac_int dX4_init_15 (fun b4 h5 => ?_)
  refine g_putR fl_RX4_15 rfl (Or.inr ⟨rfl, rfl, rfl⟩) dX4_init_17 (fun h6 => ?_)
  exact g_vret rfl dX4_init_20
set_option maxRecDepth 100000 in
noncomputable def f_X3_init (F : Nat) (a0 : Nat) (h : Hp) : Option (Unit × Hp) :=
  nA 20 h 900 fun b1 h2 => pR 4 h2 a0 0 b1 fun h3 => nA 20 h3 6 fun b4 h5 => pR 4 h5 a0 6 b4 fun h6 => nA 20 h6 100 fun b7 h8 => pR 4 h8 a0 7 b7 fun h9 => some ((), h9)
set_option maxRecDepth 100000 in
set_option maxHeartbeats 4000000 in
theorem T_X3_init (F : Nat) (a0 : Nat) (h : Hp) : GM rvV I_X3_init 1 [.ref a0] h (f_X3_init F a0 h) := by
  delta f_X3_init
  refine GM_of (lv := [(0, .ref a0)]) (by decide +kernel) (Nat.le_of_ble_eq_true rfl) rfl ?_
  refine g_aload_n 0 dX3_init_0 rfl ?_
  refine g_objInit oi_RX3_3 (by decide) (Nat.le_of_ble_eq_true rfl) dX3_init_1 ?_
  refine g_aload_n 0 dX3_init_4 rfl ?_
  refine g_sipush (v := 900) dX3_init_5 (by decide) ?_
  refine g_newa (t := 20) (by decide) (by decide) rfl ac_int dX3_init_8 (fun b1 h2 => ?_)
  refine g_putR fl_RX3_9 rfl (Or.inr ⟨rfl, rfl, rfl⟩) dX3_init_10 (fun h3 => ?_)
  refine g_aload_n 0 dX3_init_13 rfl ?_
  refine g_bipush (v := 6) dX3_init_14 (by decide) ?_
  refine g_newa (t := 20) (by decide) (by decide) rfl ac_int dX3_init_16 (fun b4 h5 => ?_)
  refine g_putR fl_RX3_15 rfl (Or.inr ⟨rfl, rfl, rfl⟩) dX3_init_18 (fun h6 => ?_)
  refine g_aload_n 0 dX3_init_21 rfl ?_
  refine g_bipush (v := 100) dX3_init_22 (by decide) ?_
  refine g_newa (t := 20) (by decide) (by decide) rfl ac_int dX3_init_24 (fun b7 h8 => ?_)
  refine g_putR fl_RX3_18 rfl (Or.inr ⟨rfl, rfl, rfl⟩) dX3_init_26 (fun h9 => ?_)
  exact g_vret rfl dX3_init_29
set_option maxRecDepth 100000 in
noncomputable def f_X5_init (F : Nat) (a0 : Nat) (a1 : Nat) (h : Hp) : Option (Unit × Hp) :=
  pI 6 h a0 1 (-1) fun h1 => nA 21 h1 0 fun b2 h3 => pR 6 h3 a0 2 b2 fun h4 => nO 4 h4 fun b5 h6 => bd (f_X3_init F b5 h6) fun _ h8 => pR 6 h8 a0 9 b5 fun h9 => pR 6 h9 a0 8 a1 fun h10 => some ((), h10)
set_option maxRecDepth 100000 in
set_option maxHeartbeats 4000000 in
theorem T_X5_init (F : Nat) (a0 : Nat) (a1 : Nat) (h : Hp) : GM rvV I_X5_init 2 [.ref a0, .ref a1] h (f_X5_init F a0 a1 h) := by
  delta f_X5_init
  refine GM_of (lv := [(0, .ref a0), (1, .ref a1)]) (by decide +kernel) (Nat.le_of_ble_eq_true rfl) rfl ?_
  refine g_aload_n 0 dX5_init_0 rfl ?_
  refine g_objInit oi_RX5_3 (by decide) (Nat.le_of_ble_eq_true rfl) dX5_init_1 ?_
  refine g_aload_n 0 dX5_init_4 rfl ?_
  refine g_iconst (v := (-1)) dX5_init_5 (by decide) ?_
  refine g_putI fl_RX5_9 (Or.inl rfl) dX5_init_6 (fun h1 => ?_)
  refine g_aload_n 0 dX5_init_9 rfl ?_
  refine g_iconst (v := 0) dX5_init_10 (by decide) ?_
  refine g_newa (t := 21) (by decide) (by decide) rfl ac_byte dX5_init_11 (fun b2 h3 => ?_)
  refine g_putR fl_RX5_15 rfl (Or.inl rfl) dX5_init_13 (fun h4 => ?_)
  refine g_aload_n 0 dX5_init_16 rfl ?_
  refine g_new (by decide) (by decide) nl_RX5_19 dX5_init_17 (fun b5 h6 => ?_)
  refine g_dup dX5_init_20 rfl ?_
  refine g_callIN (J := I_X3_init) (As := []) (rest := [.ref b5, .ref a0]) mji_X3_init rfl (by decide +kernel) (by decide) rfl rfl (Nat.le_of_ble_eq_true rfl) dX5_init_21 (T_X3_init F b5 h6) (fun h8 => ?_)
  refine g_putR fl_RX5_22 rfl (Or.inr ⟨rfl, rfl, rfl⟩) dX5_init_24 (fun h9 => ?_)
  refine g_aload_n 0 dX5_init_27 rfl ?_
  refine g_aload_n 1 dX5_init_28 rfl ?_
  refine g_putR fl_RX5_26 rfl (Or.inl rfl) dX5_init_29 (fun h10 => ?_)
  exact g_vret rfl dX5_init_32
set_option maxRecDepth 100000 in
noncomputable def f_X6_init (F : Nat) (a0 : Nat) (a1 : Nat) (h : Hp) : Option (Unit × Hp) :=
  nA 23 h 1 fun b1 h2 => pR 7 h2 a0 0 b1 fun h3 => pR 7 h3 a0 1 a1 fun h4 => some ((), h4)
set_option maxRecDepth 100000 in
set_option maxHeartbeats 4000000 in
theorem T_X6_init (F : Nat) (a0 : Nat) (a1 : Nat) (h : Hp) : GM rvV I_X6_init 1 [.ref a0, .ref a1] h (f_X6_init F a0 a1 h) := by
  delta f_X6_init
  refine GM_of (lv := [(0, .ref a0), (1, .ref a1)]) (by decide +kernel) (Nat.le_of_ble_eq_true rfl) rfl ?_
  refine g_aload_n 0 dX6_init_0 rfl ?_
  refine g_objInit oi_RX6_3 (by decide) (Nat.le_of_ble_eq_true rfl) dX6_init_1 ?_
  refine g_aload_n 0 dX6_init_4 rfl ?_
  refine g_iconst (v := 1) dX6_init_5 (by decide) ?_
  refine g_newa (t := 23) (by decide) (by decide) rfl ac_long dX6_init_6 (fun b1 h2 => ?_)
  refine g_putR fl_RX6_9 rfl (Or.inl rfl) dX6_init_8 (fun h3 => ?_)
  refine g_aload_n 0 dX6_init_11 rfl ?_
  refine g_aload_n 1 dX6_init_12 rfl ?_
  refine g_putR fl_RX6_15 rfl (Or.inl rfl) dX6_init_13 (fun h4 => ?_)
  exact g_vret rfl dX6_init_16
set_option maxRecDepth 100000 in
noncomputable def f_X7_init (F : Nat) (a0 : Nat) (a1 : Nat) (h : Hp) : Option (Unit × Hp) :=
  nA 20 h 1 fun b1 h2 => pR 8 h2 a0 0 b1 fun h3 => nA 20 h3 1 fun b4 h5 => pR 8 h5 a0 1 b4 fun h6 => pR 8 h6 a0 4 a1 fun h7 => some ((), h7)
set_option maxRecDepth 100000 in
set_option maxHeartbeats 4000000 in
theorem T_X7_init (F : Nat) (a0 : Nat) (a1 : Nat) (h : Hp) : GM rvV I_X7_init 1 [.ref a0, .ref a1] h (f_X7_init F a0 a1 h) := by
  delta f_X7_init
  refine GM_of (lv := [(0, .ref a0), (1, .ref a1)]) (by decide +kernel) (Nat.le_of_ble_eq_true rfl) rfl ?_
  refine g_aload_n 0 dX7_init_0 rfl ?_
  refine g_objInit oi_RX7_3 (by decide) (Nat.le_of_ble_eq_true rfl) dX7_init_1 ?_
  refine g_aload_n 0 dX7_init_4 rfl ?_
  refine g_iconst (v := 1) dX7_init_5 (by decide) ?_
  refine g_newa (t := 20) (by decide) (by decide) rfl ac_int dX7_init_6 (fun b1 h2 => ?_)
  refine g_putR fl_RX7_9 rfl (Or.inl rfl) dX7_init_8 (fun h3 => ?_)
  refine g_aload_n 0 dX7_init_11 rfl ?_
  refine g_iconst (v := 1) dX7_init_12 (by decide) ?_
  refine g_newa (t := 20) (by decide) (by decide) rfl ac_int dX7_init_13 (fun b4 h5 => ?_)
  refine g_putR fl_RX7_15 rfl (Or.inl rfl) dX7_init_15 (fun h6 => ?_)
  refine g_aload_n 0 dX7_init_18 rfl ?_
  refine g_aload_n 1 dX7_init_19 rfl ?_
  refine g_putR fl_RX7_18 rfl (Or.inl rfl) dX7_init_20 (fun h7 => ?_)
  exact g_vret rfl dX7_init_23
set_option maxRecDepth 100000 in
noncomputable def f_X8_init (F : Nat) (a0 : Nat) (h : Hp) : Option (Unit × Hp) :=
  some ((), h)
set_option maxRecDepth 100000 in
set_option maxHeartbeats 4000000 in
theorem T_X8_init (F : Nat) (a0 : Nat) (h : Hp) : GM rvV I_X8_init 1 [.ref a0] h (f_X8_init F a0 h) := by
  delta f_X8_init
  refine GM_of (lv := [(0, .ref a0)]) (by decide +kernel) (Nat.le_of_ble_eq_true rfl) rfl ?_
  refine g_aload_n 0 dX8_init_0 rfl ?_
  refine g_objInit oi_RX8_3 (by decide) (Nat.le_of_ble_eq_true rfl) dX8_init_1 ?_
  exact g_vret rfl dX8_init_4
set_option maxRecDepth 100000 in
noncomputable def f_X11_init_236_b (F : Nat) (K236 : Nat → Int32 → Hp → Option (Unit × Hp)) (l0 : Nat) (l1 : Int32) (h : Hp) : Option (Unit × Hp) :=
  gR 12 h l0 10 fun v84 => al 25 h v84 fun v85 => if v85 ≤ l1 then (some ((), h)) else (gR 12 h l0 10 fun v87 => nO 9 h fun b88 h89 => bd (f_X8_init F b88 h89) fun _ h91 => wR 25 h91 v87 l1 b88 fun h92 => K236 l0 (l1 + 1) h92)
set_option maxRecDepth 100000 in
set_option maxHeartbeats 4000000 in
theorem T_X11_init_236_b (F : Nat) {K236 : Nat → Int32 → Hp → Option (Unit × Hp)} (hK236 : ∀ (l0 : Nat) (l1 : Int32) (h : Hp), G rvV I_X11_init 3 236 [(0, .ref l0), (1, .int l1)] [] h (K236 l0 l1 h)) (l0 : Nat) (l1 : Int32) (h : Hp) : G rvV I_X11_init 3 236 [(0, .ref l0), (1, .int l1)] [] h (f_X11_init_236_b F K236 l0 l1 h) := by
  delta f_X11_init_236_b
  refine g_iload_n 1 dX11_init_236 rfl ?_
  refine g_aload_n 0 dX11_init_237 rfl ?_
  refine g_getR fl_RX11_59 rfl dX11_init_238 (fun v84 => ?_)
  refine g_alen (by decide) (by decide) dX11_init_241 (fun v85 => ?_)
  refine g_icmp_ge (tgt := 264) dX11_init_242 (by decide) (fun c86 => ?_) (fun c86 => ?_)
  · exact g_vret rfl dX11_init_264
  · refine g_aload_n 0 dX11_init_245 rfl ?_
    refine g_getR fl_RX11_59 rfl dX11_init_246 (fun v87 => ?_)
    refine g_iload_n 1 dX11_init_249 rfl ?_
    refine g_new (by decide) (by decide) nl_RX11_33 dX11_init_250 (fun b88 h89 => ?_)
    refine g_dup dX11_init_253 rfl ?_
    refine g_callIN (J := I_X8_init) (As := []) (rest := [.ref b88, .int l1, .ref v87]) mji_X8_init rfl (by decide +kernel) (by decide) rfl rfl (Nat.le_of_ble_eq_true rfl) dX11_init_254 (T_X8_init F b88 h89) (fun h91 => ?_)
    refine g_aast (by decide) (by decide) dX11_init_257 (fun h92 => ?_)
    refine g_iinc (v' := l1 + 1) (lv' := [(1, .int (l1 + 1)), (0, .ref l0)]) 1 dX11_init_258 rfl rfl (by decide) rfl ?_
    refine g_goto (tgt := 236) dX11_init_261 (by decide) ?_
    refine G_lv [1, 0] rfl ?_
    exact hK236 l0 (l1 + 1) h92
set_option maxRecDepth 100000 in
noncomputable def f_X11_init_236 (F : Nat) : Nat → Nat → Int32 → Hp → Option (Unit × Hp)
  | 0, _, _, _ => none
  | n + 1, l0, l1, h => f_X11_init_236_b F (f_X11_init_236 F n) l0 l1 h
set_option maxRecDepth 100000 in
set_option maxHeartbeats 4000000 in
theorem T_X11_init_236 (F : Nat) : ∀ (n : Nat) (l0 : Nat) (l1 : Int32) (h : Hp), G rvV I_X11_init 3 236 [(0, .ref l0), (1, .int l1)] [] h (f_X11_init_236 F n l0 l1 h) := by
  intro n
  induction n with
  | zero => intros; exact G_none
  | succ n ih => intro l0 l1 h; exact T_X11_init_236_b F ih l0 l1 h
set_option maxRecDepth 100000 in
noncomputable def f_X11_init_206_b (F : Nat) (K206 : Nat → Int32 → Hp → Option (Unit × Hp)) (l0 : Nat) (l1 : Int32) (h : Hp) : Option (Unit × Hp) :=
  gR 12 h l0 8 fun v81 => al 26 h v81 fun v82 => if v82 ≤ l1 then (f_X11_init_236 F F l0 0 h) else (gR 12 h l0 8 fun v93 => nO 10 h fun b94 h95 => bd (f_X9_init F b94 h95) fun _ h97 => wR 26 h97 v93 l1 b94 fun h98 => K206 l0 (l1 + 1) h98)
set_option maxRecDepth 100000 in
set_option maxHeartbeats 4000000 in
theorem T_X11_init_206_b (F : Nat) {K206 : Nat → Int32 → Hp → Option (Unit × Hp)} (hK206 : ∀ (l0 : Nat) (l1 : Int32) (h : Hp), G rvV I_X11_init 3 206 [(0, .ref l0), (1, .int l1)] [] h (K206 l0 l1 h)) (l0 : Nat) (l1 : Int32) (h : Hp) : G rvV I_X11_init 3 206 [(0, .ref l0), (1, .int l1)] [] h (f_X11_init_206_b F K206 l0 l1 h) := by
  delta f_X11_init_206_b
  refine g_iload_n 1 dX11_init_206 rfl ?_
  refine g_aload_n 0 dX11_init_207 rfl ?_
  refine g_getR fl_RX11_52 rfl dX11_init_208 (fun v81 => ?_)
  refine g_alen (by decide) (by decide) dX11_init_211 (fun v82 => ?_)
  refine g_icmp_ge (tgt := 234) dX11_init_212 (by decide) (fun c83 => ?_) (fun c83 => ?_)
  · refine g_iconst (v := 0) dX11_init_234 (by decide) ?_
    refine g_istore_n (lv' := [(1, .int 0), (0, .ref l0)]) dX11_init_235 (by decide) rfl ?_
    refine G_lv [1, 0] rfl ?_
    exact T_X11_init_236 F F l0 0 h
  · refine g_aload_n 0 dX11_init_215 rfl ?_
    refine g_getR fl_RX11_52 rfl dX11_init_216 (fun v93 => ?_)
    refine g_iload_n 1 dX11_init_219 rfl ?_
    refine g_new (by decide) (by decide) nl_RX11_50 dX11_init_220 (fun b94 h95 => ?_)
    refine g_dup dX11_init_223 rfl ?_
    refine g_callIN (J := I_X9_init) (As := []) (rest := [.ref b94, .int l1, .ref v93]) mji_X9_init rfl (by decide +kernel) (by decide) rfl rfl (Nat.le_of_ble_eq_true rfl) dX11_init_224 (T_X9_init F b94 h95) (fun h97 => ?_)
    refine g_aast (by decide) (by decide) dX11_init_227 (fun h98 => ?_)
    refine g_iinc (v' := l1 + 1) (lv' := [(1, .int (l1 + 1)), (0, .ref l0)]) 1 dX11_init_228 rfl rfl (by decide) rfl ?_
    refine g_goto (tgt := 206) dX11_init_231 (by decide) ?_
    refine G_lv [1, 0] rfl ?_
    exact hK206 l0 (l1 + 1) h98
set_option maxRecDepth 100000 in
noncomputable def f_X11_init_206 (F : Nat) : Nat → Nat → Int32 → Hp → Option (Unit × Hp)
  | 0, _, _, _ => none
  | n + 1, l0, l1, h => f_X11_init_206_b F (f_X11_init_206 F n) l0 l1 h
set_option maxRecDepth 100000 in
set_option maxHeartbeats 4000000 in
theorem T_X11_init_206 (F : Nat) : ∀ (n : Nat) (l0 : Nat) (l1 : Int32) (h : Hp), G rvV I_X11_init 3 206 [(0, .ref l0), (1, .int l1)] [] h (f_X11_init_206 F n l0 l1 h) := by
  intro n
  induction n with
  | zero => intros; exact G_none
  | succ n ih => intro l0 l1 h; exact T_X11_init_206_b F ih l0 l1 h
set_option maxRecDepth 100000 in
noncomputable def f_X11_init (F : Nat) (a0 : Nat) (h : Hp) : Option (Unit × Hp) :=
  nA 21 h 900 fun b1 h2 => pR 12 h2 a0 0 b1 fun h3 => nA 24 h3 4 fun b4 h5 => pR 12 h5 a0 2 b4 fun h6 => nO 3 h6 fun b7 h8 => bd (f_X2_init F b7 h8) fun _ h10 => pR 12 h10 a0 3 b7 fun h11 => nO 6 h11 fun b12 h13 => gR 12 h13 a0 3 fun v14 => bd (f_X5_init F b12 v14 h13) fun _ h16 => pR 12 h16 a0 4 b12 fun h17 => nO 9 h17 fun b18 h19 => bd (f_X8_init F b18 h19) fun _ h21 => pR 12 h21 a0 5 b18 fun h22 => nO 9 h22 fun b23 h24 => bd (f_X8_init F b23 h24) fun _ h26 => pR 12 h26 a0 6 b23 fun h27 => nO 5 h27 fun b28 h29 => bd (f_X4_init F b28 h29) fun _ h31 => pR 12 h31 a0 7 b28 fun h32 => nA 26 h32 4 fun b33 h34 => pR 12 h34 a0 8 b33 fun h35 => nA 24 h35 2 fun b36 h37 => pR 12 h37 a0 9 b36 fun h38 => nA 25 h38 2 fun b39 h40 => pR 12 h40 a0 10 b39 fun h41 => nO 8 h41 fun b42 h43 => gR 12 h43 a0 3 fun v44 => bd (f_X7_init F b42 v44 h43) fun _ h46 => pR 12 h46 a0 11 b42 fun h47 => nO 8 h47 fun b48 h49 => gR 12 h49 a0 3 fun v50 => bd (f_X7_init F b48 v50 h49) fun _ h52 => pR 12 h52 a0 12 b48 fun h53 => nO 7 h53 fun b54 h55 => gR 12 h55 a0 3 fun v56 => bd (f_X6_init F b54 v56 h55) fun _ h58 => pR 12 h58 a0 13 b54 fun h59 => nO 2 h59 fun b60 h61 => gR 12 h61 a0 3 fun v62 => bd (f_X1_init F b60 v62 h61) fun _ h64 => pR 12 h64 a0 14 b60 fun h65 => nO 1 h65 fun b66 h67 => gR 12 h67 a0 3 fun v68 => bd (f_X0_init F b66 v68 h67) fun _ h70 => pR 12 h70 a0 15 b66 fun h71 => nO 11 h71 fun b72 h73 => gR 12 h73 a0 3 fun v74 => bd (f_X10_init F b72 v74 h73) fun _ h76 => pR 12 h76 a0 16 b72 fun h77 => gR 12 h77 a0 2 fun v78 => gR 12 h77 a0 3 fun v79 => wR 24 h77 v78 0 v79 fun h80 => f_X11_init_206 F F a0 0 h80
set_option maxRecDepth 100000 in
set_option maxHeartbeats 4000000 in
theorem T_X11_init (F : Nat) (a0 : Nat) (h : Hp) : GM rvV I_X11_init 3 [.ref a0] h (f_X11_init F a0 h) := by
  delta f_X11_init
  refine GM_of (lv := [(0, .ref a0)]) (by decide +kernel) (Nat.le_of_ble_eq_true rfl) rfl ?_
  refine g_aload_n 0 dX11_init_0 rfl ?_
  refine g_objInit oi_RX11_1 (by decide) (Nat.le_of_ble_eq_true rfl) dX11_init_1 ?_
  refine g_aload_n 0 dX11_init_4 rfl ?_
  refine g_sipush (v := 900) dX11_init_5 (by decide) ?_
  refine g_newa (t := 21) (by decide) (by decide) rfl ac_byte dX11_init_8 (fun b1 h2 => ?_)
  refine g_putR fl_RX11_9 rfl (Or.inr ⟨rfl, rfl, rfl⟩) dX11_init_10 (fun h3 => ?_)
  refine g_aload_n 0 dX11_init_13 rfl ?_
  refine g_iconst (v := 4) dX11_init_14 (by decide) ?_
  refine g_anew (t := 24) (by decide) (by decide) al_RX11_13 dX11_init_15 (fun b4 h5 => ?_)
  refine g_putR fl_RX11_15 rfl (Or.inr ⟨rfl, rfl, rfl⟩) dX11_init_18 (fun h6 => ?_)
  refine g_aload_n 0 dX11_init_21 rfl ?_
  refine g_new (by decide) (by decide) nl_RX11_13 dX11_init_22 (fun b7 h8 => ?_)
  refine g_dup dX11_init_25 rfl ?_
  refine g_callIN (J := I_X2_init) (As := []) (rest := [.ref b7, .ref a0]) mji_X2_init rfl (by decide +kernel) (by decide) rfl rfl (Nat.le_of_ble_eq_true rfl) dX11_init_26 (T_X2_init F b7 h8) (fun h10 => ?_)
  refine g_putR fl_RX11_20 rfl (Or.inl rfl) dX11_init_29 (fun h11 => ?_)
  refine g_aload_n 0 dX11_init_32 rfl ?_
  refine g_new (by decide) (by decide) nl_RX11_24 dX11_init_33 (fun b12 h13 => ?_)
  refine g_dup dX11_init_36 rfl ?_
  refine g_aload_n 0 dX11_init_37 rfl ?_
  refine g_getR fl_RX11_20 rfl dX11_init_38 (fun v14 => ?_)
  refine g_callI (J := I_X5_init) (As := [.ref v14]) (rest := [.ref b12, .ref a0]) mji_X5_init rfl ml_RX11_26 (by decide) rfl rfl (Nat.le_of_ble_eq_true rfl) dX11_init_41 (T_X5_init F b12 v14 h13) (fun h16 => ?_)
  refine g_putR fl_RX11_29 rfl (Or.inr ⟨rfl, rfl, rfl⟩) dX11_init_44 (fun h17 => ?_)
  refine g_aload_n 0 dX11_init_47 rfl ?_
  refine g_new (by decide) (by decide) nl_RX11_33 dX11_init_48 (fun b18 h19 => ?_)
  refine g_dup dX11_init_51 rfl ?_
  refine g_callIN (J := I_X8_init) (As := []) (rest := [.ref b18, .ref a0]) mji_X8_init rfl (by decide +kernel) (by decide) rfl rfl (Nat.le_of_ble_eq_true rfl) dX11_init_52 (T_X8_init F b18 h19) (fun h21 => ?_)
  refine g_putR fl_RX11_36 rfl (Or.inr ⟨rfl, rfl, rfl⟩) dX11_init_55 (fun h22 => ?_)
  refine g_aload_n 0 dX11_init_58 rfl ?_
  refine g_new (by decide) (by decide) nl_RX11_33 dX11_init_59 (fun b23 h24 => ?_)
  refine g_dup dX11_init_62 rfl ?_
  refine g_callIN (J := I_X8_init) (As := []) (rest := [.ref b23, .ref a0]) mji_X8_init rfl (by decide +kernel) (by decide) rfl rfl (Nat.le_of_ble_eq_true rfl) dX11_init_63 (T_X8_init F b23 h24) (fun h26 => ?_)
  refine g_putR fl_RX11_40 rfl (Or.inr ⟨rfl, rfl, rfl⟩) dX11_init_66 (fun h27 => ?_)
  refine g_aload_n 0 dX11_init_69 rfl ?_
  refine g_new (by decide) (by decide) nl_RX11_43 dX11_init_70 (fun b28 h29 => ?_)
  refine g_dup dX11_init_73 rfl ?_
  refine g_callIN (J := I_X4_init) (As := []) (rest := [.ref b28, .ref a0]) mji_X4_init rfl (by decide +kernel) (by decide) rfl rfl (Nat.le_of_ble_eq_true rfl) dX11_init_74 (T_X4_init F b28 h29) (fun h31 => ?_)
  refine g_putR fl_RX11_46 rfl (Or.inr ⟨rfl, rfl, rfl⟩) dX11_init_77 (fun h32 => ?_)
  refine g_aload_n 0 dX11_init_80 rfl ?_
  refine g_iconst (v := 4) dX11_init_81 (by decide) ?_
  refine g_anew (t := 26) (by decide) (by decide) al_RX11_50 dX11_init_82 (fun b33 h34 => ?_)
  refine g_putR fl_RX11_52 rfl (Or.inr ⟨rfl, rfl, rfl⟩) dX11_init_85 (fun h35 => ?_)
  refine g_aload_n 0 dX11_init_88 rfl ?_
  refine g_iconst (v := 2) dX11_init_89 (by decide) ?_
  refine g_anew (t := 24) (by decide) (by decide) al_RX11_13 dX11_init_90 (fun b36 h37 => ?_)
  refine g_putR fl_RX11_56 rfl (Or.inr ⟨rfl, rfl, rfl⟩) dX11_init_93 (fun h38 => ?_)
  refine g_aload_n 0 dX11_init_96 rfl ?_
  refine g_iconst (v := 2) dX11_init_97 (by decide) ?_
  refine g_anew (t := 25) (by decide) (by decide) al_RX11_33 dX11_init_98 (fun b39 h40 => ?_)
  refine g_putR fl_RX11_59 rfl (Or.inr ⟨rfl, rfl, rfl⟩) dX11_init_101 (fun h41 => ?_)
  refine g_aload_n 0 dX11_init_104 rfl ?_
  refine g_new (by decide) (by decide) nl_RX11_63 dX11_init_105 (fun b42 h43 => ?_)
  refine g_dup dX11_init_108 rfl ?_
  refine g_aload_n 0 dX11_init_109 rfl ?_
  refine g_getR fl_RX11_20 rfl dX11_init_110 (fun v44 => ?_)
  refine g_callI (J := I_X7_init) (As := [.ref v44]) (rest := [.ref b42, .ref a0]) mji_X7_init rfl ml_RX11_65 (by decide) rfl rfl (Nat.le_of_ble_eq_true rfl) dX11_init_113 (T_X7_init F b42 v44 h43) (fun h46 => ?_)
  refine g_putR fl_RX11_66 rfl (Or.inr ⟨rfl, rfl, rfl⟩) dX11_init_116 (fun h47 => ?_)
  refine g_aload_n 0 dX11_init_119 rfl ?_
  refine g_new (by decide) (by decide) nl_RX11_63 dX11_init_120 (fun b48 h49 => ?_)
  refine g_dup dX11_init_123 rfl ?_
  refine g_aload_n 0 dX11_init_124 rfl ?_
  refine g_getR fl_RX11_20 rfl dX11_init_125 (fun v50 => ?_)
  refine g_callI (J := I_X7_init) (As := [.ref v50]) (rest := [.ref b48, .ref a0]) mji_X7_init rfl ml_RX11_65 (by decide) rfl rfl (Nat.le_of_ble_eq_true rfl) dX11_init_128 (T_X7_init F b48 v50 h49) (fun h52 => ?_)
  refine g_putR fl_RX11_70 rfl (Or.inr ⟨rfl, rfl, rfl⟩) dX11_init_131 (fun h53 => ?_)
  refine g_aload_n 0 dX11_init_134 rfl ?_
  refine g_new (by decide) (by decide) nl_RX11_73 dX11_init_135 (fun b54 h55 => ?_)
  refine g_dup dX11_init_138 rfl ?_
  refine g_aload_n 0 dX11_init_139 rfl ?_
  refine g_getR fl_RX11_20 rfl dX11_init_140 (fun v56 => ?_)
  refine g_callI (J := I_X6_init) (As := [.ref v56]) (rest := [.ref b54, .ref a0]) mji_X6_init rfl ml_RX11_75 (by decide) rfl rfl (Nat.le_of_ble_eq_true rfl) dX11_init_143 (T_X6_init F b54 v56 h55) (fun h58 => ?_)
  refine g_putR fl_RX11_76 rfl (Or.inr ⟨rfl, rfl, rfl⟩) dX11_init_146 (fun h59 => ?_)
  refine g_aload_n 0 dX11_init_149 rfl ?_
  refine g_new (by decide) (by decide) nl_RX11_80 dX11_init_150 (fun b60 h61 => ?_)
  refine g_dup dX11_init_153 rfl ?_
  refine g_aload_n 0 dX11_init_154 rfl ?_
  refine g_getR fl_RX11_20 rfl dX11_init_155 (fun v62 => ?_)
  refine g_callI (J := I_X1_init) (As := [.ref v62]) (rest := [.ref b60, .ref a0]) mji_X1_init rfl ml_RX11_82 (by decide) rfl rfl (Nat.le_of_ble_eq_true rfl) dX11_init_158 (T_X1_init F b60 v62 h61) (fun h64 => ?_)
  refine g_putR fl_RX11_83 rfl (Or.inr ⟨rfl, rfl, rfl⟩) dX11_init_161 (fun h65 => ?_)
  refine g_aload_n 0 dX11_init_164 rfl ?_
  refine g_new (by decide) (by decide) nl_RX11_87 dX11_init_165 (fun b66 h67 => ?_)
  refine g_dup dX11_init_168 rfl ?_
  refine g_aload_n 0 dX11_init_169 rfl ?_
  refine g_getR fl_RX11_20 rfl dX11_init_170 (fun v68 => ?_)
  refine g_callI (J := I_X0_init) (As := [.ref v68]) (rest := [.ref b66, .ref a0]) mji_X0_init rfl ml_RX11_89 (by decide) rfl rfl (Nat.le_of_ble_eq_true rfl) dX11_init_173 (T_X0_init F b66 v68 h67) (fun h70 => ?_)
  refine g_putR fl_RX11_90 rfl (Or.inr ⟨rfl, rfl, rfl⟩) dX11_init_176 (fun h71 => ?_)
  refine g_aload_n 0 dX11_init_179 rfl ?_
  refine g_new (by decide) (by decide) nl_RX11_94 dX11_init_180 (fun b72 h73 => ?_)
  refine g_dup dX11_init_183 rfl ?_
  refine g_aload_n 0 dX11_init_184 rfl ?_
  refine g_getR fl_RX11_20 rfl dX11_init_185 (fun v74 => ?_)
  refine g_callI (J := I_X10_init) (As := [.ref v74]) (rest := [.ref b72, .ref a0]) mji_X10_init rfl ml_RX11_96 (by decide) rfl rfl (Nat.le_of_ble_eq_true rfl) dX11_init_188 (T_X10_init F b72 v74 h73) (fun h76 => ?_)
  refine g_putR fl_RX11_97 rfl (Or.inr ⟨rfl, rfl, rfl⟩) dX11_init_191 (fun h77 => ?_)
  refine g_aload_n 0 dX11_init_194 rfl ?_
  refine g_getR fl_RX11_15 rfl dX11_init_195 (fun v78 => ?_)
  refine g_iconst (v := 0) dX11_init_198 (by decide) ?_
  refine g_aload_n 0 dX11_init_199 rfl ?_
  refine g_getR fl_RX11_20 rfl dX11_init_200 (fun v79 => ?_)
  refine g_aast (by decide) (by decide) dX11_init_203 (fun h80 => ?_)
  refine g_iconst (v := 0) dX11_init_204 (by decide) ?_
  refine g_istore_n (lv' := [(1, .int 0), (0, .ref a0)]) dX11_init_205 (by decide) rfl ?_
  refine G_lv [1, 0] rfl ?_
  exact T_X11_init_206 F F a0 0 h80
set_option maxRecDepth 100000 in
noncomputable def f_X11_judge (F : Nat) (a0 : Nat) (a1 : Int32) (a2 : Int32) (h : Hp) : Option (Int32 × Hp) :=
  cV 12 h a0 (f_X11_noTray F a0 a1 h) fun v1 h2 => if v1 = 0 then (if a2 < 0 then (some ((-2), h2)) else (if a2 ≤ 3 then (gR 12 h2 a0 8 fun v6 => aR 26 h2 v6 a1 fun v7 => cV 10 h2 v7 (f_X9_isMissing F v7 h2) fun v8 h9 => if v8 = 0 then (gR 12 h9 a0 6 fun v11 => gR 12 h9 a0 5 fun v12 => cV 9 h9 v11 (f_X8_copy F v11 v12 h9) fun v13 h14 => gR 12 h14 a0 6 fun v15 => gR 12 h14 a0 3 fun v16 => gR 12 h14 a0 8 fun v17 => aR 26 h14 v17 a1 fun v18 => cV 9 h14 v15 (f_X8_deeds F v15 v16 v18 h14) fun v19 h20 => if a2 = 0 then (gR 12 h20 a0 6 fun v22 => gI 9 h20 v22 2 fun v23 => if v23 = 0 then (some ((-1), h20)) else (some (v19, h20))) else (if a2 = 1 then (gR 12 h20 a0 6 fun v26 => gI 9 h20 v26 2 fun v27 => some (v27, h20)) else (gR 12 h20 a0 3 fun v28 => gR 12 h20 a0 6 fun v29 => gI 9 h20 v29 0 fun v30 => cV 3 h20 v28 (f_X2_doneBy F v28 v30 (a2 - 2) h20) fun v31 h32 => some (v31, h32)))) else (some ((-6), h9))) else (some ((-2), h2)))) else (some ((-2), h2))
set_option maxRecDepth 100000 in
set_option maxHeartbeats 4000000 in
theorem T_X11_judge (F : Nat) (a0 : Nat) (a1 : Int32) (a2 : Int32) (h : Hp) : GM rvI I_X11_judge 7 [.ref a0, .int a1, .int a2] h (f_X11_judge F a0 a1 a2 h) := by
  delta f_X11_judge
  refine GM_of (lv := [(0, .ref a0), (1, .int a1), (2, .int a2)]) (by decide +kernel) (Nat.le_of_ble_eq_true rfl) rfl ?_
  refine g_aload_n 0 dX11_judge_0 rfl ?_
  refine g_iload_n 1 dX11_judge_1 rfl ?_
  refine g_callVi (J := I_X11_noTray) (t := 12) (As := [.int a1]) (rest := []) mjv_X11_noTray ml_RX11_220 ⟨rfl, by decide, by decide⟩ (by decide) rfl rfl (Nat.le_of_ble_eq_true rfl) dX11_judge_2 (T_X11_noTray F a0 a1 h) (fun v1 h2 => ?_)
  refine g_if_ne (tgt := 17) dX11_judge_5 (by decide) (fun c3 => ?_) (fun c3 => ?_)
  · refine g_iload_n 2 dX11_judge_8 rfl ?_
    refine g_if_lt (tgt := 17) dX11_judge_9 (by decide) (fun c4 => ?_) (fun c4 => ?_)
    · refine g_bipush (v := (-2)) dX11_judge_17 (by decide) ?_
      exact g_iret rfl dX11_judge_19
    · refine g_iload_n 2 dX11_judge_12 rfl ?_
      refine g_iconst (v := 3) dX11_judge_13 (by decide) ?_
      refine g_icmp_le (tgt := 20) dX11_judge_14 (by decide) (fun c5 => ?_) (fun c5 => ?_)
      · refine g_aload_n 0 dX11_judge_20 rfl ?_
        refine g_getR fl_RX11_52 rfl dX11_judge_21 (fun v6 => ?_)
        refine g_iload_n 1 dX11_judge_24 rfl ?_
        refine g_aald (by decide) (by decide) dX11_judge_25 (fun v7 => ?_)
        refine g_callVi (J := I_X9_isMissing) (t := 10) (As := []) (rest := []) mjv_X9_isMissing ml_RX11_223 ⟨rfl, by decide, by decide⟩ (by decide) rfl rfl (Nat.le_of_ble_eq_true rfl) dX11_judge_26 (T_X9_isMissing F v7 h2) (fun v8 h9 => ?_)
        refine g_if_eq (tgt := 35) dX11_judge_29 (by decide) (fun c10 => ?_) (fun c10 => ?_)
        · refine g_aload_n 0 dX11_judge_35 rfl ?_
          refine g_getR fl_RX11_40 rfl dX11_judge_36 (fun v11 => ?_)
          refine g_aload_n 0 dX11_judge_39 rfl ?_
          refine g_getR fl_RX11_36 rfl dX11_judge_40 (fun v12 => ?_)
          refine g_callVv (J := I_X8_copy) (t := 9) (As := [.ref v12]) (rest := []) mjv_X8_copy ml_RX11_187 ⟨rfl, by decide, by decide⟩ (by decide) rfl rfl (Nat.le_of_ble_eq_true rfl) dX11_judge_43 (T_X8_copy F v11 v12 h9) (fun v13 h14 => ?_)
          refine g_aload_n 0 dX11_judge_46 rfl ?_
          refine g_getR fl_RX11_40 rfl dX11_judge_47 (fun v15 => ?_)
          refine g_aload_n 0 dX11_judge_50 rfl ?_
          refine g_getR fl_RX11_20 rfl dX11_judge_51 (fun v16 => ?_)
          refine g_aload_n 0 dX11_judge_54 rfl ?_
          refine g_getR fl_RX11_52 rfl dX11_judge_55 (fun v17 => ?_)
          refine g_iload_n 1 dX11_judge_58 rfl ?_
          refine g_aald (by decide) (by decide) dX11_judge_59 (fun v18 => ?_)
          refine g_callVi (J := I_X8_deeds) (t := 9) (As := [.ref v16, .ref v18]) (rest := []) mjv_X8_deeds ml_RX11_227 ⟨rfl, by decide, by decide⟩ (by decide) rfl rfl (Nat.le_of_ble_eq_true rfl) dX11_judge_60 (T_X8_deeds F v15 v16 v18 h14) (fun v19 h20 => ?_)
          refine g_istore_n (lv' := [(3, .int v19), (0, .ref a0), (1, .int a1), (2, .int a2)]) dX11_judge_63 (by decide) rfl ?_
          refine g_iload_n 3 dX11_judge_64 rfl ?_
          refine g_if_ne (tgt := 84) dX11_judge_65 (by decide) (fun c21 => ?_) (fun c21 => ?_)
          · refine g_aload_n 1 dX11_judge_68 rfl ?_
            refine g_getR fl_RX11_40 rfl dX11_judge_69 (fun v22 => ?_)
            refine g_getI fl_RX11_231 rfl dX11_judge_72 (fun v23 => ?_)
            refine g_if_ne (tgt := 82) dX11_judge_75 (by decide) (fun c24 => ?_) (fun c24 => ?_)
            · refine g_iconst (v := (-1)) dX11_judge_78 (by decide) ?_
              refine g_goto (tgt := 83) dX11_judge_79 (by decide) ?_
              exact g_iret rfl dX11_judge_83
            · refine g_iload_n 0 dX11_judge_82 rfl ?_
              exact g_iret rfl dX11_judge_83
          · refine g_iload_n 3 dX11_judge_84 rfl ?_
            refine g_iconst (v := 1) dX11_judge_85 (by decide) ?_
            refine g_icmp_ne (tgt := 99) dX11_judge_86 (by decide) (fun c25 => ?_) (fun c25 => ?_)
            · refine g_aload_n 1 dX11_judge_89 rfl ?_
              refine g_getR fl_RX11_40 rfl dX11_judge_90 (fun v26 => ?_)
              refine g_getI fl_RX11_231 rfl dX11_judge_93 (fun v27 => ?_)
              refine g_goto (tgt := 116) dX11_judge_96 (by decide) ?_
              exact g_iret rfl dX11_judge_116
            · refine g_aload_n 1 dX11_judge_99 rfl ?_
              refine g_getR fl_RX11_20 rfl dX11_judge_100 (fun v28 => ?_)
              refine g_aload_n 1 dX11_judge_103 rfl ?_
              refine g_getR fl_RX11_40 rfl dX11_judge_104 (fun v29 => ?_)
              refine g_getI fl_RX11_127 rfl dX11_judge_107 (fun v30 => ?_)
              refine g_iload_n 3 dX11_judge_110 rfl ?_
              refine g_iconst (v := 2) dX11_judge_111 (by decide) ?_
              refine g_isub dX11_judge_112 ?_
              refine g_callVi (J := I_X2_doneBy) (t := 3) (As := [.int v30, .int (a2 - 2)]) (rest := []) mjv_X2_doneBy ml_RX11_170 ⟨rfl, by decide, by decide⟩ (by decide) rfl rfl (Nat.le_of_ble_eq_true rfl) dX11_judge_113 (T_X2_doneBy F v28 v30 (a2 - 2) h20) (fun v31 h32 => ?_)
              exact g_iret rfl dX11_judge_116
        · refine g_bipush (v := (-6)) dX11_judge_32 (by decide) ?_
          exact g_iret rfl dX11_judge_34
      · refine g_bipush (v := (-2)) dX11_judge_17 (by decide) ?_
        exact g_iret rfl dX11_judge_19
  · refine g_bipush (v := (-2)) dX11_judge_17 (by decide) ?_
    exact g_iret rfl dX11_judge_19
set_option maxRecDepth 100000 in
noncomputable def f_X11_likeliest_88 (F : Nat) (K48 : Nat → Int32 → Int32 → Int32 → Hp → Option (Int32 × Hp)) (l0 : Nat) (l3 : Int32) (l4 : Int32) (l5 : Int32) (h : Hp) : Option (Int32 × Hp) :=
  K48 l0 l3 l4 (l5 + 1) h
set_option maxRecDepth 100000 in
set_option maxHeartbeats 4000000 in
theorem T_X11_likeliest_88 (F : Nat) {K48 : Nat → Int32 → Int32 → Int32 → Hp → Option (Int32 × Hp)} (hK48 : ∀ (l0 : Nat) (l3 : Int32) (l4 : Int32) (l5 : Int32) (h : Hp), G rvI I_X11_likeliest 22 48 [(0, .ref l0), (3, .int l3), (4, .int l4), (5, .int l5)] [] h (K48 l0 l3 l4 l5 h)) (l0 : Nat) (l3 : Int32) (l4 : Int32) (l5 : Int32) (h : Hp) : G rvI I_X11_likeliest 22 88 [(0, .ref l0), (3, .int l3), (4, .int l4), (5, .int l5)] [] h (f_X11_likeliest_88 F K48 l0 l3 l4 l5 h) := by
  delta f_X11_likeliest_88
  refine g_iinc (v' := l5 + 1) (lv' := [(5, .int (l5 + 1)), (0, .ref l0), (3, .int l3), (4, .int l4)]) 3 dX11_likeliest_88 rfl rfl (by decide) rfl ?_
  refine g_goto (tgt := 48) dX11_likeliest_91 (by decide) ?_
  refine G_lv [1, 2, 3, 0] rfl ?_
  exact hK48 l0 l3 l4 (l5 + 1) h
set_option maxRecDepth 100000 in
noncomputable def f_X11_likeliest_48_b (F : Nat) (K48 : Nat → Int32 → Int32 → Int32 → Hp → Option (Int32 × Hp)) (l0 : Nat) (l3 : Int32) (l4 : Int32) (l5 : Int32) (h : Hp) : Option (Int32 × Hp) :=
  gR 12 h l0 3 fun v11 => gI 3 h v11 1 fun v12 => if v12 ≤ l5 then (some (l3, h)) else (gR 12 h l0 15 fun v14 => cV 1 h v14 (f_X0_hitsOf F v14 l5 h) fun v15 h16 => if v15 ≤ l4 then (f_X11_likeliest_88 F K48 l0 l3 l4 l5 h16) else (gR 12 h16 l0 15 fun v18 => cV 1 h16 v18 (f_X0_hitsOf F v18 l5 h16) fun v19 h20 => f_X11_likeliest_88 F K48 l0 l5 v19 l5 h20))
set_option maxRecDepth 100000 in
set_option maxHeartbeats 4000000 in
theorem T_X11_likeliest_48_b (F : Nat) {K48 : Nat → Int32 → Int32 → Int32 → Hp → Option (Int32 × Hp)} (hK48 : ∀ (l0 : Nat) (l3 : Int32) (l4 : Int32) (l5 : Int32) (h : Hp), G rvI I_X11_likeliest 22 48 [(0, .ref l0), (3, .int l3), (4, .int l4), (5, .int l5)] [] h (K48 l0 l3 l4 l5 h)) (l0 : Nat) (l3 : Int32) (l4 : Int32) (l5 : Int32) (h : Hp) : G rvI I_X11_likeliest 22 48 [(0, .ref l0), (3, .int l3), (4, .int l4), (5, .int l5)] [] h (f_X11_likeliest_48_b F K48 l0 l3 l4 l5 h) := by
  delta f_X11_likeliest_48_b
  refine g_iload 3 dX11_likeliest_48 rfl ?_
  refine g_aload_n 0 dX11_likeliest_50 rfl ?_
  refine g_getR fl_RX11_20 rfl dX11_likeliest_51 (fun v11 => ?_)
  refine g_getI fl_RX11_184 rfl dX11_likeliest_54 (fun v12 => ?_)
  refine g_icmp_ge (tgt := 94) dX11_likeliest_57 (by decide) (fun c13 => ?_) (fun c13 => ?_)
  · refine g_iload_n 1 dX11_likeliest_94 rfl ?_
    exact g_iret rfl dX11_likeliest_95
  · refine g_aload_n 0 dX11_likeliest_60 rfl ?_
    refine g_getR fl_RX11_90 rfl dX11_likeliest_61 (fun v14 => ?_)
    refine g_iload 3 dX11_likeliest_64 rfl ?_
    refine g_callVi (J := I_X0_hitsOf) (t := 1) (As := [.int l5]) (rest := []) mjv_X0_hitsOf ml_RX11_360 ⟨rfl, by decide, by decide⟩ (by decide) rfl rfl (Nat.le_of_ble_eq_true rfl) dX11_likeliest_66 (T_X0_hitsOf F v14 l5 h) (fun v15 h16 => ?_)
    refine g_iload 2 dX11_likeliest_69 rfl ?_
    refine g_icmp_le (tgt := 88) dX11_likeliest_71 (by decide) (fun c17 => ?_) (fun c17 => ?_)
    · refine G_lv [0, 1, 2, 3] rfl ?_
      exact T_X11_likeliest_88 F hK48 l0 l3 l4 l5 h16
    · refine g_aload_n 0 dX11_likeliest_74 rfl ?_
      refine g_getR fl_RX11_90 rfl dX11_likeliest_75 (fun v18 => ?_)
      refine g_iload 3 dX11_likeliest_78 rfl ?_
      refine g_callVi (J := I_X0_hitsOf) (t := 1) (As := [.int l5]) (rest := []) mjv_X0_hitsOf ml_RX11_360 ⟨rfl, by decide, by decide⟩ (by decide) rfl rfl (Nat.le_of_ble_eq_true rfl) dX11_likeliest_80 (T_X0_hitsOf F v18 l5 h16) (fun v19 h20 => ?_)
      refine g_istore (lv' := [(4, .int v19), (0, .ref l0), (3, .int l3), (5, .int l5)]) dX11_likeliest_83 (by decide) rfl ?_
      refine g_iload 3 dX11_likeliest_85 rfl ?_
      refine g_istore_n (lv' := [(3, .int l5), (4, .int v19), (0, .ref l0), (5, .int l5)]) dX11_likeliest_87 (by decide) rfl ?_
      refine G_lv [2, 0, 1, 3] rfl ?_
      exact T_X11_likeliest_88 F hK48 l0 l5 v19 l5 h20
set_option maxRecDepth 100000 in
noncomputable def f_X11_likeliest_48 (F : Nat) : Nat → Nat → Int32 → Int32 → Int32 → Hp → Option (Int32 × Hp)
  | 0, _, _, _, _, _ => none
  | n + 1, l0, l3, l4, l5, h => f_X11_likeliest_48_b F (f_X11_likeliest_48 F n) l0 l3 l4 l5 h
set_option maxRecDepth 100000 in
set_option maxHeartbeats 4000000 in
theorem T_X11_likeliest_48 (F : Nat) : ∀ (n : Nat) (l0 : Nat) (l3 : Int32) (l4 : Int32) (l5 : Int32) (h : Hp), G rvI I_X11_likeliest 22 48 [(0, .ref l0), (3, .int l3), (4, .int l4), (5, .int l5)] [] h (f_X11_likeliest_48 F n l0 l3 l4 l5 h) := by
  intro n
  induction n with
  | zero => intros; exact G_none
  | succ n ih => intro l0 l3 l4 l5 h; exact T_X11_likeliest_48_b F ih l0 l3 l4 l5 h
set_option maxRecDepth 100000 in
noncomputable def f_X11_likeliest (F : Nat) (a0 : Nat) (a1 : Int32) (a2 : Int32) (h : Hp) : Option (Int32 × Hp) :=
  cV 12 h a0 (f_X11_noTwin F a0 a1 h) fun v1 h2 => if v1 = 0 then (if a2 < 0 then (some ((-3), h2)) else (if a2 ≤ 4 then (gR 12 h2 a0 15 fun v6 => gR 12 h2 a0 3 fun v7 => gR 12 h2 a0 5 fun v8 => cV 1 h2 v6 (f_X0_ask F v6 v7 v8 a1 a2 h2) fun v9 h10 => f_X11_likeliest_48 F F a0 (-1) (-1) 0 h10) else (some ((-3), h2)))) else (some ((-2), h2))
set_option maxRecDepth 100000 in
set_option maxHeartbeats 4000000 in
theorem T_X11_likeliest (F : Nat) (a0 : Nat) (a1 : Int32) (a2 : Int32) (h : Hp) : GM rvI I_X11_likeliest 22 [.ref a0, .int a1, .int a2] h (f_X11_likeliest F a0 a1 a2 h) := by
  delta f_X11_likeliest
  refine GM_of (lv := [(0, .ref a0), (1, .int a1), (2, .int a2)]) (by decide +kernel) (Nat.le_of_ble_eq_true rfl) rfl ?_
  refine g_aload_n 0 dX11_likeliest_0 rfl ?_
  refine g_iload_n 1 dX11_likeliest_1 rfl ?_
  refine g_callVi (J := I_X11_noTwin) (t := 12) (As := [.int a1]) (rest := []) mjv_X11_noTwin ml_RX11_149 ⟨rfl, by decide, by decide⟩ (by decide) rfl rfl (Nat.le_of_ble_eq_true rfl) dX11_likeliest_2 (T_X11_noTwin F a0 a1 h) (fun v1 h2 => ?_)
  refine g_if_eq (tgt := 11) dX11_likeliest_5 (by decide) (fun c3 => ?_) (fun c3 => ?_)
  · refine g_iload_n 2 dX11_likeliest_11 rfl ?_
    refine g_if_lt (tgt := 20) dX11_likeliest_12 (by decide) (fun c4 => ?_) (fun c4 => ?_)
    · refine g_bipush (v := (-3)) dX11_likeliest_20 (by decide) ?_
      exact g_iret rfl dX11_likeliest_22
    · refine g_iload_n 2 dX11_likeliest_15 rfl ?_
      refine g_iconst (v := 4) dX11_likeliest_16 (by decide) ?_
      refine g_icmp_le (tgt := 23) dX11_likeliest_17 (by decide) (fun c5 => ?_) (fun c5 => ?_)
      · refine g_aload_n 0 dX11_likeliest_23 rfl ?_
        refine g_getR fl_RX11_90 rfl dX11_likeliest_24 (fun v6 => ?_)
        refine g_aload_n 0 dX11_likeliest_27 rfl ?_
        refine g_getR fl_RX11_20 rfl dX11_likeliest_28 (fun v7 => ?_)
        refine g_aload_n 0 dX11_likeliest_31 rfl ?_
        refine g_getR fl_RX11_36 rfl dX11_likeliest_32 (fun v8 => ?_)
        refine g_iload_n 1 dX11_likeliest_35 rfl ?_
        refine g_iload_n 2 dX11_likeliest_36 rfl ?_
        refine g_callVv (J := I_X0_ask) (t := 1) (As := [.ref v7, .ref v8, .int a1, .int a2]) (rest := []) mjv_X0_ask ml_RX11_358 ⟨rfl, by decide, by decide⟩ (by decide) rfl rfl (Nat.le_of_ble_eq_true rfl) dX11_likeliest_37 (T_X0_ask F v6 v7 v8 a1 a2 h2) (fun v9 h10 => ?_)
        refine g_iconst (v := (-1)) dX11_likeliest_40 (by decide) ?_
        refine g_istore_n (lv' := [(3, .int (-1)), (0, .ref a0), (1, .int a1), (2, .int a2)]) dX11_likeliest_41 (by decide) rfl ?_
        refine g_iconst (v := (-1)) dX11_likeliest_42 (by decide) ?_
        refine g_istore (lv' := [(4, .int (-1)), (3, .int (-1)), (0, .ref a0), (1, .int a1), (2, .int a2)]) dX11_likeliest_43 (by decide) rfl ?_
        refine g_iconst (v := 0) dX11_likeliest_45 (by decide) ?_
        refine g_istore (lv' := [(5, .int 0), (4, .int (-1)), (3, .int (-1)), (0, .ref a0), (1, .int a1), (2, .int a2)]) dX11_likeliest_46 (by decide) rfl ?_
        refine G_lv [3, 2, 1, 0] rfl ?_
        exact T_X11_likeliest_48 F F a0 (-1) (-1) 0 h10
      · refine g_bipush (v := (-3)) dX11_likeliest_20 (by decide) ?_
        exact g_iret rfl dX11_likeliest_22
  · refine g_bipush (v := (-2)) dX11_likeliest_8 (by decide) ?_
    exact g_iret rfl dX11_likeliest_10
