/-! L2, by program (wip/whole/gen/gen.py) -/
set_option maxRecDepth 100000 in
noncomputable def f_X4_bringBack (F : Nat) (a0 : Nat) (a1 : Int32) (a2 : Nat) (h : Hp) : Option (Unit × Hp) :=
  if a1 < 1 then (some ((), h)) else (gI 5 h a0 0 fun v2 => if v2 < a1 then (some ((), h)) else (gI 5 h a0 0 fun v4 => pI 5 h a0 0 (v4 - a1) fun h5 => gR 5 h5 a0 1 fun v6 => gI 5 h5 a0 0 fun v7 => aI 20 h5 v6 v7 fun v8 => pI 9 h5 a2 0 v8 fun h9 => gR 5 h9 a0 2 fun v10 => gI 5 h9 a0 0 fun v11 => aI 20 h9 v10 v11 fun v12 => pI 9 h9 a2 1 v12 fun h13 => some ((), h13)))
set_option maxRecDepth 100000 in
set_option maxHeartbeats 4000000 in
theorem T_X4_bringBack (F : Nat) (a0 : Nat) (a1 : Int32) (a2 : Nat) (h : Hp) : GM rvV I_X4_bringBack 1 [.ref a0, .int a1, .ref a2] h (f_X4_bringBack F a0 a1 a2 h) := by
  delta f_X4_bringBack
  refine GM_of (lv := [(0, .ref a0), (1, .int a1), (2, .ref a2)]) (by decide +kernel) (Nat.le_of_ble_eq_true rfl) rfl ?_
  refine g_iload_n 1 dX4_bringBack_0 rfl ?_
  refine g_iconst (v := 1) dX4_bringBack_1 (by decide) ?_
  refine g_icmp_lt (tgt := 49) dX4_bringBack_2 (by decide) (fun c1 => ?_) (fun c1 => ?_)
  · exact g_vret rfl dX4_bringBack_49
  · refine g_iload_n 1 dX4_bringBack_5 rfl ?_
    refine g_aload_n 0 dX4_bringBack_6 rfl ?_
    refine g_getI fl_RX4_18 rfl dX4_bringBack_7 (fun v2 => ?_)
    refine g_icmp_gt (tgt := 49) dX4_bringBack_10 (by decide) (fun c3 => ?_) (fun c3 => ?_)
    · exact g_vret rfl dX4_bringBack_49
    · refine g_aload_n 0 dX4_bringBack_13 rfl ?_
      refine g_dup dX4_bringBack_14 rfl ?_
      refine g_getI fl_RX4_18 rfl dX4_bringBack_15 (fun v4 => ?_)
      refine g_iload_n 1 dX4_bringBack_18 rfl ?_
      refine g_isub dX4_bringBack_19 ?_
      refine g_putI fl_RX4_18 (Or.inl rfl) dX4_bringBack_20 (fun h5 => ?_)
      refine g_aload_n 2 dX4_bringBack_23 rfl ?_
      refine g_aload_n 0 dX4_bringBack_24 rfl ?_
      refine g_getR fl_RX4_9 rfl dX4_bringBack_25 (fun v6 => ?_)
      refine g_aload_n 0 dX4_bringBack_28 rfl ?_
      refine g_getI fl_RX4_18 rfl dX4_bringBack_29 (fun v7 => ?_)
      refine g_iald dX4_bringBack_32 (fun v8 => ?_)
      refine g_putI fl_RX4_28 (Or.inl rfl) dX4_bringBack_33 (fun h9 => ?_)
      refine g_aload_n 2 dX4_bringBack_36 rfl ?_
      refine g_aload_n 0 dX4_bringBack_37 rfl ?_
      refine g_getR fl_RX4_15 rfl dX4_bringBack_38 (fun v10 => ?_)
      refine g_aload_n 0 dX4_bringBack_41 rfl ?_
      refine g_getI fl_RX4_18 rfl dX4_bringBack_42 (fun v11 => ?_)
      refine g_iald dX4_bringBack_45 (fun v12 => ?_)
      refine g_putI fl_RX4_32 (Or.inl rfl) dX4_bringBack_46 (fun h13 => ?_)
      exact g_vret rfl dX4_bringBack_49
set_option maxRecDepth 100000 in
noncomputable def f_X11_undo (F : Nat) (a0 : Nat) (a1 : Int32) (h : Hp) : Option (Int32 × Hp) :=
  if a1 < 1 then (some ((-3), h)) else (gR 12 h a0 7 fun v2 => gI 5 h v2 0 fun v3 => if a1 ≤ v3 then (gR 12 h a0 7 fun v5 => gR 12 h a0 5 fun v6 => cV 5 h v5 (f_X4_bringBack F v5 a1 v6 h) fun v7 h8 => gR 12 h8 a0 7 fun v9 => gI 5 h8 v9 0 fun v10 => some (v10, h8)) else (some ((-3), h)))
set_option maxRecDepth 100000 in
set_option maxHeartbeats 4000000 in
theorem T_X11_undo (F : Nat) (a0 : Nat) (a1 : Int32) (h : Hp) : GM rvI I_X11_undo 2 [.ref a0, .int a1] h (f_X11_undo F a0 a1 h) := by
  delta f_X11_undo
  refine GM_of (lv := [(0, .ref a0), (1, .int a1)]) (by decide +kernel) (Nat.le_of_ble_eq_true rfl) rfl ?_
  refine g_iload_n 1 dX11_undo_0 rfl ?_
  refine g_iconst (v := 1) dX11_undo_1 (by decide) ?_
  refine g_icmp_lt (tgt := 16) dX11_undo_2 (by decide) (fun c1 => ?_) (fun c1 => ?_)
  · refine g_bipush (v := (-3)) dX11_undo_16 (by decide) ?_
    exact g_iret rfl dX11_undo_18
  · refine g_iload_n 1 dX11_undo_5 rfl ?_
    refine g_aload_n 0 dX11_undo_6 rfl ?_
    refine g_getR fl_RX11_46 rfl dX11_undo_7 (fun v2 => ?_)
    refine g_getI fl_RX11_213 rfl dX11_undo_10 (fun v3 => ?_)
    refine g_icmp_le (tgt := 19) dX11_undo_13 (by decide) (fun c4 => ?_) (fun c4 => ?_)
    · refine g_aload_n 0 dX11_undo_19 rfl ?_
      refine g_getR fl_RX11_46 rfl dX11_undo_20 (fun v5 => ?_)
      refine g_iload_n 1 dX11_undo_23 rfl ?_
      refine g_aload_n 0 dX11_undo_24 rfl ?_
      refine g_getR fl_RX11_36 rfl dX11_undo_25 (fun v6 => ?_)
      refine g_callVv (J := I_X4_bringBack) (t := 5) (As := [.int a1, .ref v6]) (rest := []) mjv_X4_bringBack ml_RX11_216 ⟨rfl, by decide, by decide⟩ (by decide) rfl rfl (Nat.le_of_ble_eq_true rfl) dX11_undo_28 (T_X4_bringBack F v5 a1 v6 h) (fun v7 h8 => ?_)
      refine g_aload_n 0 dX11_undo_31 rfl ?_
      refine g_getR fl_RX11_46 rfl dX11_undo_32 (fun v9 => ?_)
      refine g_getI fl_RX11_213 rfl dX11_undo_35 (fun v10 => ?_)
      exact g_iret rfl dX11_undo_38
    · refine g_bipush (v := (-3)) dX11_undo_16 (by decide) ?_
      exact g_iret rfl dX11_undo_18
set_option maxRecDepth 100000 in
noncomputable def f_X11_way (F : Nat) (a0 : Nat) (a1 : Int32) (a2 : Int32) (a3 : Int32) (h : Hp) : Option (Int32 × Hp) :=
  cV 12 h a0 (f_X11_noSet F a0 a1 h) fun v1 h2 => if v1 = 0 then (cV 12 h2 a0 (f_X11_noSet F a0 a2 h2) fun v4 h5 => if v4 = 0 then (if 0 ≤ a3 then (cV 12 h5 a0 (f_X11_endOfComing F a0 a1 a2 h5) fun v8 h9 => cV 12 h9 a0 (f_X11_answerOf F a0 v8 a3 h9) fun v10 h11 => some (v10, h11)) else (some ((-3), h5))) else (some ((-3), h5))) else (some ((-3), h2))
set_option maxRecDepth 100000 in
set_option maxHeartbeats 4000000 in
theorem T_X11_way (F : Nat) (a0 : Nat) (a1 : Int32) (a2 : Int32) (a3 : Int32) (h : Hp) : GM rvI I_X11_way 7 [.ref a0, .int a1, .int a2, .int a3] h (f_X11_way F a0 a1 a2 a3 h) := by
  delta f_X11_way
  refine GM_of (lv := [(0, .ref a0), (1, .int a1), (2, .int a2), (3, .int a3)]) (by decide +kernel) (Nat.le_of_ble_eq_true rfl) rfl ?_
  refine g_aload_n 0 dX11_way_0 rfl ?_
  refine g_iload_n 1 dX11_way_1 rfl ?_
  refine g_callVi (J := I_X11_noSet) (t := 12) (As := [.int a1]) (rest := []) mjv_X11_noSet ml_RX11_237 ⟨rfl, by decide, by decide⟩ (by decide) rfl rfl (Nat.le_of_ble_eq_true rfl) dX11_way_2 (T_X11_noSet F a0 a1 h) (fun v1 h2 => ?_)
  refine g_if_ne (tgt := 20) dX11_way_5 (by decide) (fun c3 => ?_) (fun c3 => ?_)
  · refine g_aload_n 0 dX11_way_8 rfl ?_
    refine g_iload_n 2 dX11_way_9 rfl ?_
    refine g_callVi (J := I_X11_noSet) (t := 12) (As := [.int a2]) (rest := []) mjv_X11_noSet ml_RX11_237 ⟨rfl, by decide, by decide⟩ (by decide) rfl rfl (Nat.le_of_ble_eq_true rfl) dX11_way_10 (T_X11_noSet F a0 a2 h2) (fun v4 h5 => ?_)
    refine g_if_ne (tgt := 20) dX11_way_13 (by decide) (fun c6 => ?_) (fun c6 => ?_)
    · refine g_iload_n 3 dX11_way_16 rfl ?_
      refine g_if_ge (tgt := 23) dX11_way_17 (by decide) (fun c7 => ?_) (fun c7 => ?_)
      · refine g_aload_n 0 dX11_way_23 rfl ?_
        refine g_aload_n 0 dX11_way_24 rfl ?_
        refine g_iload_n 1 dX11_way_25 rfl ?_
        refine g_iload_n 2 dX11_way_26 rfl ?_
        refine g_callVi (J := I_X11_endOfComing) (t := 12) (As := [.int a1, .int a2]) (rest := [.ref a0]) mjv_X11_endOfComing ml_RX11_240 ⟨rfl, by decide, by decide⟩ (by decide) rfl rfl (Nat.le_of_ble_eq_true rfl) dX11_way_27 (T_X11_endOfComing F a0 a1 a2 h5) (fun v8 h9 => ?_)
        refine g_iload_n 3 dX11_way_30 rfl ?_
        refine g_callVi (J := I_X11_answerOf) (t := 12) (As := [.int v8, .int a3]) (rest := []) mjv_X11_answerOf ml_RX11_246 ⟨rfl, by decide, by decide⟩ (by decide) rfl rfl (Nat.le_of_ble_eq_true rfl) dX11_way_31 (T_X11_answerOf F a0 v8 a3 h9) (fun v10 h11 => ?_)
        exact g_iret rfl dX11_way_34
      · refine g_bipush (v := (-3)) dX11_way_20 (by decide) ?_
        exact g_iret rfl dX11_way_22
    · refine g_bipush (v := (-3)) dX11_way_20 (by decide) ?_
      exact g_iret rfl dX11_way_22
  · refine g_bipush (v := (-3)) dX11_way_20 (by decide) ?_
    exact g_iret rfl dX11_way_22
set_option maxRecDepth 100000 in
noncomputable def f_X11_whom (F : Nat) (a0 : Nat) (a1 : Int32) (a2 : Int32) (a3 : Int32) (a4 : Int32) (h : Hp) : Option (Int32 × Hp) :=
  cV 12 h a0 (f_X11_refusalOfTold F a0 a1 a2 a3 h) fun v1 h2 => if v1 = 0 then (if 0 ≤ a4 then (gR 12 h2 a0 16 fun v5 => gR 12 h2 a0 3 fun v6 => gR 12 h2 a0 5 fun v7 => gR 12 h2 a0 8 fun v8 => aR 26 h2 v8 a1 fun v9 => cV 11 h2 v5 (f_X10_ask F v5 v6 v7 v9 a2 a3 h2) fun v10 h11 => gR 12 h11 a0 16 fun v12 => gI 11 h11 v12 0 fun v13 => if v13 = 0 then (some ((-1), h11)) else (gR 12 h11 a0 8 fun v15 => aR 26 h11 v15 a1 fun v16 => gI 10 h11 v16 0 fun v17 => if a4 < v17 then (gR 12 h11 a0 16 fun v19 => gI 11 h11 v19 1 fun v20 => some (((v20 >>> (a4 &&& 31)) &&& 1), h11)) else (some ((-1), h11)))) else (some ((-3), h2))) else (some (v1, h2))
set_option maxRecDepth 100000 in
set_option maxHeartbeats 4000000 in
theorem T_X11_whom (F : Nat) (a0 : Nat) (a1 : Int32) (a2 : Int32) (a3 : Int32) (a4 : Int32) (h : Hp) : GM rvI I_X11_whom 22 [.ref a0, .int a1, .int a2, .int a3, .int a4] h (f_X11_whom F a0 a1 a2 a3 a4 h) := by
  delta f_X11_whom
  refine GM_of (lv := [(0, .ref a0), (1, .int a1), (2, .int a2), (3, .int a3), (4, .int a4)]) (by decide +kernel) (Nat.le_of_ble_eq_true rfl) rfl ?_
  refine g_aload_n 0 dX11_whom_0 rfl ?_
  refine g_iload_n 1 dX11_whom_1 rfl ?_
  refine g_iload_n 2 dX11_whom_2 rfl ?_
  refine g_iload_n 3 dX11_whom_3 rfl ?_
  refine g_callVi (J := I_X11_refusalOfTold) (t := 12) (As := [.int a1, .int a2, .int a3]) (rest := []) mjv_X11_refusalOfTold ml_RX11_296 ⟨rfl, by decide, by decide⟩ (by decide) rfl rfl (Nat.le_of_ble_eq_true rfl) dX11_whom_4 (T_X11_refusalOfTold F a0 a1 a2 a3 h) (fun v1 h2 => ?_)
  refine g_istore (lv' := [(5, .int v1), (0, .ref a0), (1, .int a1), (2, .int a2), (3, .int a3), (4, .int a4)]) dX11_whom_7 (by decide) rfl ?_
  refine g_iload 0 dX11_whom_9 rfl ?_
  refine g_if_eq (tgt := 17) dX11_whom_11 (by decide) (fun c3 => ?_) (fun c3 => ?_)
  · refine g_iload 5 dX11_whom_17 rfl ?_
    refine g_if_ge (tgt := 25) dX11_whom_19 (by decide) (fun c4 => ?_) (fun c4 => ?_)
    · refine g_aload_n 1 dX11_whom_25 rfl ?_
      refine g_getR fl_RX11_97 rfl dX11_whom_26 (fun v5 => ?_)
      refine g_aload_n 1 dX11_whom_29 rfl ?_
      refine g_getR fl_RX11_20 rfl dX11_whom_30 (fun v6 => ?_)
      refine g_aload_n 1 dX11_whom_33 rfl ?_
      refine g_getR fl_RX11_36 rfl dX11_whom_34 (fun v7 => ?_)
      refine g_aload_n 1 dX11_whom_37 rfl ?_
      refine g_getR fl_RX11_52 rfl dX11_whom_38 (fun v8 => ?_)
      refine g_iload_n 2 dX11_whom_41 rfl ?_
      refine g_aald (by decide) (by decide) dX11_whom_42 (fun v9 => ?_)
      refine g_iload_n 3 dX11_whom_43 rfl ?_
      refine g_iload_n 4 dX11_whom_44 rfl ?_
      refine g_callVv (J := I_X10_ask) (t := 11) (As := [.ref v6, .ref v7, .ref v9, .int a2, .int a3]) (rest := []) mjv_X10_ask ml_RX11_299 ⟨rfl, by decide, by decide⟩ (by decide) rfl rfl (Nat.le_of_ble_eq_true rfl) dX11_whom_45 (T_X10_ask F v5 v6 v7 v9 a2 a3 h2) (fun v10 h11 => ?_)
      refine g_aload_n 1 dX11_whom_48 rfl ?_
      refine g_getR fl_RX11_97 rfl dX11_whom_49 (fun v12 => ?_)
      refine g_getI fl_RX11_303 rfl dX11_whom_52 (fun v13 => ?_)
      refine g_if_eq (tgt := 72) dX11_whom_55 (by decide) (fun c14 => ?_) (fun c14 => ?_)
      · refine g_iconst (v := (-1)) dX11_whom_72 (by decide) ?_
        exact g_iret rfl dX11_whom_73
      · refine g_iload 5 dX11_whom_58 rfl ?_
        refine g_aload_n 1 dX11_whom_60 rfl ?_
        refine g_getR fl_RX11_52 rfl dX11_whom_61 (fun v15 => ?_)
        refine g_iload_n 2 dX11_whom_64 rfl ?_
        refine g_aald (by decide) (by decide) dX11_whom_65 (fun v16 => ?_)
        refine g_getI fl_RX11_306 rfl dX11_whom_66 (fun v17 => ?_)
        refine g_icmp_lt (tgt := 74) dX11_whom_69 (by decide) (fun c18 => ?_) (fun c18 => ?_)
        · refine g_aload_n 1 dX11_whom_74 rfl ?_
          refine g_getR fl_RX11_97 rfl dX11_whom_75 (fun v19 => ?_)
          refine g_getI fl_RX11_309 rfl dX11_whom_78 (fun v20 => ?_)
          refine g_iload 5 dX11_whom_81 rfl ?_
          refine g_ishr dX11_whom_83 ?_
          refine g_iconst (v := 1) dX11_whom_84 (by decide) ?_
          refine g_iand dX11_whom_85 ?_
          exact g_iret rfl dX11_whom_86
        · refine g_iconst (v := (-1)) dX11_whom_72 (by decide) ?_
          exact g_iret rfl dX11_whom_73
    · refine g_bipush (v := (-3)) dX11_whom_22 (by decide) ?_
      exact g_iret rfl dX11_whom_24
  · refine g_iload 0 dX11_whom_14 rfl ?_
    exact g_iret rfl dX11_whom_16
set_option maxRecDepth 100000 in
noncomputable def f_X11_write (F : Nat) (a0 : Nat) (a1 : Int32) (a2 : Int32) (a3 : Int64) (h : Hp) : Option (Int64 × Hp) :=
  cV 12 h a0 (f_X11_noTray F a0 a1 h) fun v1 h2 => if v1 = 0 then (gR 12 h2 a0 8 fun v4 => aR 26 h2 v4 a1 fun v5 => cV 10 h2 v5 (f_X9_isMissing F v5 h2) fun v6 h7 => if v6 = 0 then (if a2 < 0 then (some ((-7), h7)) else (gR 12 h7 a0 8 fun v10 => aR 26 h7 v10 a1 fun v11 => gI 10 h7 v11 0 fun v12 => if a2 < v12 then (gR 12 h7 a0 8 fun v14 => aR 26 h7 v14 a1 fun v15 => cV 10 h7 v15 (f_X9_put F v15 a2 a3 h7) fun v16 h17 => gR 12 h17 a0 8 fun v18 => aR 26 h17 v18 a1 fun v19 => cV 10 h17 v19 (f_X9_at F v19 a2 h17) fun v20 h21 => some (v20, h21)) else (some ((-7), h7)))) else (some ((-6), h7))) else (some ((-2), h2))
set_option maxRecDepth 100000 in
set_option maxHeartbeats 4000000 in
theorem T_X11_write (F : Nat) (a0 : Nat) (a1 : Int32) (a2 : Int32) (a3 : Int64) (h : Hp) : GM rvL I_X11_write 3 [.ref a0, .int a1, .int a2, .long a3] h (f_X11_write F a0 a1 a2 a3 h) := by
  delta f_X11_write
  refine GM_of (lv := [(0, .ref a0), (1, .int a1), (2, .int a2), (3, .long a3)]) (by decide +kernel) (Nat.le_of_ble_eq_true rfl) rfl ?_
  refine g_aload_n 0 dX11_write_0 rfl ?_
  refine g_iload_n 1 dX11_write_1 rfl ?_
  refine g_callVi (J := I_X11_noTray) (t := 12) (As := [.int a1]) (rest := []) mjv_X11_noTray ml_RX11_220 ⟨rfl, by decide, by decide⟩ (by decide) rfl rfl (Nat.le_of_ble_eq_true rfl) dX11_write_2 (T_X11_noTray F a0 a1 h) (fun v1 h2 => ?_)
  refine g_if_eq (tgt := 12) dX11_write_5 (by decide) (fun c3 => ?_) (fun c3 => ?_)
  · refine g_aload_n 0 dX11_write_12 rfl ?_
    refine g_getR fl_RX11_52 rfl dX11_write_13 (fun v4 => ?_)
    refine g_iload_n 1 dX11_write_16 rfl ?_
    refine g_aald (by decide) (by decide) dX11_write_17 (fun v5 => ?_)
    refine g_callVi (J := I_X9_isMissing) (t := 10) (As := []) (rest := []) mjv_X9_isMissing ml_RX11_223 ⟨rfl, by decide, by decide⟩ (by decide) rfl rfl (Nat.le_of_ble_eq_true rfl) dX11_write_18 (T_X9_isMissing F v5 h2) (fun v6 h7 => ?_)
    refine g_if_eq (tgt := 28) dX11_write_21 (by decide) (fun c8 => ?_) (fun c8 => ?_)
    · refine g_iload_n 2 dX11_write_28 rfl ?_
      refine g_if_lt (tgt := 45) dX11_write_29 (by decide) (fun c9 => ?_) (fun c9 => ?_)
      · refine g_ldc2 (v := (-7)) dX11_write_45 cl_RX11_377 ?_
        exact g_lret rfl dX11_write_48
      · refine g_iload_n 2 dX11_write_32 rfl ?_
        refine g_aload_n 0 dX11_write_33 rfl ?_
        refine g_getR fl_RX11_52 rfl dX11_write_34 (fun v10 => ?_)
        refine g_iload_n 1 dX11_write_37 rfl ?_
        refine g_aald (by decide) (by decide) dX11_write_38 (fun v11 => ?_)
        refine g_getI fl_RX11_306 rfl dX11_write_39 (fun v12 => ?_)
        refine g_icmp_lt (tgt := 49) dX11_write_42 (by decide) (fun c13 => ?_) (fun c13 => ?_)
        · refine g_aload_n 0 dX11_write_49 rfl ?_
          refine g_getR fl_RX11_52 rfl dX11_write_50 (fun v14 => ?_)
          refine g_iload_n 1 dX11_write_53 rfl ?_
          refine g_aald (by decide) (by decide) dX11_write_54 (fun v15 => ?_)
          refine g_iload_n 2 dX11_write_55 rfl ?_
          refine g_lload_n 3 dX11_write_56 rfl ?_
          refine g_callVv (J := I_X9_put) (t := 10) (As := [.int a2, .long a3]) (rest := []) mjv_X9_put ml_RX11_379 ⟨rfl, by decide, by decide⟩ (by decide) rfl rfl (Nat.le_of_ble_eq_true rfl) dX11_write_57 (T_X9_put F v15 a2 a3 h7) (fun v16 h17 => ?_)
          refine g_aload_n 0 dX11_write_60 rfl ?_
          refine g_getR fl_RX11_52 rfl dX11_write_61 (fun v18 => ?_)
          refine g_iload_n 1 dX11_write_64 rfl ?_
          refine g_aald (by decide) (by decide) dX11_write_65 (fun v19 => ?_)
          refine g_iload_n 2 dX11_write_66 rfl ?_
          refine g_callVl (J := I_X9_at) (t := 10) (As := [.int a2]) (rest := []) mjv_X9_at ml_RX11_318 ⟨rfl, by decide, by decide⟩ (by decide) rfl rfl (Nat.le_of_ble_eq_true rfl) dX11_write_67 (T_X9_at F v19 a2 h17) (fun v20 h21 => ?_)
          exact g_lret rfl dX11_write_70
        · refine g_ldc2 (v := (-7)) dX11_write_45 cl_RX11_377 ?_
          exact g_lret rfl dX11_write_48
    · refine g_ldc2 (v := (-6)) dX11_write_24 cl_RX11_375 ?_
      exact g_lret rfl dX11_write_27
  · refine g_ldc2 (v := (-2)) dX11_write_8 cl_RX11_373 ?_
    exact g_lret rfl dX11_write_11
set_option maxRecDepth 100000 in
noncomputable def f_X8_draw (F : Nat) (a0 : Nat) (h : Hp) : Option (Int32 × Hp) :=
  gI 9 h a0 3 fun v1 => pI 9 h a0 3 ((1103515245 * v1) + 12345) fun h2 => gI 9 h2 a0 3 fun v3 => some ((ju v3 16), h2)
set_option maxRecDepth 100000 in
set_option maxHeartbeats 4000000 in
theorem T_X8_draw (F : Nat) (a0 : Nat) (h : Hp) : GM rvI I_X8_draw 1 [.ref a0] h (f_X8_draw F a0 h) := by
  delta f_X8_draw
  refine GM_of (lv := [(0, .ref a0)]) (by decide +kernel) (Nat.le_of_ble_eq_true rfl) rfl ?_
  refine g_aload_n 0 dX8_draw_0 rfl ?_
  refine g_ldc (v := 1103515245) dX8_draw_1 co_RX8_93 ?_
  refine g_aload_n 0 dX8_draw_3 rfl ?_
  refine g_getI fl_RX8_83 rfl dX8_draw_4 (fun v1 => ?_)
  refine g_imul dX8_draw_7 ?_
  refine g_sipush (v := 12345) dX8_draw_8 (by decide) ?_
  refine g_iadd dX8_draw_11 ?_
  refine g_putI fl_RX8_83 (Or.inl rfl) dX8_draw_12 (fun h2 => ?_)
  refine g_aload_n 0 dX8_draw_15 rfl ?_
  refine g_getI fl_RX8_83 rfl dX8_draw_16 (fun v3 => ?_)
  refine g_bipush (v := 16) dX8_draw_19 (by decide) ?_
  refine g_iushr dX8_draw_21 ?_
  exact g_iret rfl dX8_draw_22
set_option maxRecDepth 100000 in
noncomputable def f_X8_drawnDeed_57 (F : Nat) (l2 : Int32) (l3 : Int32) (s0 : Int32) (h : Hp) : Option (Int32 × Hp) :=
  some (((s0 + (10 * l2)) + l3), h)
set_option maxRecDepth 100000 in
set_option maxHeartbeats 4000000 in
theorem T_X8_drawnDeed_57 (F : Nat) (l2 : Int32) (l3 : Int32) (s0 : Int32) (h : Hp) : G rvI I_X8_drawnDeed 2 57 [(2, .int l2), (3, .int l3)] [.int s0] h (f_X8_drawnDeed_57 F l2 l3 s0 h) := by
  delta f_X8_drawnDeed_57
  refine g_bipush (v := 10) dX8_drawnDeed_57 (by decide) ?_
  refine g_iload_n 0 dX8_drawnDeed_59 rfl ?_
  refine g_imul dX8_drawnDeed_60 ?_
  refine g_iadd dX8_drawnDeed_61 ?_
  refine g_iload_n 1 dX8_drawnDeed_62 rfl ?_
  refine g_iadd dX8_drawnDeed_63 ?_
  exact g_iret rfl dX8_drawnDeed_64
set_option maxRecDepth 100000 in
noncomputable def f_X8_drawnDeed (F : Nat) (a0 : Nat) (h : Hp) : Option (Int32 × Hp) :=
  cV 9 h a0 (f_X8_draw F a0 h) fun v1 h2 => lt (v1 - v1 / 6 * 6) fun x3 => if x3 = 4 then (some ((-1), h2)) else (if x3 = 5 then (cV 9 h2 a0 (f_X8_draw F a0 h2) fun v6 h7 => some ((200 + (v6 - v6 / 10 * 10)), h7)) else (cV 9 h2 a0 (f_X8_draw F a0 h2) fun v8 h9 => lt (v8 - v8 / 2 * 2) fun x10 => cV 9 h9 a0 (f_X8_draw F a0 h9) fun v11 h12 => lt (v11 - v11 / 4 * 4) fun x13 => if x3 = 3 then (f_X8_drawnDeed_57 F x10 x13 100 h12) else (f_X8_drawnDeed_57 F x10 x13 0 h12)))
set_option maxRecDepth 100000 in
set_option maxHeartbeats 4000000 in
theorem T_X8_drawnDeed (F : Nat) (a0 : Nat) (h : Hp) : GM rvI I_X8_drawnDeed 2 [.ref a0] h (f_X8_drawnDeed F a0 h) := by
  delta f_X8_drawnDeed
  refine GM_of (lv := [(0, .ref a0)]) (by decide +kernel) (Nat.le_of_ble_eq_true rfl) rfl ?_
  refine g_aload_n 0 dX8_drawnDeed_0 rfl ?_
  refine g_callVi (J := I_X8_draw) (t := 9) (As := []) (rest := []) mjv_X8_draw ml_RX8_90 ⟨rfl, by decide, by decide⟩ (by decide) rfl rfl (Nat.le_of_ble_eq_true rfl) dX8_drawnDeed_1 (T_X8_draw F a0 h) (fun v1 h2 => ?_)
  refine g_bipush (v := 6) dX8_drawnDeed_4 (by decide) ?_
  refine g_irem (by decide) dX8_drawnDeed_6 ?_
  refine G_lti (fun x3 => ?_)
  refine g_istore_n (lv' := [(1, .int x3), (0, .ref a0)]) dX8_drawnDeed_7 (by decide) rfl ?_
  refine g_iload_n 0 dX8_drawnDeed_8 rfl ?_
  refine g_iconst (v := 4) dX8_drawnDeed_9 (by decide) ?_
  refine g_icmp_ne (tgt := 15) dX8_drawnDeed_10 (by decide) (fun c4 => ?_) (fun c4 => ?_)
  · refine g_iconst (v := (-1)) dX8_drawnDeed_13 (by decide) ?_
    exact g_iret rfl dX8_drawnDeed_14
  · refine g_iload_n 0 dX8_drawnDeed_15 rfl ?_
    refine g_iconst (v := 5) dX8_drawnDeed_16 (by decide) ?_
    refine g_icmp_ne (tgt := 32) dX8_drawnDeed_17 (by decide) (fun c5 => ?_) (fun c5 => ?_)
    · refine g_sipush (v := 200) dX8_drawnDeed_20 (by decide) ?_
      refine g_aload_n 1 dX8_drawnDeed_23 rfl ?_
      refine g_callVi (J := I_X8_draw) (t := 9) (As := []) (rest := [.int 200]) mjv_X8_draw ml_RX8_90 ⟨rfl, by decide, by decide⟩ (by decide) rfl rfl (Nat.le_of_ble_eq_true rfl) dX8_drawnDeed_24 (T_X8_draw F a0 h2) (fun v6 h7 => ?_)
      refine g_bipush (v := 10) dX8_drawnDeed_27 (by decide) ?_
      refine g_irem (by decide) dX8_drawnDeed_29 ?_
      refine g_iadd dX8_drawnDeed_30 ?_
      exact g_iret rfl dX8_drawnDeed_31
    · refine g_aload_n 1 dX8_drawnDeed_32 rfl ?_
      refine g_callVi (J := I_X8_draw) (t := 9) (As := []) (rest := []) mjv_X8_draw ml_RX8_90 ⟨rfl, by decide, by decide⟩ (by decide) rfl rfl (Nat.le_of_ble_eq_true rfl) dX8_drawnDeed_33 (T_X8_draw F a0 h2) (fun v8 h9 => ?_)
      refine g_iconst (v := 2) dX8_drawnDeed_36 (by decide) ?_
      refine g_irem (by decide) dX8_drawnDeed_37 ?_
      refine G_lti (fun x10 => ?_)
      refine g_istore_n (lv' := [(2, .int x10), (1, .int x3), (0, .ref a0)]) dX8_drawnDeed_38 (by decide) rfl ?_
      refine g_aload_n 2 dX8_drawnDeed_39 rfl ?_
      refine g_callVi (J := I_X8_draw) (t := 9) (As := []) (rest := []) mjv_X8_draw ml_RX8_90 ⟨rfl, by decide, by decide⟩ (by decide) rfl rfl (Nat.le_of_ble_eq_true rfl) dX8_drawnDeed_40 (T_X8_draw F a0 h9) (fun v11 h12 => ?_)
      refine g_iconst (v := 4) dX8_drawnDeed_43 (by decide) ?_
      refine g_irem (by decide) dX8_drawnDeed_44 ?_
      refine G_lti (fun x13 => ?_)
      refine g_istore_n (lv' := [(3, .int x13), (2, .int x10), (1, .int x3), (0, .ref a0)]) dX8_drawnDeed_45 (by decide) rfl ?_
      refine g_iload_n 2 dX8_drawnDeed_46 rfl ?_
      refine g_iconst (v := 3) dX8_drawnDeed_47 (by decide) ?_
      refine g_icmp_ne (tgt := 56) dX8_drawnDeed_48 (by decide) (fun c14 => ?_) (fun c14 => ?_)
      · refine g_bipush (v := 100) dX8_drawnDeed_51 (by decide) ?_
        refine g_goto (tgt := 57) dX8_drawnDeed_53 (by decide) ?_
        refine G_lv [1, 0] rfl ?_
        exact T_X8_drawnDeed_57 F x10 x13 100 h12
      · refine g_iconst (v := 0) dX8_drawnDeed_56 (by decide) ?_
        refine G_lv [1, 0] rfl ?_
        exact T_X8_drawnDeed_57 F x10 x13 0 h12
set_option maxRecDepth 100000 in
noncomputable def f_X8_drawnDeeds_33 (F : Nat) (K11 : Nat → Nat → Int32 → Int32 → Int32 → Hp → Option (Int32 × Hp)) (l0 : Nat) (l1 : Nat) (l3 : Int32) (l4 : Int32) (l5 : Int32) (h : Hp) : Option (Int32 × Hp) :=
  K11 l0 l1 l3 l4 (l5 + 1) h
set_option maxRecDepth 100000 in
set_option maxHeartbeats 4000000 in
theorem T_X8_drawnDeeds_33 (F : Nat) {K11 : Nat → Nat → Int32 → Int32 → Int32 → Hp → Option (Int32 × Hp)} (hK11 : ∀ (l0 : Nat) (l1 : Nat) (l3 : Int32) (l4 : Int32) (l5 : Int32) (h : Hp), G rvI I_X8_drawnDeeds 6 11 [(0, .ref l0), (1, .ref l1), (3, .int l3), (4, .int l4), (5, .int l5)] [] h (K11 l0 l1 l3 l4 l5 h)) (l0 : Nat) (l1 : Nat) (l3 : Int32) (l4 : Int32) (l5 : Int32) (h : Hp) : G rvI I_X8_drawnDeeds 6 33 [(0, .ref l0), (1, .ref l1), (3, .int l3), (4, .int l4), (5, .int l5)] [] h (f_X8_drawnDeeds_33 F K11 l0 l1 l3 l4 l5 h) := by
  delta f_X8_drawnDeeds_33
  refine g_iinc (v' := l5 + 1) (lv' := [(5, .int (l5 + 1)), (0, .ref l0), (1, .ref l1), (3, .int l3), (4, .int l4)]) 4 dX8_drawnDeeds_33 rfl rfl (by decide) rfl ?_
  refine g_goto (tgt := 11) dX8_drawnDeeds_36 (by decide) ?_
  refine G_lv [1, 2, 3, 4, 0] rfl ?_
  exact hK11 l0 l1 l3 l4 (l5 + 1) h
set_option maxRecDepth 100000 in
noncomputable def f_X8_drawnDeeds_11_b (F : Nat) (K11 : Nat → Nat → Int32 → Int32 → Int32 → Hp → Option (Int32 × Hp)) (l0 : Nat) (l1 : Nat) (l3 : Int32) (l4 : Int32) (l5 : Int32) (h : Hp) : Option (Int32 × Hp) :=
  if l3 ≤ l5 then (some (l4, h)) else (cV 9 h l0 (f_X8_drawnDeed F l0 h) fun v3 h4 => cV 9 h4 l0 (f_X8_deed F l0 l1 (v3.toInt64) h4) fun v5 h6 => if v5 = 0 then (f_X8_drawnDeeds_33 F K11 l0 l1 l3 (l4 + 1) l5 h6) else (f_X8_drawnDeeds_33 F K11 l0 l1 l3 l4 l5 h6))
set_option maxRecDepth 100000 in
set_option maxHeartbeats 4000000 in
theorem T_X8_drawnDeeds_11_b (F : Nat) {K11 : Nat → Nat → Int32 → Int32 → Int32 → Hp → Option (Int32 × Hp)} (hK11 : ∀ (l0 : Nat) (l1 : Nat) (l3 : Int32) (l4 : Int32) (l5 : Int32) (h : Hp), G rvI I_X8_drawnDeeds 6 11 [(0, .ref l0), (1, .ref l1), (3, .int l3), (4, .int l4), (5, .int l5)] [] h (K11 l0 l1 l3 l4 l5 h)) (l0 : Nat) (l1 : Nat) (l3 : Int32) (l4 : Int32) (l5 : Int32) (h : Hp) : G rvI I_X8_drawnDeeds 6 11 [(0, .ref l0), (1, .ref l1), (3, .int l3), (4, .int l4), (5, .int l5)] [] h (f_X8_drawnDeeds_11_b F K11 l0 l1 l3 l4 l5 h) := by
  delta f_X8_drawnDeeds_11_b
  refine g_iload 4 dX8_drawnDeeds_11 rfl ?_
  refine g_iload_n 2 dX8_drawnDeeds_13 rfl ?_
  refine g_icmp_ge (tgt := 39) dX8_drawnDeeds_14 (by decide) (fun c2 => ?_) (fun c2 => ?_)
  · refine g_iload 3 dX8_drawnDeeds_39 rfl ?_
    exact g_iret rfl dX8_drawnDeeds_41
  · refine g_aload_n 0 dX8_drawnDeeds_17 rfl ?_
    refine g_aload_n 1 dX8_drawnDeeds_18 rfl ?_
    refine g_aload_n 0 dX8_drawnDeeds_19 rfl ?_
    refine g_callVi (J := I_X8_drawnDeed) (t := 9) (As := []) (rest := [.ref l1, .ref l0]) mjv_X8_drawnDeed ml_RX8_86 ⟨rfl, by decide, by decide⟩ (by decide) rfl rfl (Nat.le_of_ble_eq_true rfl) dX8_drawnDeeds_20 (T_X8_drawnDeed F l0 h) (fun v3 h4 => ?_)
    refine g_i2l dX8_drawnDeeds_23 ?_
    refine g_callVi (J := I_X8_deed) (t := 9) (As := [.ref l1, .long (v3.toInt64)]) (rest := []) mjv_X8_deed ml_RX8_73 ⟨rfl, by decide, by decide⟩ (by decide) rfl rfl (Nat.le_of_ble_eq_true rfl) dX8_drawnDeeds_24 (T_X8_deed F l0 l1 (v3.toInt64) h4) (fun v5 h6 => ?_)
    refine g_if_ne (tgt := 33) dX8_drawnDeeds_27 (by decide) (fun c7 => ?_) (fun c7 => ?_)
    · refine g_iinc (v' := l4 + 1) (lv' := [(4, .int (l4 + 1)), (0, .ref l0), (1, .ref l1), (3, .int l3), (5, .int l5)]) 3 dX8_drawnDeeds_30 rfl rfl (by decide) rfl ?_
      refine G_lv [1, 2, 3, 0, 4] rfl ?_
      exact T_X8_drawnDeeds_33 F hK11 l0 l1 l3 (l4 + 1) l5 h6
    · refine G_lv [0, 1, 2, 3, 4] rfl ?_
      exact T_X8_drawnDeeds_33 F hK11 l0 l1 l3 l4 l5 h6
set_option maxRecDepth 100000 in
noncomputable def f_X8_drawnDeeds_11 (F : Nat) : Nat → Nat → Nat → Int32 → Int32 → Int32 → Hp → Option (Int32 × Hp)
  | 0, _, _, _, _, _, _ => none
  | n + 1, l0, l1, l3, l4, l5, h => f_X8_drawnDeeds_11_b F (f_X8_drawnDeeds_11 F n) l0 l1 l3 l4 l5 h
set_option maxRecDepth 100000 in
set_option maxHeartbeats 4000000 in
theorem T_X8_drawnDeeds_11 (F : Nat) : ∀ (n : Nat) (l0 : Nat) (l1 : Nat) (l3 : Int32) (l4 : Int32) (l5 : Int32) (h : Hp), G rvI I_X8_drawnDeeds 6 11 [(0, .ref l0), (1, .ref l1), (3, .int l3), (4, .int l4), (5, .int l5)] [] h (f_X8_drawnDeeds_11 F n l0 l1 l3 l4 l5 h) := by
  intro n
  induction n with
  | zero => intros; exact G_none
  | succ n ih => intro l0 l1 l3 l4 l5 h; exact T_X8_drawnDeeds_11_b F ih l0 l1 l3 l4 l5 h
set_option maxRecDepth 100000 in
noncomputable def f_X8_drawnDeeds (F : Nat) (a0 : Nat) (a1 : Nat) (a2 : Int32) (a3 : Int32) (h : Hp) : Option (Int32 × Hp) :=
  pI 9 h a0 3 a2 fun h1 => f_X8_drawnDeeds_11 F F a0 a1 a3 0 0 h1
set_option maxRecDepth 100000 in
set_option maxHeartbeats 4000000 in
theorem T_X8_drawnDeeds (F : Nat) (a0 : Nat) (a1 : Nat) (a2 : Int32) (a3 : Int32) (h : Hp) : GM rvI I_X8_drawnDeeds 6 [.ref a0, .ref a1, .int a2, .int a3] h (f_X8_drawnDeeds F a0 a1 a2 a3 h) := by
  delta f_X8_drawnDeeds
  refine GM_of (lv := [(0, .ref a0), (1, .ref a1), (2, .int a2), (3, .int a3)]) (by decide +kernel) (Nat.le_of_ble_eq_true rfl) rfl ?_
  refine g_aload_n 0 dX8_drawnDeeds_0 rfl ?_
  refine g_iload_n 2 dX8_drawnDeeds_1 rfl ?_
  refine g_putI fl_RX8_83 (Or.inl rfl) dX8_drawnDeeds_2 (fun h1 => ?_)
  refine g_iconst (v := 0) dX8_drawnDeeds_5 (by decide) ?_
  refine g_istore (lv' := [(4, .int 0), (0, .ref a0), (1, .ref a1), (2, .int a2), (3, .int a3)]) dX8_drawnDeeds_6 (by decide) rfl ?_
  refine g_iconst (v := 0) dX8_drawnDeeds_8 (by decide) ?_
  refine g_istore (lv' := [(5, .int 0), (4, .int 0), (0, .ref a0), (1, .ref a1), (2, .int a2), (3, .int a3)]) dX8_drawnDeeds_9 (by decide) rfl ?_
  refine G_lv [2, 3, 5, 1, 0] rfl ?_
  exact T_X8_drawnDeeds_11 F F a0 a1 a3 0 0 h1
set_option maxRecDepth 100000 in
noncomputable def f_X11_year (F : Nat) (a0 : Nat) (a1 : Int32) (a2 : Int32) (h : Hp) : Option (Int32 × Hp) :=
  if a2 < 1 then (some ((-3), h)) else (if a2 ≤ 40 then (gR 12 h a0 6 fun v3 => gR 12 h a0 5 fun v4 => cV 9 h v3 (f_X8_copy F v3 v4 h) fun v5 h6 => gR 12 h6 a0 6 fun v7 => gR 12 h6 a0 3 fun v8 => cV 9 h6 v7 (f_X8_drawnDeeds F v7 v8 a1 a2 h6) fun v9 h10 => if v9 ≤ 0 then (some (v9, h10)) else (cV 12 h10 a0 (f_X11_takeTrial F a0 h10) fun v12 h13 => some (v9, h13))) else (some ((-3), h)))
set_option maxRecDepth 100000 in
set_option maxHeartbeats 4000000 in
theorem T_X11_year (F : Nat) (a0 : Nat) (a1 : Int32) (a2 : Int32) (h : Hp) : GM rvI I_X11_year 7 [.ref a0, .int a1, .int a2] h (f_X11_year F a0 a1 a2 h) := by
  delta f_X11_year
  refine GM_of (lv := [(0, .ref a0), (1, .int a1), (2, .int a2)]) (by decide +kernel) (Nat.le_of_ble_eq_true rfl) rfl ?_
  refine g_iload_n 2 dX11_year_0 rfl ?_
  refine g_iconst (v := 1) dX11_year_1 (by decide) ?_
  refine g_icmp_lt (tgt := 11) dX11_year_2 (by decide) (fun c1 => ?_) (fun c1 => ?_)
  · refine g_bipush (v := (-3)) dX11_year_11 (by decide) ?_
    exact g_iret rfl dX11_year_13
  · refine g_iload_n 2 dX11_year_5 rfl ?_
    refine g_bipush (v := 40) dX11_year_6 (by decide) ?_
    refine g_icmp_le (tgt := 14) dX11_year_8 (by decide) (fun c2 => ?_) (fun c2 => ?_)
    · refine g_aload_n 0 dX11_year_14 rfl ?_
      refine g_getR fl_RX11_40 rfl dX11_year_15 (fun v3 => ?_)
      refine g_aload_n 0 dX11_year_18 rfl ?_
      refine g_getR fl_RX11_36 rfl dX11_year_19 (fun v4 => ?_)
      refine g_callVv (J := I_X8_copy) (t := 9) (As := [.ref v4]) (rest := []) mjv_X8_copy ml_RX11_187 ⟨rfl, by decide, by decide⟩ (by decide) rfl rfl (Nat.le_of_ble_eq_true rfl) dX11_year_22 (T_X8_copy F v3 v4 h) (fun v5 h6 => ?_)
      refine g_aload_n 0 dX11_year_25 rfl ?_
      refine g_getR fl_RX11_40 rfl dX11_year_26 (fun v7 => ?_)
      refine g_aload_n 0 dX11_year_29 rfl ?_
      refine g_getR fl_RX11_20 rfl dX11_year_30 (fun v8 => ?_)
      refine g_iload_n 1 dX11_year_33 rfl ?_
      refine g_iload_n 2 dX11_year_34 rfl ?_
      refine g_callVi (J := I_X8_drawnDeeds) (t := 9) (As := [.ref v8, .int a1, .int a2]) (rest := []) mjv_X8_drawnDeeds ml_RX11_234 ⟨rfl, by decide, by decide⟩ (by decide) rfl rfl (Nat.le_of_ble_eq_true rfl) dX11_year_35 (T_X8_drawnDeeds F v7 v8 a1 a2 h6) (fun v9 h10 => ?_)
      refine g_istore_n (lv' := [(3, .int v9), (0, .ref a0), (1, .int a1), (2, .int a2)]) dX11_year_38 (by decide) rfl ?_
      refine g_iload_n 0 dX11_year_39 rfl ?_
      refine g_if_le (tgt := 47) dX11_year_40 (by decide) (fun c11 => ?_) (fun c11 => ?_)
      · refine g_iload_n 0 dX11_year_47 rfl ?_
        exact g_iret rfl dX11_year_48
      · refine g_aload_n 1 dX11_year_43 rfl ?_
        refine g_callVv (J := I_X11_takeTrial) (t := 12) (As := []) (rest := []) mjv_X11_takeTrial ml_RX11_195 ⟨rfl, by decide, by decide⟩ (by decide) rfl rfl (Nat.le_of_ble_eq_true rfl) dX11_year_44 (T_X11_takeTrial F a0 h10) (fun v12 h13 => ?_)
        refine g_iload_n 0 dX11_year_47 rfl ?_
        exact g_iret rfl dX11_year_48
    · refine g_bipush (v := (-3)) dX11_year_11 (by decide) ?_
      exact g_iret rfl dX11_year_13
set_option maxRecDepth 100000 in
noncomputable def f_X12_within (F : Nat) (a0 : Int64) (a1 : Int64) (a2 : Int64) (h : Hp) : Option (Int32 × Hp) :=
  if ((a0 : Int64) < a1 : Prop) then (some (0, h)) else (if (a2 < (a0 : Int64) : Prop) then (some (0, h)) else (some (1, h)))
set_option maxRecDepth 100000 in
set_option maxHeartbeats 4000000 in
theorem T_X12_within (F : Nat) (a0 : Int64) (a1 : Int64) (a2 : Int64) (h : Hp) : GM rvI I_X12_within 1 [.long a0, .long a1, .long a2] h (f_X12_within F a0 a1 a2 h) := by
  delta f_X12_within
  refine GM_of (lv := [(0, .long a0), (2, .long a1), (4, .long a2)]) (by decide +kernel) (Nat.le_of_ble_eq_true rfl) rfl ?_
  refine g_lload_n 0 dX12_within_0 rfl ?_
  refine g_lload_n 1 dX12_within_1 rfl ?_
  refine g_lc_lt (x := a0) (y := a1) (tgt := 17) dX12_within_2 dX12_within_3 (by decide) (fun c1 => ?_) (fun c1 => ?_)
  · refine g_iconst (v := 0) dX12_within_17 (by decide) ?_
    exact g_zret (ty := .boolean) rfl rfl dX12_within_18
  · refine g_lload_n 0 dX12_within_6 rfl ?_
    refine g_lload 2 dX12_within_7 rfl ?_
    refine g_lc_gt (x := a0) (y := a2) (tgt := 17) dX12_within_9 dX12_within_10 (by decide) (fun c2 => ?_) (fun c2 => ?_)
    · refine g_iconst (v := 0) dX12_within_17 (by decide) ?_
      exact g_zret (ty := .boolean) rfl rfl dX12_within_18
    · refine g_iconst (v := 1) dX12_within_13 (by decide) ?_
      refine g_goto (tgt := 18) dX12_within_14 (by decide) ?_
      exact g_zret (ty := .boolean) rfl rfl dX12_within_18
set_option maxRecDepth 100000 in
noncomputable def f_X12_isFact (F : Nat) (a0 : Nat) (a1 : Int64) (h : Hp) : Option (Int32 × Hp) :=
  gR 13 h a0 1 fun v1 => aI 20 h v1 1 fun v2 => bd (f_X12_within F a1 0 (((v2 - 1) : Int32).toInt64) h) fun v3 h4 => rz v3 h4
set_option maxRecDepth 100000 in
set_option maxHeartbeats 4000000 in
theorem T_X12_isFact (F : Nat) (a0 : Nat) (a1 : Int64) (h : Hp) : GM rvI I_X12_isFact 2 [.ref a0, .long a1] h (f_X12_isFact F a0 a1 h) := by
  delta f_X12_isFact
  refine GM_of (lv := [(0, .ref a0), (1, .long a1)]) (by decide +kernel) (Nat.le_of_ble_eq_true rfl) rfl ?_
  refine g_lload_n 1 dX12_isFact_0 rfl ?_
  refine g_lconst (v := 0) dX12_isFact_1 (by decide) ?_
  refine g_aload_n 0 dX12_isFact_2 rfl ?_
  refine g_getR fl_RX12_13 rfl dX12_isFact_3 (fun v1 => ?_)
  refine g_iconst (v := 1) dX12_isFact_6 (by decide) ?_
  refine g_iald dX12_isFact_7 (fun v2 => ?_)
  refine g_iconst (v := 1) dX12_isFact_8 (by decide) ?_
  refine g_isub dX12_isFact_9 ?_
  refine g_i2l dX12_isFact_10 ?_
  refine g_callSi (J := I_X12_within) (As := [.long a1, .long 0, .long (((v2 - 1) : Int32).toInt64)]) (rest := []) mjs_X12_within ml_RX12_138 (by decide) rfl rfl (Nat.le_of_ble_eq_true rfl) dX12_isFact_11 (T_X12_within F a1 0 (((v2 - 1) : Int32).toInt64) h) (fun v3 h4 => ?_)
  exact g_zretG rfl dX12_isFact_14
set_option maxRecDepth 100000 in
noncomputable def f_X12_isTwin (F : Nat) (a0 : Int64) (h : Hp) : Option (Int32 × Hp) :=
  bd (f_X12_within F a0 0 1 h) fun v1 h2 => rz v1 h2
set_option maxRecDepth 100000 in
set_option maxHeartbeats 4000000 in
theorem T_X12_isTwin (F : Nat) (a0 : Int64) (h : Hp) : GM rvI I_X12_isTwin 2 [.long a0] h (f_X12_isTwin F a0 h) := by
  delta f_X12_isTwin
  refine GM_of (lv := [(0, .long a0)]) (by decide +kernel) (Nat.le_of_ble_eq_true rfl) rfl ?_
  refine g_lload_n 0 dX12_isTwin_0 rfl ?_
  refine g_lconst (v := 0) dX12_isTwin_1 (by decide) ?_
  refine g_lconst (v := 1) dX12_isTwin_2 (by decide) ?_
  refine g_callSi (J := I_X12_within) (As := [.long a0, .long 0, .long 1]) (rest := []) mjs_X12_within ml_RX12_138 (by decide) rfl rfl (Nat.le_of_ble_eq_true rfl) dX12_isTwin_3 (T_X12_within F a0 0 1 h) (fun v1 h2 => ?_)
  exact g_zretG rfl dX12_isTwin_6
set_option maxRecDepth 100000 in
noncomputable def f_X12_age (F : Nat) (a0 : Nat) (a1 : Int32) (a2 : Int32) (h : Hp) : Option (Int32 × Hp) :=
  pI 13 h a0 0 0 fun h1 => bd (f_X12_isTwin F (a1.toInt64) h1) fun v2 h3 => if v2 = 0 then (some ((-2), h3)) else (cV 13 h3 a0 (f_X12_isFact F a0 (a2.toInt64) h3) fun v5 h6 => if v5 = 0 then (some ((-2), h6)) else (gR 13 h6 a0 1 fun v8 => aI 20 h6 v8 ((43 + (4 * a1)) + a2) fun v9 => some (v9, h6)))
set_option maxRecDepth 100000 in
set_option maxHeartbeats 4000000 in
theorem T_X12_age (F : Nat) (a0 : Nat) (a1 : Int32) (a2 : Int32) (h : Hp) : GM rvI I_X12_age 3 [.ref a0, .int a1, .int a2] h (f_X12_age F a0 a1 a2 h) := by
  delta f_X12_age
  refine GM_of (lv := [(0, .ref a0), (1, .int a1), (2, .int a2)]) (by decide +kernel) (Nat.le_of_ble_eq_true rfl) rfl ?_
  refine g_aload_n 0 dX12_age_0 rfl ?_
  refine g_iconst (v := 0) dX12_age_1 (by decide) ?_
  refine g_putI fl_RX12_1 (Or.inl rfl) dX12_age_2 (fun h1 => ?_)
  refine g_iload_n 1 dX12_age_5 rfl ?_
  refine g_i2l dX12_age_6 ?_
  refine g_callSi (J := I_X12_isTwin) (As := [.long (a1.toInt64)]) (rest := []) mjs_X12_isTwin ml_RX12_250 (by decide) rfl rfl (Nat.le_of_ble_eq_true rfl) dX12_age_7 (T_X12_isTwin F (a1.toInt64) h1) (fun v2 h3 => ?_)
  refine g_if_eq (tgt := 38) dX12_age_10 (by decide) (fun c4 => ?_) (fun c4 => ?_)
  · refine g_bipush (v := (-2)) dX12_age_38 (by decide) ?_
    exact g_iret rfl dX12_age_40
  · refine g_aload_n 0 dX12_age_13 rfl ?_
    refine g_iload_n 2 dX12_age_14 rfl ?_
    refine g_i2l dX12_age_15 ?_
    refine g_callVi (J := I_X12_isFact) (t := 13) (As := [.long (a2.toInt64)]) (rest := []) mjv_X12_isFact ml_RX12_254 ⟨rfl, by decide, by decide⟩ (by decide) rfl rfl (Nat.le_of_ble_eq_true rfl) dX12_age_16 (T_X12_isFact F a0 (a2.toInt64) h3) (fun v5 h6 => ?_)
    refine g_if_eq (tgt := 38) dX12_age_19 (by decide) (fun c7 => ?_) (fun c7 => ?_)
    · refine g_bipush (v := (-2)) dX12_age_38 (by decide) ?_
      exact g_iret rfl dX12_age_40
    · refine g_aload_n 0 dX12_age_22 rfl ?_
      refine g_getR fl_RX12_13 rfl dX12_age_23 (fun v8 => ?_)
      refine g_bipush (v := 43) dX12_age_26 (by decide) ?_
      refine g_iconst (v := 4) dX12_age_28 (by decide) ?_
      refine g_iload_n 1 dX12_age_29 rfl ?_
      refine g_imul dX12_age_30 ?_
      refine g_iadd dX12_age_31 ?_
      refine g_iload_n 2 dX12_age_32 rfl ?_
      refine g_iadd dX12_age_33 ?_
      refine g_iald dX12_age_34 (fun v9 => ?_)
      refine g_goto (tgt := 40) dX12_age_35 (by decide) ?_
      exact g_iret rfl dX12_age_40
set_option maxRecDepth 100000 in
noncomputable def f_X12_isDoing (F : Nat) (a0 : Nat) (a1 : Int32) (h : Hp) : Option (Int32 × Hp) :=
  gR 13 h a0 1 fun v1 => aI 20 h v1 2 fun v2 => bd (f_X12_within F (a1.toInt64) 0 (((v2 - 1) : Int32).toInt64) h) fun v3 h4 => rz v3 h4
set_option maxRecDepth 100000 in
set_option maxHeartbeats 4000000 in
theorem T_X12_isDoing (F : Nat) (a0 : Nat) (a1 : Int32) (h : Hp) : GM rvI I_X12_isDoing 2 [.ref a0, .int a1] h (f_X12_isDoing F a0 a1 h) := by
  delta f_X12_isDoing
  refine GM_of (lv := [(0, .ref a0), (1, .int a1)]) (by decide +kernel) (Nat.le_of_ble_eq_true rfl) rfl ?_
  refine g_iload_n 1 dX12_isDoing_0 rfl ?_
  refine g_i2l dX12_isDoing_1 ?_
  refine g_lconst (v := 0) dX12_isDoing_2 (by decide) ?_
  refine g_aload_n 0 dX12_isDoing_3 rfl ?_
  refine g_getR fl_RX12_13 rfl dX12_isDoing_4 (fun v1 => ?_)
  refine g_iconst (v := 2) dX12_isDoing_7 (by decide) ?_
  refine g_iald dX12_isDoing_8 (fun v2 => ?_)
  refine g_iconst (v := 1) dX12_isDoing_9 (by decide) ?_
  refine g_isub dX12_isDoing_10 ?_
  refine g_i2l dX12_isDoing_11 ?_
  refine g_callSi (J := I_X12_within) (As := [.long (a1.toInt64), .long 0, .long (((v2 - 1) : Int32).toInt64)]) (rest := []) mjs_X12_within ml_RX12_138 (by decide) rfl rfl (Nat.le_of_ble_eq_true rfl) dX12_isDoing_12 (T_X12_within F (a1.toInt64) 0 (((v2 - 1) : Int32).toInt64) h) (fun v3 h4 => ?_)
  exact g_zretG rfl dX12_isDoing_15
set_option maxRecDepth 100000 in
noncomputable def f_X12_ageIn (F : Nat) (a0 : Int32) (a1 : Int32) (a2 : Int32) (h : Hp) : Option (Int32 × Hp) :=
  some (((a0 >>> ((2 * ((4 * a1) + a2)) &&& 31)) &&& 3), h)
set_option maxRecDepth 100000 in
set_option maxHeartbeats 4000000 in
theorem T_X12_ageIn (F : Nat) (a0 : Int32) (a1 : Int32) (a2 : Int32) (h : Hp) : GM rvI I_X12_ageIn 1 [.int a0, .int a1, .int a2] h (f_X12_ageIn F a0 a1 a2 h) := by
  delta f_X12_ageIn
  refine GM_of (lv := [(0, .int a0), (1, .int a1), (2, .int a2)]) (by decide +kernel) (Nat.le_of_ble_eq_true rfl) rfl ?_
  refine g_iload_n 0 dX12_ageIn_0 rfl ?_
  refine g_iconst (v := 2) dX12_ageIn_1 (by decide) ?_
  refine g_iconst (v := 4) dX12_ageIn_2 (by decide) ?_
  refine g_iload_n 1 dX12_ageIn_3 rfl ?_
  refine g_imul dX12_ageIn_4 ?_
  refine g_iload_n 2 dX12_ageIn_5 rfl ?_
  refine g_iadd dX12_ageIn_6 ?_
  refine g_imul dX12_ageIn_7 ?_
  refine g_ishr dX12_ageIn_8 ?_
  refine g_iconst (v := 3) dX12_ageIn_9 (by decide) ?_
  refine g_iand dX12_ageIn_10 ?_
  exact g_iret rfl dX12_ageIn_11
set_option maxRecDepth 100000 in
noncomputable def f_X12_isIn (F : Nat) (a0 : Int64) (a1 : Int32) (h : Hp) : Option (Int32 × Hp) :=
  if ((((a0 >>> ((a1 : Int32).toInt64 &&& 63)) &&& 1) : Int64) = 1 : Prop) then (some (1, h)) else (some (0, h))
set_option maxRecDepth 100000 in
set_option maxHeartbeats 4000000 in
theorem T_X12_isIn (F : Nat) (a0 : Int64) (a1 : Int32) (h : Hp) : GM rvI I_X12_isIn 1 [.long a0, .int a1] h (f_X12_isIn F a0 a1 h) := by
  delta f_X12_isIn
  refine GM_of (lv := [(0, .long a0), (2, .int a1)]) (by decide +kernel) (Nat.le_of_ble_eq_true rfl) rfl ?_
  refine g_lload_n 0 dX12_isIn_0 rfl ?_
  refine g_iload_n 1 dX12_isIn_1 rfl ?_
  refine g_lshr dX12_isIn_2 ?_
  refine g_lconst (v := 1) dX12_isIn_3 (by decide) ?_
  refine g_land dX12_isIn_4 ?_
  refine g_lconst (v := 1) dX12_isIn_5 (by decide) ?_
  refine g_lc_ne (x := ((a0 >>> ((a1 : Int32).toInt64 &&& 63)) &&& 1)) (y := 1) (tgt := 14) dX12_isIn_6 dX12_isIn_7 (by decide) (fun c1 => ?_) (fun c1 => ?_)
  · refine g_iconst (v := 1) dX12_isIn_10 (by decide) ?_
    refine g_goto (tgt := 15) dX12_isIn_11 (by decide) ?_
    exact g_zret (ty := .boolean) rfl rfl dX12_isIn_15
  · refine g_iconst (v := 0) dX12_isIn_14 (by decide) ?_
    exact g_zret (ty := .boolean) rfl rfl dX12_isIn_15
set_option maxRecDepth 100000 in
noncomputable def f_X12_doesIn_68 (F : Nat) (K3 : Nat → Int32 → Int32 → Int32 → Int32 → Hp → Option (Int32 × Hp)) (l0 : Nat) (l1 : Int32) (l2 : Int32) (l3 : Int32) (l4 : Int32) (h : Hp) : Option (Int32 × Hp) :=
  K3 l0 l1 l2 l3 (l4 + 1) h
set_option maxRecDepth 100000 in
set_option maxHeartbeats 4000000 in
theorem T_X12_doesIn_68 (F : Nat) {K3 : Nat → Int32 → Int32 → Int32 → Int32 → Hp → Option (Int32 × Hp)} (hK3 : ∀ (l0 : Nat) (l1 : Int32) (l2 : Int32) (l3 : Int32) (l4 : Int32) (h : Hp), G rvI I_X12_doesIn 2 3 [(0, .ref l0), (1, .int l1), (2, .int l2), (3, .int l3), (4, .int l4)] [] h (K3 l0 l1 l2 l3 l4 h)) (l0 : Nat) (l1 : Int32) (l2 : Int32) (l3 : Int32) (l4 : Int32) (h : Hp) : G rvI I_X12_doesIn 2 68 [(0, .ref l0), (1, .int l1), (2, .int l2), (3, .int l3), (4, .int l4)] [] h (f_X12_doesIn_68 F K3 l0 l1 l2 l3 l4 h) := by
  delta f_X12_doesIn_68
  refine g_iinc (v' := l4 + 1) (lv' := [(4, .int (l4 + 1)), (0, .ref l0), (1, .int l1), (2, .int l2), (3, .int l3)]) 4 dX12_doesIn_68 rfl rfl (by decide) rfl ?_
  refine g_goto (tgt := 3) dX12_doesIn_71 (by decide) ?_
  refine G_lv [1, 2, 3, 4, 0] rfl ?_
  exact hK3 l0 l1 l2 l3 (l4 + 1) h
set_option maxRecDepth 100000 in
noncomputable def f_X12_doesIn_3_b (F : Nat) (K3 : Nat → Int32 → Int32 → Int32 → Int32 → Hp → Option (Int32 × Hp)) (l0 : Nat) (l1 : Int32) (l2 : Int32) (l3 : Int32) (l4 : Int32) (h : Hp) : Option (Int32 × Hp) :=
  gR 13 h l0 1 fun v1 => aI 20 h v1 1 fun v2 => if v2 ≤ l4 then (some (1, h)) else (bd (f_X12_ageIn F l1 l2 l4 h) fun v4 h5 => gR 13 h5 l0 1 fun v6 => aI 20 h5 v6 ((13 + (4 * l3)) + l4) fun v7 => if v4 < v7 then (some (0, h5)) else (gR 13 h5 l0 1 fun v9 => aI 20 h5 v9 (37 + l3) fun v10 => bd (f_X12_isIn F (v10.toInt64) l4 h5) fun v11 h12 => if v11 = 0 then (f_X12_doesIn_68 F K3 l0 l1 l2 l3 l4 h12) else (bd (f_X12_ageIn F l1 l2 l4 h12) fun v14 h15 => if v14 ≤ 0 then (f_X12_doesIn_68 F K3 l0 l1 l2 l3 l4 h15) else (some (0, h15)))))
set_option maxRecDepth 100000 in
set_option maxHeartbeats 4000000 in
theorem T_X12_doesIn_3_b (F : Nat) {K3 : Nat → Int32 → Int32 → Int32 → Int32 → Hp → Option (Int32 × Hp)} (hK3 : ∀ (l0 : Nat) (l1 : Int32) (l2 : Int32) (l3 : Int32) (l4 : Int32) (h : Hp), G rvI I_X12_doesIn 2 3 [(0, .ref l0), (1, .int l1), (2, .int l2), (3, .int l3), (4, .int l4)] [] h (K3 l0 l1 l2 l3 l4 h)) (l0 : Nat) (l1 : Int32) (l2 : Int32) (l3 : Int32) (l4 : Int32) (h : Hp) : G rvI I_X12_doesIn 2 3 [(0, .ref l0), (1, .int l1), (2, .int l2), (3, .int l3), (4, .int l4)] [] h (f_X12_doesIn_3_b F K3 l0 l1 l2 l3 l4 h) := by
  delta f_X12_doesIn_3_b
  refine g_iload 4 dX12_doesIn_3 rfl ?_
  refine g_aload_n 0 dX12_doesIn_5 rfl ?_
  refine g_getR fl_RX12_13 rfl dX12_doesIn_6 (fun v1 => ?_)
  refine g_iconst (v := 1) dX12_doesIn_9 (by decide) ?_
  refine g_iald dX12_doesIn_10 (fun v2 => ?_)
  refine g_icmp_ge (tgt := 74) dX12_doesIn_11 (by decide) (fun c3 => ?_) (fun c3 => ?_)
  · refine g_iconst (v := 1) dX12_doesIn_74 (by decide) ?_
    exact g_zret (ty := .boolean) rfl rfl dX12_doesIn_75
  · refine g_iload_n 1 dX12_doesIn_14 rfl ?_
    refine g_iload_n 2 dX12_doesIn_15 rfl ?_
    refine g_iload 4 dX12_doesIn_16 rfl ?_
    refine g_callSi (J := I_X12_ageIn) (As := [.int l1, .int l2, .int l4]) (rest := []) mjs_X12_ageIn ml_RX12_214 (by decide) rfl rfl (Nat.le_of_ble_eq_true rfl) dX12_doesIn_18 (T_X12_ageIn F l1 l2 l4 h) (fun v4 h5 => ?_)
    refine g_aload_n 0 dX12_doesIn_21 rfl ?_
    refine g_getR fl_RX12_13 rfl dX12_doesIn_22 (fun v6 => ?_)
    refine g_bipush (v := 13) dX12_doesIn_25 (by decide) ?_
    refine g_iconst (v := 4) dX12_doesIn_27 (by decide) ?_
    refine g_iload_n 3 dX12_doesIn_28 rfl ?_
    refine g_imul dX12_doesIn_29 ?_
    refine g_iadd dX12_doesIn_30 ?_
    refine g_iload 4 dX12_doesIn_31 rfl ?_
    refine g_iadd dX12_doesIn_33 ?_
    refine g_iald dX12_doesIn_34 (fun v7 => ?_)
    refine g_icmp_lt (tgt := 66) dX12_doesIn_35 (by decide) (fun c8 => ?_) (fun c8 => ?_)
    · refine g_iconst (v := 0) dX12_doesIn_66 (by decide) ?_
      exact g_zret (ty := .boolean) rfl rfl dX12_doesIn_67
    · refine g_aload_n 0 dX12_doesIn_38 rfl ?_
      refine g_getR fl_RX12_13 rfl dX12_doesIn_39 (fun v9 => ?_)
      refine g_bipush (v := 37) dX12_doesIn_42 (by decide) ?_
      refine g_iload_n 3 dX12_doesIn_44 rfl ?_
      refine g_iadd dX12_doesIn_45 ?_
      refine g_iald dX12_doesIn_46 (fun v10 => ?_)
      refine g_i2l dX12_doesIn_47 ?_
      refine g_iload 4 dX12_doesIn_48 rfl ?_
      refine g_callSi (J := I_X12_isIn) (As := [.long (v10.toInt64), .int l4]) (rest := []) mjs_X12_isIn ml_RX12_236 (by decide) rfl rfl (Nat.le_of_ble_eq_true rfl) dX12_doesIn_50 (T_X12_isIn F (v10.toInt64) l4 h5) (fun v11 h12 => ?_)
      refine g_if_eq (tgt := 68) dX12_doesIn_53 (by decide) (fun c13 => ?_) (fun c13 => ?_)
      · refine G_lv [0, 1, 2, 3, 4] rfl ?_
        exact T_X12_doesIn_68 F hK3 l0 l1 l2 l3 l4 h12
      · refine g_iload_n 1 dX12_doesIn_56 rfl ?_
        refine g_iload_n 2 dX12_doesIn_57 rfl ?_
        refine g_iload 4 dX12_doesIn_58 rfl ?_
        refine g_callSi (J := I_X12_ageIn) (As := [.int l1, .int l2, .int l4]) (rest := []) mjs_X12_ageIn ml_RX12_214 (by decide) rfl rfl (Nat.le_of_ble_eq_true rfl) dX12_doesIn_60 (T_X12_ageIn F l1 l2 l4 h12) (fun v14 h15 => ?_)
        refine g_if_le (tgt := 68) dX12_doesIn_63 (by decide) (fun c16 => ?_) (fun c16 => ?_)
        · refine G_lv [0, 1, 2, 3, 4] rfl ?_
          exact T_X12_doesIn_68 F hK3 l0 l1 l2 l3 l4 h15
        · refine g_iconst (v := 0) dX12_doesIn_66 (by decide) ?_
          exact g_zret (ty := .boolean) rfl rfl dX12_doesIn_67
set_option maxRecDepth 100000 in
noncomputable def f_X12_doesIn_3 (F : Nat) : Nat → Nat → Int32 → Int32 → Int32 → Int32 → Hp → Option (Int32 × Hp)
  | 0, _, _, _, _, _, _ => none
  | n + 1, l0, l1, l2, l3, l4, h => f_X12_doesIn_3_b F (f_X12_doesIn_3 F n) l0 l1 l2 l3 l4 h
set_option maxRecDepth 100000 in
set_option maxHeartbeats 4000000 in
theorem T_X12_doesIn_3 (F : Nat) : ∀ (n : Nat) (l0 : Nat) (l1 : Int32) (l2 : Int32) (l3 : Int32) (l4 : Int32) (h : Hp), G rvI I_X12_doesIn 2 3 [(0, .ref l0), (1, .int l1), (2, .int l2), (3, .int l3), (4, .int l4)] [] h (f_X12_doesIn_3 F n l0 l1 l2 l3 l4 h) := by
  intro n
  induction n with
  | zero => intros; exact G_none
  | succ n ih => intro l0 l1 l2 l3 l4 h; exact T_X12_doesIn_3_b F ih l0 l1 l2 l3 l4 h
set_option maxRecDepth 100000 in
noncomputable def f_X12_doesIn (F : Nat) (a0 : Nat) (a1 : Int32) (a2 : Int32) (a3 : Int32) (h : Hp) : Option (Int32 × Hp) :=
  f_X12_doesIn_3 F F a0 a1 a2 a3 0 h
set_option maxRecDepth 100000 in
set_option maxHeartbeats 4000000 in
theorem T_X12_doesIn (F : Nat) (a0 : Nat) (a1 : Int32) (a2 : Int32) (a3 : Int32) (h : Hp) : GM rvI I_X12_doesIn 2 [.ref a0, .int a1, .int a2, .int a3] h (f_X12_doesIn F a0 a1 a2 a3 h) := by
  delta f_X12_doesIn
  refine GM_of (lv := [(0, .ref a0), (1, .int a1), (2, .int a2), (3, .int a3)]) (by decide +kernel) (Nat.le_of_ble_eq_true rfl) rfl ?_
  refine g_iconst (v := 0) dX12_doesIn_0 (by decide) ?_
  refine g_istore (lv' := [(4, .int 0), (0, .ref a0), (1, .int a1), (2, .int a2), (3, .int a3)]) dX12_doesIn_1 (by decide) rfl ?_
  refine G_lv [1, 2, 3, 4, 0] rfl ?_
  exact T_X12_doesIn_3 F F a0 a1 a2 a3 0 h
set_option maxRecDepth 100000 in
noncomputable def f_X12_doesAll_36 (F : Nat) (K5 : Nat → Int32 → Int32 → Int32 → Int32 → Hp → Option (Int32 × Hp)) (l0 : Nat) (l1 : Int32) (l2 : Int32) (l4 : Int32) (s0 : Int32) (s1 : Int32) (h : Hp) : Option (Int32 × Hp) :=
  lt (s1 ||| s0) fun x7 => K5 l0 l1 l2 x7 (l4 + 1) h
set_option maxRecDepth 100000 in
set_option maxHeartbeats 4000000 in
theorem T_X12_doesAll_36 (F : Nat) {K5 : Nat → Int32 → Int32 → Int32 → Int32 → Hp → Option (Int32 × Hp)} (hK5 : ∀ (l0 : Nat) (l1 : Int32) (l2 : Int32) (l3 : Int32) (l4 : Int32) (h : Hp), G rvI I_X12_doesAll 3 5 [(0, .ref l0), (1, .int l1), (2, .int l2), (3, .int l3), (4, .int l4)] [] h (K5 l0 l1 l2 l3 l4 h)) (l0 : Nat) (l1 : Int32) (l2 : Int32) (l4 : Int32) (s0 : Int32) (s1 : Int32) (h : Hp) : G rvI I_X12_doesAll 3 36 [(0, .ref l0), (1, .int l1), (2, .int l2), (4, .int l4)] [.int s0, .int s1] h (f_X12_doesAll_36 F K5 l0 l1 l2 l4 s0 s1 h) := by
  delta f_X12_doesAll_36
  refine g_ior dX12_doesAll_36 ?_
  refine G_lti (fun x7 => ?_)
  refine g_istore_n (lv' := [(3, .int x7), (0, .ref l0), (1, .int l1), (2, .int l2), (4, .int l4)]) dX12_doesAll_37 (by decide) rfl ?_
  refine g_iinc (v' := l4 + 1) (lv' := [(4, .int (l4 + 1)), (3, .int x7), (0, .ref l0), (1, .int l1), (2, .int l2)]) 4 dX12_doesAll_38 rfl rfl (by decide) rfl ?_
  refine g_goto (tgt := 5) dX12_doesAll_41 (by decide) ?_
  refine G_lv [2, 3, 4, 1, 0] rfl ?_
  exact hK5 l0 l1 l2 x7 (l4 + 1) h
set_option maxRecDepth 100000 in
noncomputable def f_X12_doesAll_5_b (F : Nat) (K5 : Nat → Int32 → Int32 → Int32 → Int32 → Hp → Option (Int32 × Hp)) (l0 : Nat) (l1 : Int32) (l2 : Int32) (l3 : Int32) (l4 : Int32) (h : Hp) : Option (Int32 × Hp) :=
  gR 13 h l0 1 fun v1 => aI 20 h v1 2 fun v2 => if v2 ≤ l4 then (some (l3, h)) else (cV 13 h l0 (f_X12_doesIn F l0 l1 l2 l4 h) fun v4 h5 => if v4 = 0 then (f_X12_doesAll_36 F K5 l0 l1 l2 l4 0 l3 h5) else (f_X12_doesAll_36 F K5 l0 l1 l2 l4 ((1 : Int32) <<< (l4 &&& 31)) l3 h5))
set_option maxRecDepth 100000 in
set_option maxHeartbeats 4000000 in
theorem T_X12_doesAll_5_b (F : Nat) {K5 : Nat → Int32 → Int32 → Int32 → Int32 → Hp → Option (Int32 × Hp)} (hK5 : ∀ (l0 : Nat) (l1 : Int32) (l2 : Int32) (l3 : Int32) (l4 : Int32) (h : Hp), G rvI I_X12_doesAll 3 5 [(0, .ref l0), (1, .int l1), (2, .int l2), (3, .int l3), (4, .int l4)] [] h (K5 l0 l1 l2 l3 l4 h)) (l0 : Nat) (l1 : Int32) (l2 : Int32) (l3 : Int32) (l4 : Int32) (h : Hp) : G rvI I_X12_doesAll 3 5 [(0, .ref l0), (1, .int l1), (2, .int l2), (3, .int l3), (4, .int l4)] [] h (f_X12_doesAll_5_b F K5 l0 l1 l2 l3 l4 h) := by
  delta f_X12_doesAll_5_b
  refine g_iload 4 dX12_doesAll_5 rfl ?_
  refine g_aload_n 0 dX12_doesAll_7 rfl ?_
  refine g_getR fl_RX12_13 rfl dX12_doesAll_8 (fun v1 => ?_)
  refine g_iconst (v := 2) dX12_doesAll_11 (by decide) ?_
  refine g_iald dX12_doesAll_12 (fun v2 => ?_)
  refine g_icmp_ge (tgt := 44) dX12_doesAll_13 (by decide) (fun c3 => ?_) (fun c3 => ?_)
  · refine g_iload_n 3 dX12_doesAll_44 rfl ?_
    exact g_iret rfl dX12_doesAll_45
  · refine g_iload_n 3 dX12_doesAll_16 rfl ?_
    refine g_aload_n 0 dX12_doesAll_17 rfl ?_
    refine g_iload_n 1 dX12_doesAll_18 rfl ?_
    refine g_iload_n 2 dX12_doesAll_19 rfl ?_
    refine g_iload 4 dX12_doesAll_20 rfl ?_
    refine g_callVi (J := I_X12_doesIn) (t := 13) (As := [.int l1, .int l2, .int l4]) (rest := [.int l3]) mjv_X12_doesIn ml_RX12_240 ⟨rfl, by decide, by decide⟩ (by decide) rfl rfl (Nat.le_of_ble_eq_true rfl) dX12_doesAll_22 (T_X12_doesIn F l0 l1 l2 l4 h) (fun v4 h5 => ?_)
    refine g_if_eq (tgt := 35) dX12_doesAll_25 (by decide) (fun c6 => ?_) (fun c6 => ?_)
    · refine g_iconst (v := 0) dX12_doesAll_35 (by decide) ?_
      refine G_lv [0, 1, 2, 4] rfl ?_
      exact T_X12_doesAll_36 F hK5 l0 l1 l2 l4 0 l3 h5
    · refine g_iconst (v := 1) dX12_doesAll_28 (by decide) ?_
      refine g_iload 4 dX12_doesAll_29 rfl ?_
      refine g_ishl dX12_doesAll_31 ?_
      refine g_goto (tgt := 36) dX12_doesAll_32 (by decide) ?_
      refine G_lv [0, 1, 2, 4] rfl ?_
      exact T_X12_doesAll_36 F hK5 l0 l1 l2 l4 ((1 : Int32) <<< (l4 &&& 31)) l3 h5
set_option maxRecDepth 100000 in
noncomputable def f_X12_doesAll_5 (F : Nat) : Nat → Nat → Int32 → Int32 → Int32 → Int32 → Hp → Option (Int32 × Hp)
  | 0, _, _, _, _, _, _ => none
  | n + 1, l0, l1, l2, l3, l4, h => f_X12_doesAll_5_b F (f_X12_doesAll_5 F n) l0 l1 l2 l3 l4 h
set_option maxRecDepth 100000 in
set_option maxHeartbeats 4000000 in
theorem T_X12_doesAll_5 (F : Nat) : ∀ (n : Nat) (l0 : Nat) (l1 : Int32) (l2 : Int32) (l3 : Int32) (l4 : Int32) (h : Hp), G rvI I_X12_doesAll 3 5 [(0, .ref l0), (1, .int l1), (2, .int l2), (3, .int l3), (4, .int l4)] [] h (f_X12_doesAll_5 F n l0 l1 l2 l3 l4 h) := by
  intro n
  induction n with
  | zero => intros; exact G_none
  | succ n ih => intro l0 l1 l2 l3 l4 h; exact T_X12_doesAll_5_b F ih l0 l1 l2 l3 l4 h
set_option maxRecDepth 100000 in
noncomputable def f_X12_doesAll (F : Nat) (a0 : Nat) (a1 : Int32) (a2 : Int32) (h : Hp) : Option (Int32 × Hp) :=
  f_X12_doesAll_5 F F a0 a1 a2 0 0 h
set_option maxRecDepth 100000 in
set_option maxHeartbeats 4000000 in
theorem T_X12_doesAll (F : Nat) (a0 : Nat) (a1 : Int32) (a2 : Int32) (h : Hp) : GM rvI I_X12_doesAll 3 [.ref a0, .int a1, .int a2] h (f_X12_doesAll F a0 a1 a2 h) := by
  delta f_X12_doesAll
  refine GM_of (lv := [(0, .ref a0), (1, .int a1), (2, .int a2)]) (by decide +kernel) (Nat.le_of_ble_eq_true rfl) rfl ?_
  refine g_iconst (v := 0) dX12_doesAll_0 (by decide) ?_
  refine g_istore_n (lv' := [(3, .int 0), (0, .ref a0), (1, .int a1), (2, .int a2)]) dX12_doesAll_1 (by decide) rfl ?_
  refine g_iconst (v := 0) dX12_doesAll_2 (by decide) ?_
  refine g_istore (lv' := [(4, .int 0), (3, .int 0), (0, .ref a0), (1, .int a1), (2, .int a2)]) dX12_doesAll_3 (by decide) rfl ?_
  refine G_lv [2, 3, 4, 1, 0] rfl ?_
  exact T_X12_doesAll_5 F F a0 a1 a2 0 0 h
set_option maxRecDepth 100000 in
noncomputable def f_X12_isGoal (F : Nat) (a0 : Nat) (a1 : Int32) (h : Hp) : Option (Int32 × Hp) :=
  gI 13 h a0 27 fun v1 => if v1 = (-1) then (cV 13 h a0 (f_X12_doesAll F a0 a1 0 h) fun v3 h4 => gI 13 h4 a0 24 fun v5 => gI 13 h4 a0 24 fun v6 => if (v3 &&& v5) = v6 then (cV 13 h4 a0 (f_X12_doesAll F a0 a1 1 h4) fun v8 h9 => gI 13 h9 a0 25 fun v10 => gI 13 h9 a0 25 fun v11 => if (v8 &&& v10) = v11 then (some (1, h9)) else (some (0, h9))) else (some (0, h4))) else (gI 13 h a0 26 fun v13 => gI 13 h a0 27 fun v14 => cV 13 h a0 (f_X12_doesIn F a0 a1 v13 v14 h) fun v15 h16 => if v15 = 0 then (some (0, h16)) else (gI 13 h16 a0 26 fun v18 => gI 13 h16 a0 27 fun v19 => cV 13 h16 a0 (f_X12_doesIn F a0 a1 (1 - v18) v19 h16) fun v20 h21 => if v20 = 0 then (some (1, h21)) else (some (0, h21))))
set_option maxRecDepth 100000 in
set_option maxHeartbeats 4000000 in
theorem T_X12_isGoal (F : Nat) (a0 : Nat) (a1 : Int32) (h : Hp) : GM rvI I_X12_isGoal 4 [.ref a0, .int a1] h (f_X12_isGoal F a0 a1 h) := by
  delta f_X12_isGoal
  refine GM_of (lv := [(0, .ref a0), (1, .int a1)]) (by decide +kernel) (Nat.le_of_ble_eq_true rfl) rfl ?_
  refine g_aload_n 0 dX12_isGoal_0 rfl ?_
  refine g_getI fl_RX12_351 rfl dX12_isGoal_1 (fun v1 => ?_)
  refine g_iconst (v := (-1)) dX12_isGoal_4 (by decide) ?_
  refine g_icmp_eq (tgt := 48) dX12_isGoal_5 (by decide) (fun c2 => ?_) (fun c2 => ?_)
  · refine g_aload_n 0 dX12_isGoal_48 rfl ?_
    refine g_iload_n 1 dX12_isGoal_49 rfl ?_
    refine g_iconst (v := 0) dX12_isGoal_50 (by decide) ?_
    refine g_callVi (J := I_X12_doesAll) (t := 13) (As := [.int a1, .int 0]) (rest := []) mjv_X12_doesAll ml_RX12_244 ⟨rfl, by decide, by decide⟩ (by decide) rfl rfl (Nat.le_of_ble_eq_true rfl) dX12_isGoal_51 (T_X12_doesAll F a0 a1 0 h) (fun v3 h4 => ?_)
    refine g_aload_n 0 dX12_isGoal_54 rfl ?_
    refine g_getI fl_RX12_345 rfl dX12_isGoal_55 (fun v5 => ?_)
    refine g_iand dX12_isGoal_58 ?_
    refine g_aload_n 0 dX12_isGoal_59 rfl ?_
    refine g_getI fl_RX12_345 rfl dX12_isGoal_60 (fun v6 => ?_)
    refine g_icmp_ne (tgt := 88) dX12_isGoal_63 (by decide) (fun c7 => ?_) (fun c7 => ?_)
    · refine g_aload_n 0 dX12_isGoal_66 rfl ?_
      refine g_iload_n 1 dX12_isGoal_67 rfl ?_
      refine g_iconst (v := 1) dX12_isGoal_68 (by decide) ?_
      refine g_callVi (J := I_X12_doesAll) (t := 13) (As := [.int a1, .int 1]) (rest := []) mjv_X12_doesAll ml_RX12_244 ⟨rfl, by decide, by decide⟩ (by decide) rfl rfl (Nat.le_of_ble_eq_true rfl) dX12_isGoal_69 (T_X12_doesAll F a0 a1 1 h4) (fun v8 h9 => ?_)
      refine g_aload_n 0 dX12_isGoal_72 rfl ?_
      refine g_getI fl_RX12_348 rfl dX12_isGoal_73 (fun v10 => ?_)
      refine g_iand dX12_isGoal_76 ?_
      refine g_aload_n 0 dX12_isGoal_77 rfl ?_
      refine g_getI fl_RX12_348 rfl dX12_isGoal_78 (fun v11 => ?_)
      refine g_icmp_ne (tgt := 88) dX12_isGoal_81 (by decide) (fun c12 => ?_) (fun c12 => ?_)
      · refine g_iconst (v := 1) dX12_isGoal_84 (by decide) ?_
        refine g_goto (tgt := 89) dX12_isGoal_85 (by decide) ?_
        exact g_zret (ty := .boolean) rfl rfl dX12_isGoal_89
      · refine g_iconst (v := 0) dX12_isGoal_88 (by decide) ?_
        exact g_zret (ty := .boolean) rfl rfl dX12_isGoal_89
    · refine g_iconst (v := 0) dX12_isGoal_88 (by decide) ?_
      exact g_zret (ty := .boolean) rfl rfl dX12_isGoal_89
  · refine g_aload_n 0 dX12_isGoal_8 rfl ?_
    refine g_iload_n 1 dX12_isGoal_9 rfl ?_
    refine g_aload_n 0 dX12_isGoal_10 rfl ?_
    refine g_getI fl_RX12_354 rfl dX12_isGoal_11 (fun v13 => ?_)
    refine g_aload_n 0 dX12_isGoal_14 rfl ?_
    refine g_getI fl_RX12_351 rfl dX12_isGoal_15 (fun v14 => ?_)
    refine g_callVi (J := I_X12_doesIn) (t := 13) (As := [.int a1, .int v13, .int v14]) (rest := []) mjv_X12_doesIn ml_RX12_240 ⟨rfl, by decide, by decide⟩ (by decide) rfl rfl (Nat.le_of_ble_eq_true rfl) dX12_isGoal_18 (T_X12_doesIn F a0 a1 v13 v14 h) (fun v15 h16 => ?_)
    refine g_if_eq (tgt := 46) dX12_isGoal_21 (by decide) (fun c17 => ?_) (fun c17 => ?_)
    · refine g_iconst (v := 0) dX12_isGoal_46 (by decide) ?_
      exact g_zret (ty := .boolean) rfl rfl dX12_isGoal_47
    · refine g_aload_n 0 dX12_isGoal_24 rfl ?_
      refine g_iload_n 1 dX12_isGoal_25 rfl ?_
      refine g_iconst (v := 1) dX12_isGoal_26 (by decide) ?_
      refine g_aload_n 0 dX12_isGoal_27 rfl ?_
      refine g_getI fl_RX12_354 rfl dX12_isGoal_28 (fun v18 => ?_)
      refine g_isub dX12_isGoal_31 ?_
      refine g_aload_n 0 dX12_isGoal_32 rfl ?_
      refine g_getI fl_RX12_351 rfl dX12_isGoal_33 (fun v19 => ?_)
      refine g_callVi (J := I_X12_doesIn) (t := 13) (As := [.int a1, .int (1 - v18), .int v19]) (rest := []) mjv_X12_doesIn ml_RX12_240 ⟨rfl, by decide, by decide⟩ (by decide) rfl rfl (Nat.le_of_ble_eq_true rfl) dX12_isGoal_36 (T_X12_doesIn F a0 a1 (1 - v18) v19 h16) (fun v20 h21 => ?_)
      refine g_if_ne (tgt := 46) dX12_isGoal_39 (by decide) (fun c22 => ?_) (fun c22 => ?_)
      · refine g_iconst (v := 1) dX12_isGoal_42 (by decide) ?_
        refine g_goto (tgt := 47) dX12_isGoal_43 (by decide) ?_
        exact g_zret (ty := .boolean) rfl rfl dX12_isGoal_47
      · refine g_iconst (v := 0) dX12_isGoal_46 (by decide) ?_
        exact g_zret (ty := .boolean) rfl rfl dX12_isGoal_47
