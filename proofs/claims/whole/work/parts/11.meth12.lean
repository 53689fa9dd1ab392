/-! L2, by program (wip/whole/gen/gen.py) -/
set_option maxRecDepth 100000 in
noncomputable def f_X11_perform (F : Nat) (a0 : Nat) (a1 : Int32) (h : Hp) : Option (Int32 × Hp) :=
  cV 12 h a0 (f_X11_noTray F a0 a1 h) fun v1 h2 => if v1 = 0 then (gR 12 h2 a0 8 fun v4 => aR 26 h2 v4 a1 fun v5 => cV 10 h2 v5 (f_X9_isMissing F v5 h2) fun v6 h7 => if v6 = 0 then (gR 12 h7 a0 6 fun v9 => gR 12 h7 a0 5 fun v10 => cV 9 h7 v9 (f_X8_copy F v9 v10 h7) fun v11 h12 => gR 12 h12 a0 6 fun v13 => gR 12 h12 a0 3 fun v14 => gR 12 h12 a0 8 fun v15 => aR 26 h12 v15 a1 fun v16 => cV 9 h12 v13 (f_X8_deeds F v13 v14 v16 h12) fun v17 h18 => if v17 ≤ 0 then (some (v17, h18)) else (cV 12 h18 a0 (f_X11_takeTrial F a0 h18) fun v20 h21 => some (v17, h21))) else (some ((-6), h7))) else (some ((-2), h2))
set_option maxRecDepth 100000 in
set_option maxHeartbeats 4000000 in
theorem T_X11_perform (F : Nat) (a0 : Nat) (a1 : Int32) (h : Hp) : GM rvI I_X11_perform 7 [.ref a0, .int a1] h (f_X11_perform F a0 a1 h) := by
  delta f_X11_perform
  refine GM_of (lv := [(0, .ref a0), (1, .int a1)]) (by decide +kernel) (Nat.le_of_ble_eq_true rfl) rfl ?_
  refine g_aload_n 0 dX11_perform_0 rfl ?_
  refine g_iload_n 1 dX11_perform_1 rfl ?_
  refine g_callVi (J := I_X11_noTray) (t := 12) (As := [.int a1]) (rest := []) mjv_X11_noTray ml_RX11_220 ⟨rfl, by decide, by decide⟩ (by decide) rfl rfl (Nat.le_of_ble_eq_true rfl) dX11_perform_2 (T_X11_noTray F a0 a1 h) (fun v1 h2 => ?_)
  refine g_if_eq (tgt := 11) dX11_perform_5 (by decide) (fun c3 => ?_) (fun c3 => ?_)
  · refine g_aload_n 0 dX11_perform_11 rfl ?_
    refine g_getR fl_RX11_52 rfl dX11_perform_12 (fun v4 => ?_)
    refine g_iload_n 1 dX11_perform_15 rfl ?_
    refine g_aald (by decide) (by decide) dX11_perform_16 (fun v5 => ?_)
    refine g_callVi (J := I_X9_isMissing) (t := 10) (As := []) (rest := []) mjv_X9_isMissing ml_RX11_223 ⟨rfl, by decide, by decide⟩ (by decide) rfl rfl (Nat.le_of_ble_eq_true rfl) dX11_perform_17 (T_X9_isMissing F v5 h2) (fun v6 h7 => ?_)
    refine g_if_eq (tgt := 26) dX11_perform_20 (by decide) (fun c8 => ?_) (fun c8 => ?_)
    · refine g_aload_n 0 dX11_perform_26 rfl ?_
      refine g_getR fl_RX11_40 rfl dX11_perform_27 (fun v9 => ?_)
      refine g_aload_n 0 dX11_perform_30 rfl ?_
      refine g_getR fl_RX11_36 rfl dX11_perform_31 (fun v10 => ?_)
      refine g_callVv (J := I_X8_copy) (t := 9) (As := [.ref v10]) (rest := []) mjv_X8_copy ml_RX11_187 ⟨rfl, by decide, by decide⟩ (by decide) rfl rfl (Nat.le_of_ble_eq_true rfl) dX11_perform_34 (T_X8_copy F v9 v10 h7) (fun v11 h12 => ?_)
      refine g_aload_n 0 dX11_perform_37 rfl ?_
      refine g_getR fl_RX11_40 rfl dX11_perform_38 (fun v13 => ?_)
      refine g_aload_n 0 dX11_perform_41 rfl ?_
      refine g_getR fl_RX11_20 rfl dX11_perform_42 (fun v14 => ?_)
      refine g_aload_n 0 dX11_perform_45 rfl ?_
      refine g_getR fl_RX11_52 rfl dX11_perform_46 (fun v15 => ?_)
      refine g_iload_n 1 dX11_perform_49 rfl ?_
      refine g_aald (by decide) (by decide) dX11_perform_50 (fun v16 => ?_)
      refine g_callVi (J := I_X8_deeds) (t := 9) (As := [.ref v14, .ref v16]) (rest := []) mjv_X8_deeds ml_RX11_227 ⟨rfl, by decide, by decide⟩ (by decide) rfl rfl (Nat.le_of_ble_eq_true rfl) dX11_perform_51 (T_X8_deeds F v13 v14 v16 h12) (fun v17 h18 => ?_)
      refine g_istore_n (lv' := [(2, .int v17), (0, .ref a0), (1, .int a1)]) dX11_perform_54 (by decide) rfl ?_
      refine g_iload_n 0 dX11_perform_55 rfl ?_
      refine g_if_le (tgt := 63) dX11_perform_56 (by decide) (fun c19 => ?_) (fun c19 => ?_)
      · refine g_iload_n 0 dX11_perform_63 rfl ?_
        exact g_iret rfl dX11_perform_64
      · refine g_aload_n 1 dX11_perform_59 rfl ?_
        refine g_callVv (J := I_X11_takeTrial) (t := 12) (As := []) (rest := []) mjv_X11_takeTrial ml_RX11_195 ⟨rfl, by decide, by decide⟩ (by decide) rfl rfl (Nat.le_of_ble_eq_true rfl) dX11_perform_60 (T_X11_takeTrial F a0 h18) (fun v20 h21 => ?_)
        refine g_iload_n 0 dX11_perform_63 rfl ?_
        exact g_iret rfl dX11_perform_64
    · refine g_bipush (v := (-6)) dX11_perform_23 (by decide) ?_
      exact g_iret rfl dX11_perform_25
  · refine g_bipush (v := (-2)) dX11_perform_8 (by decide) ?_
    exact g_iret rfl dX11_perform_10
set_option maxRecDepth 100000 in
noncomputable def f_X11_restore (F : Nat) (a0 : Nat) (a1 : Int32) (h : Hp) : Option (Int32 × Hp) :=
  cV 12 h a0 (f_X11_noImage F a0 a1 h) fun v1 h2 => if v1 = 0 then (gR 12 h2 a0 9 fun v4 => aO 24 h2 v4 a1 (some ((-5), h2)) (fun v5 => pR 12 h2 a0 3 v5 fun h6 => gR 12 h6 a0 5 fun v7 => gR 12 h6 a0 10 fun v8 => aR 25 h6 v8 a1 fun v9 => cV 9 h6 v7 (f_X8_copy F v7 v9 h6) fun v10 h11 => gR 12 h11 a0 7 fun v12 => cV 5 h11 v12 (f_X4_clear F v12 h11) fun v13 h14 => some (0, h14))) else (some ((-2), h2))
set_option maxRecDepth 100000 in
set_option maxHeartbeats 4000000 in
theorem T_X11_restore (F : Nat) (a0 : Nat) (a1 : Int32) (h : Hp) : GM rvI I_X11_restore 2 [.ref a0, .int a1] h (f_X11_restore F a0 a1 h) := by
  delta f_X11_restore
  refine GM_of (lv := [(0, .ref a0), (1, .int a1)]) (by decide +kernel) (Nat.le_of_ble_eq_true rfl) rfl ?_
  refine g_aload_n 0 dX11_restore_0 rfl ?_
  refine g_iload_n 1 dX11_restore_1 rfl ?_
  refine g_callVi (J := I_X11_noImage) (t := 12) (As := [.int a1]) (rest := []) mjv_X11_noImage ml_RX11_386 ⟨rfl, by decide, by decide⟩ (by decide) rfl rfl (Nat.le_of_ble_eq_true rfl) dX11_restore_2 (T_X11_noImage F a0 a1 h) (fun v1 h2 => ?_)
  refine g_if_eq (tgt := 11) dX11_restore_5 (by decide) (fun c3 => ?_) (fun c3 => ?_)
  · refine g_aload_n 0 dX11_restore_11 rfl ?_
    refine g_getR fl_RX11_56 rfl dX11_restore_12 (fun v4 => ?_)
    refine g_iload_n 1 dX11_restore_15 rfl ?_
    refine g_aaldO (by decide) (by decide) dX11_restore_16 ?_ (fun v5 => ?_)
    · refine g_astore_nN (lv' := [(2, .null), (0, .ref a0), (1, .int a1)]) dX11_restore_17 (by decide) rfl ?_
      refine g_aload_nN 0 dX11_restore_18 rfl ?_
      refine g_ifnonnullN dX11_restore_19 ?_
      refine g_bipush (v := (-5)) dX11_restore_22 (by decide) ?_
      exact g_iret rfl dX11_restore_24
    · refine g_astore_n (lv' := [(2, .ref v5), (0, .ref a0), (1, .int a1)]) dX11_restore_17 (by decide) rfl ?_
      refine g_aload_n 0 dX11_restore_18 rfl ?_
      refine g_ifnonnull (tgt := 25) dX11_restore_19 (by decide) ?_
      refine g_aload_n 1 dX11_restore_25 rfl ?_
      refine g_aload_n 0 dX11_restore_26 rfl ?_
      refine g_putR fl_RX11_20 rfl (Or.inl rfl) dX11_restore_27 (fun h6 => ?_)
      refine g_aload_n 1 dX11_restore_30 rfl ?_
      refine g_getR fl_RX11_36 rfl dX11_restore_31 (fun v7 => ?_)
      refine g_aload_n 1 dX11_restore_34 rfl ?_
      refine g_getR fl_RX11_59 rfl dX11_restore_35 (fun v8 => ?_)
      refine g_iload_n 2 dX11_restore_38 rfl ?_
      refine g_aald (by decide) (by decide) dX11_restore_39 (fun v9 => ?_)
      refine g_callVv (J := I_X8_copy) (t := 9) (As := [.ref v9]) (rest := []) mjv_X8_copy ml_RX11_187 ⟨rfl, by decide, by decide⟩ (by decide) rfl rfl (Nat.le_of_ble_eq_true rfl) dX11_restore_40 (T_X8_copy F v7 v9 h6) (fun v10 h11 => ?_)
      refine g_aload_n 1 dX11_restore_43 rfl ?_
      refine g_getR fl_RX11_46 rfl dX11_restore_44 (fun v12 => ?_)
      refine g_callVv (J := I_X4_clear) (t := 5) (As := []) (rest := []) mjv_X4_clear ml_RX11_136 ⟨rfl, by decide, by decide⟩ (by decide) rfl rfl (Nat.le_of_ble_eq_true rfl) dX11_restore_47 (T_X4_clear F v12 h11) (fun v13 h14 => ?_)
      refine g_iconst (v := 0) dX11_restore_50 (by decide) ?_
      exact g_iret rfl dX11_restore_51
  · refine g_bipush (v := (-2)) dX11_restore_8 (by decide) ?_
    exact g_iret rfl dX11_restore_10
set_option maxRecDepth 100000 in
noncomputable def f_X6_atGoal_67 (F : Nat) (K12 : Nat → Int32 → Int32 → Int64 → Int32 → Hp → Option (Int64 × Hp)) (l0 : Nat) (l1 : Int32) (l2 : Int32) (l3 : Int64) (l5 : Int32) (h : Hp) : Option (Int64 × Hp) :=
  K12 l0 l1 l2 l3 (l5 + 1) h
set_option maxRecDepth 100000 in
set_option maxHeartbeats 4000000 in
theorem T_X6_atGoal_67 (F : Nat) {K12 : Nat → Int32 → Int32 → Int64 → Int32 → Hp → Option (Int64 × Hp)} (hK12 : ∀ (l0 : Nat) (l1 : Int32) (l2 : Int32) (l3 : Int64) (l5 : Int32) (h : Hp), G rvL I_X6_atGoal 3 12 [(0, .ref l0), (1, .int l1), (2, .int l2), (3, .long l3), (5, .int l5)] [] h (K12 l0 l1 l2 l3 l5 h)) (l0 : Nat) (l1 : Int32) (l2 : Int32) (l3 : Int64) (l5 : Int32) (h : Hp) : G rvL I_X6_atGoal 3 67 [(0, .ref l0), (1, .int l1), (2, .int l2), (3, .long l3), (5, .int l5)] [] h (f_X6_atGoal_67 F K12 l0 l1 l2 l3 l5 h) := by
  delta f_X6_atGoal_67
  refine g_iinc (v' := l5 + 1) (lv' := [(5, .int (l5 + 1)), (0, .ref l0), (1, .int l1), (2, .int l2), (3, .long l3)]) 4 dX6_atGoal_67 rfl rfl (by decide) rfl ?_
  refine g_goto (tgt := 12) dX6_atGoal_70 (by decide) ?_
  refine G_lv [1, 2, 3, 4, 0] rfl ?_
  exact hK12 l0 l1 l2 l3 (l5 + 1) h
set_option maxRecDepth 100000 in
noncomputable def f_X6_atGoal_12_b (F : Nat) (K12 : Nat → Int32 → Int32 → Int64 → Int32 → Hp → Option (Int64 × Hp)) (l0 : Nat) (l1 : Int32) (l2 : Int32) (l3 : Int64) (l5 : Int32) (h : Hp) : Option (Int64 × Hp) :=
  gI 7 h l0 4 fun v4 => if v4 < l5 then (some (l3, h)) else (gR 7 h l0 0 fun v6 => al 23 h v6 fun v7 => if v7 ≤ l5 then (some (l3, h)) else (gR 7 h l0 0 fun v9 => aL h v9 l5 fun v10 => if ((v10 : Int64) = 0 : Prop) then (f_X6_atGoal_67 F K12 l0 l1 l2 l3 l5 h) else (gR 7 h l0 1 fun v12 => cV 3 h v12 (f_X2_doAtLeast F v12 l5 l1 l2 h) fun v13 h14 => if v13 = 0 then (f_X6_atGoal_67 F K12 l0 l1 l2 l3 l5 h14) else (gR 7 h14 l0 0 fun v16 => aL h14 v16 l5 fun v17 => lt (l3 + v17) fun x18 => f_X6_atGoal_67 F K12 l0 l1 l2 x18 l5 h14))))
set_option maxRecDepth 100000 in
set_option maxHeartbeats 4000000 in
theorem T_X6_atGoal_12_b (F : Nat) {K12 : Nat → Int32 → Int32 → Int64 → Int32 → Hp → Option (Int64 × Hp)} (hK12 : ∀ (l0 : Nat) (l1 : Int32) (l2 : Int32) (l3 : Int64) (l5 : Int32) (h : Hp), G rvL I_X6_atGoal 3 12 [(0, .ref l0), (1, .int l1), (2, .int l2), (3, .long l3), (5, .int l5)] [] h (K12 l0 l1 l2 l3 l5 h)) (l0 : Nat) (l1 : Int32) (l2 : Int32) (l3 : Int64) (l5 : Int32) (h : Hp) : G rvL I_X6_atGoal 3 12 [(0, .ref l0), (1, .int l1), (2, .int l2), (3, .long l3), (5, .int l5)] [] h (f_X6_atGoal_12_b F K12 l0 l1 l2 l3 l5 h) := by
  delta f_X6_atGoal_12_b
  refine g_iload 4 dX6_atGoal_12 rfl ?_
  refine g_aload_n 0 dX6_atGoal_14 rfl ?_
  refine g_getI fl_RX6_44 rfl dX6_atGoal_15 (fun v4 => ?_)
  refine g_icmp_gt (tgt := 73) dX6_atGoal_18 (by decide) (fun c5 => ?_) (fun c5 => ?_)
  · refine g_lload_n 3 dX6_atGoal_73 rfl ?_
    exact g_lret rfl dX6_atGoal_74
  · refine g_iload 4 dX6_atGoal_21 rfl ?_
    refine g_aload_n 0 dX6_atGoal_23 rfl ?_
    refine g_getR fl_RX6_9 rfl dX6_atGoal_24 (fun v6 => ?_)
    refine g_alen (by decide) (by decide) dX6_atGoal_27 (fun v7 => ?_)
    refine g_icmp_ge (tgt := 73) dX6_atGoal_28 (by decide) (fun c8 => ?_) (fun c8 => ?_)
    · refine g_lload_n 3 dX6_atGoal_73 rfl ?_
      exact g_lret rfl dX6_atGoal_74
    · refine g_aload_n 0 dX6_atGoal_31 rfl ?_
      refine g_getR fl_RX6_9 rfl dX6_atGoal_32 (fun v9 => ?_)
      refine g_iload 4 dX6_atGoal_35 rfl ?_
      refine g_lald dX6_atGoal_37 (fun v10 => ?_)
      refine g_lconst (v := 0) dX6_atGoal_38 (by decide) ?_
      refine g_lc_eq (x := v10) (y := 0) (tgt := 67) dX6_atGoal_39 dX6_atGoal_40 (by decide) (fun c11 => ?_) (fun c11 => ?_)
      · refine G_lv [0, 1, 2, 3, 4] rfl ?_
        exact T_X6_atGoal_67 F hK12 l0 l1 l2 l3 l5 h
      · refine g_aload_n 0 dX6_atGoal_43 rfl ?_
        refine g_getR fl_RX6_15 rfl dX6_atGoal_44 (fun v12 => ?_)
        refine g_iload 4 dX6_atGoal_47 rfl ?_
        refine g_iload_n 1 dX6_atGoal_49 rfl ?_
        refine g_iload_n 2 dX6_atGoal_50 rfl ?_
        refine g_callVi (J := I_X2_doAtLeast) (t := 3) (As := [.int l5, .int l1, .int l2]) (rest := []) mjv_X2_doAtLeast ml_RX6_75 ⟨rfl, by decide, by decide⟩ (by decide) rfl rfl (Nat.le_of_ble_eq_true rfl) dX6_atGoal_51 (T_X2_doAtLeast F v12 l5 l1 l2 h) (fun v13 h14 => ?_)
        refine g_if_eq (tgt := 67) dX6_atGoal_54 (by decide) (fun c15 => ?_) (fun c15 => ?_)
        · refine G_lv [0, 1, 2, 3, 4] rfl ?_
          exact T_X6_atGoal_67 F hK12 l0 l1 l2 l3 l5 h14
        · refine g_lload_n 3 dX6_atGoal_57 rfl ?_
          refine g_aload_n 0 dX6_atGoal_58 rfl ?_
          refine g_getR fl_RX6_9 rfl dX6_atGoal_59 (fun v16 => ?_)
          refine g_iload 4 dX6_atGoal_62 rfl ?_
          refine g_lald dX6_atGoal_64 (fun v17 => ?_)
          refine g_ladd dX6_atGoal_65 ?_
          refine G_ltl (fun x18 => ?_)
          refine g_lstore_n (lv' := [(3, .long x18), (0, .ref l0), (1, .int l1), (2, .int l2), (5, .int l5)]) dX6_atGoal_66 (by decide) rfl ?_
          refine G_lv [1, 2, 3, 0, 4] rfl ?_
          exact T_X6_atGoal_67 F hK12 l0 l1 l2 x18 l5 h14
set_option maxRecDepth 100000 in
noncomputable def f_X6_atGoal_12 (F : Nat) : Nat → Nat → Int32 → Int32 → Int64 → Int32 → Hp → Option (Int64 × Hp)
  | 0, _, _, _, _, _, _ => none
  | n + 1, l0, l1, l2, l3, l5, h => f_X6_atGoal_12_b F (f_X6_atGoal_12 F n) l0 l1 l2 l3 l5 h
set_option maxRecDepth 100000 in
set_option maxHeartbeats 4000000 in
theorem T_X6_atGoal_12 (F : Nat) : ∀ (n : Nat) (l0 : Nat) (l1 : Int32) (l2 : Int32) (l3 : Int64) (l5 : Int32) (h : Hp), G rvL I_X6_atGoal 3 12 [(0, .ref l0), (1, .int l1), (2, .int l2), (3, .long l3), (5, .int l5)] [] h (f_X6_atGoal_12 F n l0 l1 l2 l3 l5 h) := by
  intro n
  induction n with
  | zero => intros; exact G_none
  | succ n ih => intro l0 l1 l2 l3 l5 h; exact T_X6_atGoal_12_b F ih l0 l1 l2 l3 l5 h
set_option maxRecDepth 100000 in
noncomputable def f_X6_atGoal (F : Nat) (a0 : Nat) (a1 : Int32) (a2 : Int32) (h : Hp) : Option (Int64 × Hp) :=
  gI 7 h a0 3 fun v1 => bd (f_J9_max_7cf53 F 0 v1 h) fun v2 h3 => f_X6_atGoal_12 F F a0 a1 a2 0 v2 h3
set_option maxRecDepth 100000 in
set_option maxHeartbeats 4000000 in
theorem T_X6_atGoal (F : Nat) (a0 : Nat) (a1 : Int32) (a2 : Int32) (h : Hp) : GM rvL I_X6_atGoal 3 [.ref a0, .int a1, .int a2] h (f_X6_atGoal F a0 a1 a2 h) := by
  delta f_X6_atGoal
  refine GM_of (lv := [(0, .ref a0), (1, .int a1), (2, .int a2)]) (by decide +kernel) (Nat.le_of_ble_eq_true rfl) rfl ?_
  refine g_lconst (v := 0) dX6_atGoal_0 (by decide) ?_
  refine g_lstore_n (lv' := [(3, .long 0), (0, .ref a0), (1, .int a1), (2, .int a2)]) dX6_atGoal_1 (by decide) rfl ?_
  refine g_iconst (v := 0) dX6_atGoal_2 (by decide) ?_
  refine g_aload_n 1 dX6_atGoal_3 rfl ?_
  refine g_getI fl_RX6_41 rfl dX6_atGoal_4 (fun v1 => ?_)
  refine g_callSi (J := I_J9_max_7cf53) (As := [.int 0, .int v1]) (rest := []) mjs_J9_max_7cf53 ml_RX6_51 (by decide) rfl rfl (Nat.le_of_ble_eq_true rfl) dX6_atGoal_7 (T_J9_max_7cf53 F 0 v1 h) (fun v2 h3 => ?_)
  refine g_istore (lv' := [(5, .int v2), (3, .long 0), (0, .ref a0), (1, .int a1), (2, .int a2)]) dX6_atGoal_10 (by decide) rfl ?_
  refine G_lv [2, 3, 4, 1, 0] rfl ?_
  exact T_X6_atGoal_12 F F a0 a1 a2 0 v2 h3
set_option maxRecDepth 100000 in
noncomputable def f_X6_add (F : Nat) (a0 : Nat) (a1 : Int32) (a2 : Int64) (h : Hp) : Option (Unit × Hp) :=
  if a1 < 0 then (some ((), h)) else (gR 7 h a0 0 fun v2 => al 23 h v2 fun v3 => if v3 ≤ a1 then (some ((), h)) else (gR 7 h a0 0 fun v5 => aL h v5 a1 fun v6 => wL h v5 a1 (v6 + a2) fun h7 => gI 7 h7 a0 4 fun v8 => bd (f_J9_max_7cf53 F v8 a1 h7) fun v9 h10 => pI 7 h10 a0 4 v9 fun h11 => some ((), h11)))
set_option maxRecDepth 100000 in
set_option maxHeartbeats 4000000 in
theorem T_X6_add (F : Nat) (a0 : Nat) (a1 : Int32) (a2 : Int64) (h : Hp) : GM rvV I_X6_add 2 [.ref a0, .int a1, .long a2] h (f_X6_add F a0 a1 a2 h) := by
  delta f_X6_add
  refine GM_of (lv := [(0, .ref a0), (1, .int a1), (2, .long a2)]) (by decide +kernel) (Nat.le_of_ble_eq_true rfl) rfl ?_
  refine g_iload_n 1 dX6_add_0 rfl ?_
  refine g_if_lt (tgt := 35) dX6_add_1 (by decide) (fun c1 => ?_) (fun c1 => ?_)
  · exact g_vret rfl dX6_add_35
  · refine g_iload_n 1 dX6_add_4 rfl ?_
    refine g_aload_n 0 dX6_add_5 rfl ?_
    refine g_getR fl_RX6_9 rfl dX6_add_6 (fun v2 => ?_)
    refine g_alen (by decide) (by decide) dX6_add_9 (fun v3 => ?_)
    refine g_icmp_ge (tgt := 35) dX6_add_10 (by decide) (fun c4 => ?_) (fun c4 => ?_)
    · exact g_vret rfl dX6_add_35
    · refine g_aload_n 0 dX6_add_13 rfl ?_
      refine g_getR fl_RX6_9 rfl dX6_add_14 (fun v5 => ?_)
      refine g_iload_n 1 dX6_add_17 rfl ?_
      refine g_dup2 dX6_add_18 rfl rfl ?_
      refine g_lald dX6_add_19 (fun v6 => ?_)
      refine g_lload_n 2 dX6_add_20 rfl ?_
      refine g_ladd dX6_add_21 ?_
      refine g_last dX6_add_22 (fun h7 => ?_)
      refine g_aload_n 0 dX6_add_23 rfl ?_
      refine g_aload_n 0 dX6_add_24 rfl ?_
      refine g_getI fl_RX6_44 rfl dX6_add_25 (fun v8 => ?_)
      refine g_iload_n 1 dX6_add_28 rfl ?_
      refine g_callSi (J := I_J9_max_7cf53) (As := [.int v8, .int a1]) (rest := [.ref a0]) mjs_J9_max_7cf53 ml_RX6_51 (by decide) rfl rfl (Nat.le_of_ble_eq_true rfl) dX6_add_29 (T_J9_max_7cf53 F v8 a1 h7) (fun v9 h10 => ?_)
      refine g_putI fl_RX6_44 (Or.inl rfl) dX6_add_32 (fun h11 => ?_)
      exact g_vret rfl dX6_add_35
set_option maxRecDepth 100000 in
noncomputable def f_X6_begin_35 (F : Nat) (l0 : Nat) (l2 : Nat) (h : Hp) : Option (Unit × Hp) :=
  gR 7 h l0 0 fun v9 => bd (f_J7_fill_d0a16 F v9 0 h) fun v10 h11 => gI 9 h11 l2 0 fun v12 => pI 7 h11 l0 3 v12 fun h13 => gI 9 h13 l2 0 fun v14 => pI 7 h13 l0 4 v14 fun h15 => gI 9 h15 l2 0 fun v16 => cV 7 h15 l0 (f_X6_add F l0 v16 1 h15) fun v17 h18 => some ((), h18)
set_option maxRecDepth 100000 in
set_option maxHeartbeats 4000000 in
theorem T_X6_begin_35 (F : Nat) (l0 : Nat) (l2 : Nat) (h : Hp) : G rvV I_X6_begin 3 35 [(0, .ref l0), (2, .ref l2)] [] h (f_X6_begin_35 F l0 l2 h) := by
  delta f_X6_begin_35
  refine g_aload_n 0 dX6_begin_35 rfl ?_
  refine g_getR fl_RX6_9 rfl dX6_begin_36 (fun v9 => ?_)
  refine g_lconst (v := 0) dX6_begin_39 (by decide) ?_
  refine g_callSv (J := I_J7_fill_d0a16) (As := [.ref v9, .long 0]) (rest := []) mjs_J7_fill_d0a16 ml_RX6_32 (by decide) rfl rfl (Nat.le_of_ble_eq_true rfl) dX6_begin_40 (T_J7_fill_d0a16 F v9 0 h) (fun v10 h11 => ?_)
  refine g_aload_n 0 dX6_begin_43 rfl ?_
  refine g_aload_n 1 dX6_begin_44 rfl ?_
  refine g_getI fl_RX6_38 rfl dX6_begin_45 (fun v12 => ?_)
  refine g_putI fl_RX6_41 (Or.inl rfl) dX6_begin_48 (fun h13 => ?_)
  refine g_aload_n 0 dX6_begin_51 rfl ?_
  refine g_aload_n 1 dX6_begin_52 rfl ?_
  refine g_getI fl_RX6_38 rfl dX6_begin_53 (fun v14 => ?_)
  refine g_putI fl_RX6_44 (Or.inl rfl) dX6_begin_56 (fun h15 => ?_)
  refine g_aload_n 0 dX6_begin_59 rfl ?_
  refine g_aload_n 1 dX6_begin_60 rfl ?_
  refine g_getI fl_RX6_38 rfl dX6_begin_61 (fun v16 => ?_)
  refine g_lconst (v := 1) dX6_begin_64 (by decide) ?_
  refine g_callVv (J := I_X6_add) (t := 7) (As := [.int v16, .long 1]) (rest := []) mjv_X6_add ml_RX6_47 ⟨rfl, by decide, by decide⟩ (by decide) rfl rfl (Nat.le_of_ble_eq_true rfl) dX6_begin_65 (T_X6_add F l0 v16 1 h15) (fun v17 h18 => ?_)
  exact g_vret rfl dX6_begin_68
set_option maxRecDepth 100000 in
noncomputable def f_X6_begin (F : Nat) (a0 : Nat) (a1 : Nat) (a2 : Nat) (h : Hp) : Option (Unit × Hp) :=
  pR 7 h a0 1 a1 fun h1 => gI 9 h1 a2 1 fun v2 => pI 7 h1 a0 2 v2 fun h3 => gR 7 h3 a0 0 fun v4 => al 23 h3 v4 fun v5 => cV 3 h3 a1 (f_X2_room F a1 h3) fun v6 h7 => if v6 ≤ v5 then (f_X6_begin_35 F a0 a2 h7) else (cV 3 h7 a1 (f_X2_room F a1 h7) fun v19 h20 => nA 23 h20 v19 fun b21 h22 => pR 7 h22 a0 0 b21 fun h23 => f_X6_begin_35 F a0 a2 h23)
set_option maxRecDepth 100000 in
set_option maxHeartbeats 4000000 in
theorem T_X6_begin (F : Nat) (a0 : Nat) (a1 : Nat) (a2 : Nat) (h : Hp) : GM rvV I_X6_begin 3 [.ref a0, .ref a1, .ref a2] h (f_X6_begin F a0 a1 a2 h) := by
  delta f_X6_begin
  refine GM_of (lv := [(0, .ref a0), (1, .ref a1), (2, .ref a2)]) (by decide +kernel) (Nat.le_of_ble_eq_true rfl) rfl ?_
  refine g_aload_n 0 dX6_begin_0 rfl ?_
  refine g_aload_n 1 dX6_begin_1 rfl ?_
  refine g_putR fl_RX6_15 rfl (Or.inl rfl) dX6_begin_2 (fun h1 => ?_)
  refine g_aload_n 0 dX6_begin_5 rfl ?_
  refine g_aload_n 2 dX6_begin_6 rfl ?_
  refine g_getI fl_RX6_19 rfl dX6_begin_7 (fun v2 => ?_)
  refine g_putI fl_RX6_25 (Or.inl rfl) dX6_begin_10 (fun h3 => ?_)
  refine g_aload_n 0 dX6_begin_13 rfl ?_
  refine g_getR fl_RX6_9 rfl dX6_begin_14 (fun v4 => ?_)
  refine g_alen (by decide) (by decide) dX6_begin_17 (fun v5 => ?_)
  refine g_aload_n 1 dX6_begin_18 rfl ?_
  refine g_callVi (J := I_X2_room) (t := 3) (As := []) (rest := [.int v5]) mjv_X2_room ml_RX6_26 ⟨rfl, by decide, by decide⟩ (by decide) rfl rfl (Nat.le_of_ble_eq_true rfl) dX6_begin_19 (T_X2_room F a1 h3) (fun v6 h7 => ?_)
  refine g_icmp_ge (tgt := 35) dX6_begin_22 (by decide) (fun c8 => ?_) (fun c8 => ?_)
  · refine G_lv [0, 2] rfl ?_
    exact T_X6_begin_35 F a0 a2 h7
  · refine g_aload_n 0 dX6_begin_25 rfl ?_
    refine g_aload_n 1 dX6_begin_26 rfl ?_
    refine g_callVi (J := I_X2_room) (t := 3) (As := []) (rest := [.ref a0]) mjv_X2_room ml_RX6_26 ⟨rfl, by decide, by decide⟩ (by decide) rfl rfl (Nat.le_of_ble_eq_true rfl) dX6_begin_27 (T_X2_room F a1 h7) (fun v19 h20 => ?_)
    refine g_newa (t := 23) (by decide) (by decide) rfl ac_long dX6_begin_30 (fun b21 h22 => ?_)
    refine g_putR fl_RX6_9 rfl (Or.inl rfl) dX6_begin_32 (fun h23 => ?_)
    refine G_lv [0, 2] rfl ?_
    exact T_X6_begin_35 F a0 a2 h23
set_option maxRecDepth 100000 in
noncomputable def f_X6_spread_28_b (F : Nat) (K3 : Nat → Int32 → Int64 → Int32 → Hp → Option (Unit × Hp)) (K28 : Nat → Int32 → Int64 → Int32 → Int32 → Int32 → Hp → Option (Unit × Hp)) (l0 : Nat) (l1 : Int32) (l2 : Int64) (l4 : Int32) (l5 : Int32) (l6 : Int32) (h : Hp) : Option (Unit × Hp) :=
  gR 7 h l0 1 fun v10 => gI 3 h v10 0 fun v11 => if v11 ≤ l6 then (K3 l0 l1 l2 (l4 + 1) h) else (gR 7 h l0 1 fun v13 => cV 3 h v13 (f_X2_afterCase F v13 l1 l5 l4 l6 h) fun v14 h15 => cV 7 h15 l0 (f_X6_add F l0 v14 l2 h15) fun v16 h17 => K28 l0 l1 l2 l4 l5 (l6 + 1) h17)
set_option maxRecDepth 100000 in
set_option maxHeartbeats 4000000 in
theorem T_X6_spread_28_b (F : Nat) {K3 : Nat → Int32 → Int64 → Int32 → Hp → Option (Unit × Hp)} (hK3 : ∀ (l0 : Nat) (l1 : Int32) (l2 : Int64) (l4 : Int32) (h : Hp), G rvV I_X6_spread 3 3 [(0, .ref l0), (1, .int l1), (2, .long l2), (4, .int l4)] [] h (K3 l0 l1 l2 l4 h)) {K28 : Nat → Int32 → Int64 → Int32 → Int32 → Int32 → Hp → Option (Unit × Hp)} (hK28 : ∀ (l0 : Nat) (l1 : Int32) (l2 : Int64) (l4 : Int32) (l5 : Int32) (l6 : Int32) (h : Hp), G rvV I_X6_spread 3 28 [(0, .ref l0), (1, .int l1), (2, .long l2), (4, .int l4), (5, .int l5), (6, .int l6)] [] h (K28 l0 l1 l2 l4 l5 l6 h)) (l0 : Nat) (l1 : Int32) (l2 : Int64) (l4 : Int32) (l5 : Int32) (l6 : Int32) (h : Hp) : G rvV I_X6_spread 3 28 [(0, .ref l0), (1, .int l1), (2, .long l2), (4, .int l4), (5, .int l5), (6, .int l6)] [] h (f_X6_spread_28_b F K3 K28 l0 l1 l2 l4 l5 l6 h) := by
  delta f_X6_spread_28_b
  refine g_iload 5 dX6_spread_28 rfl ?_
  refine g_aload_n 0 dX6_spread_30 rfl ?_
  refine g_getR fl_RX6_15 rfl dX6_spread_31 (fun v10 => ?_)
  refine g_getI fl_RX6_64 rfl dX6_spread_34 (fun v11 => ?_)
  refine g_icmp_ge (tgt := 65) dX6_spread_37 (by decide) (fun c12 => ?_) (fun c12 => ?_)
  · refine g_iinc (v' := l4 + 1) (lv' := [(4, .int (l4 + 1)), (0, .ref l0), (1, .int l1), (2, .long l2), (5, .int l5), (6, .int l6)]) 3 dX6_spread_65 rfl rfl (by decide) rfl ?_
    refine g_goto (tgt := 3) dX6_spread_68 (by decide) ?_
    refine G_lv [1, 2, 3, 0] rfl ?_
    exact hK3 l0 l1 l2 (l4 + 1) h
  · refine g_aload_n 0 dX6_spread_40 rfl ?_
    refine g_aload_n 0 dX6_spread_41 rfl ?_
    refine g_getR fl_RX6_15 rfl dX6_spread_42 (fun v13 => ?_)
    refine g_iload_n 1 dX6_spread_45 rfl ?_
    refine g_iload 4 dX6_spread_46 rfl ?_
    refine g_iload 3 dX6_spread_48 rfl ?_
    refine g_iload 5 dX6_spread_50 rfl ?_
    refine g_callVi (J := I_X2_afterCase) (t := 3) (As := [.int l1, .int l5, .int l4, .int l6]) (rest := [.ref l0]) mjv_X2_afterCase ml_RX6_67 ⟨rfl, by decide, by decide⟩ (by decide) rfl rfl (Nat.le_of_ble_eq_true rfl) dX6_spread_52 (T_X2_afterCase F v13 l1 l5 l4 l6 h) (fun v14 h15 => ?_)
    refine g_lload_n 2 dX6_spread_55 rfl ?_
    refine g_callVv (J := I_X6_add) (t := 7) (As := [.int v14, .long l2]) (rest := []) mjv_X6_add ml_RX6_47 ⟨rfl, by decide, by decide⟩ (by decide) rfl rfl (Nat.le_of_ble_eq_true rfl) dX6_spread_56 (T_X6_add F l0 v14 l2 h15) (fun v16 h17 => ?_)
    refine g_iinc (v' := l6 + 1) (lv' := [(6, .int (l6 + 1)), (0, .ref l0), (1, .int l1), (2, .long l2), (4, .int l4), (5, .int l5)]) 5 dX6_spread_59 rfl rfl (by decide) rfl ?_
    refine g_goto (tgt := 28) dX6_spread_62 (by decide) ?_
    refine G_lv [1, 2, 3, 4, 5, 0] rfl ?_
    exact hK28 l0 l1 l2 l4 l5 (l6 + 1) h17
set_option maxRecDepth 100000 in
noncomputable def f_X6_spread_28 (F : Nat) (K3 : Nat → Int32 → Int64 → Int32 → Hp → Option (Unit × Hp)) : Nat → Nat → Int32 → Int64 → Int32 → Int32 → Int32 → Hp → Option (Unit × Hp)
  | 0, _, _, _, _, _, _, _ => none
  | n + 1, l0, l1, l2, l4, l5, l6, h => f_X6_spread_28_b F K3 (f_X6_spread_28 F K3 n) l0 l1 l2 l4 l5 l6 h
set_option maxRecDepth 100000 in
set_option maxHeartbeats 4000000 in
theorem T_X6_spread_28 (F : Nat) {K3 : Nat → Int32 → Int64 → Int32 → Hp → Option (Unit × Hp)} (hK3 : ∀ (l0 : Nat) (l1 : Int32) (l2 : Int64) (l4 : Int32) (h : Hp), G rvV I_X6_spread 3 3 [(0, .ref l0), (1, .int l1), (2, .long l2), (4, .int l4)] [] h (K3 l0 l1 l2 l4 h)) : ∀ (n : Nat) (l0 : Nat) (l1 : Int32) (l2 : Int64) (l4 : Int32) (l5 : Int32) (l6 : Int32) (h : Hp), G rvV I_X6_spread 3 28 [(0, .ref l0), (1, .int l1), (2, .long l2), (4, .int l4), (5, .int l5), (6, .int l6)] [] h (f_X6_spread_28 F K3 n l0 l1 l2 l4 l5 l6 h) := by
  intro n
  induction n with
  | zero => intros; exact G_none
  | succ n ih => intro l0 l1 l2 l4 l5 l6 h; exact T_X6_spread_28_b F hK3 ih l0 l1 l2 l4 l5 l6 h
set_option maxRecDepth 100000 in
noncomputable def f_X6_spread_3_b (F : Nat) (K3 : Nat → Int32 → Int64 → Int32 → Hp → Option (Unit × Hp)) (l0 : Nat) (l1 : Int32) (l2 : Int64) (l4 : Int32) (h : Hp) : Option (Unit × Hp) :=
  if 2 ≤ l4 then (bd (f_X2_afterDay F l1 h) fun v2 h3 => cV 7 h3 l0 (f_X6_add F l0 v2 l2 h3) fun v4 h5 => some ((), h5)) else (gR 7 h l0 1 fun v6 => gI 7 h l0 2 fun v7 => cV 3 h v6 (f_X2_caseAt F v6 l1 v7 l4 h) fun v8 h9 => f_X6_spread_28 F K3 F l0 l1 l2 l4 v8 0 h9)
set_option maxRecDepth 100000 in
set_option maxHeartbeats 4000000 in
theorem T_X6_spread_3_b (F : Nat) {K3 : Nat → Int32 → Int64 → Int32 → Hp → Option (Unit × Hp)} (hK3 : ∀ (l0 : Nat) (l1 : Int32) (l2 : Int64) (l4 : Int32) (h : Hp), G rvV I_X6_spread 3 3 [(0, .ref l0), (1, .int l1), (2, .long l2), (4, .int l4)] [] h (K3 l0 l1 l2 l4 h)) (l0 : Nat) (l1 : Int32) (l2 : Int64) (l4 : Int32) (h : Hp) : G rvV I_X6_spread 3 3 [(0, .ref l0), (1, .int l1), (2, .long l2), (4, .int l4)] [] h (f_X6_spread_3_b F K3 l0 l1 l2 l4 h) := by
  delta f_X6_spread_3_b
  refine g_iload 3 dX6_spread_3 rfl ?_
  refine g_iconst (v := 2) dX6_spread_5 (by decide) ?_
  refine g_icmp_ge (tgt := 71) dX6_spread_6 (by decide) (fun c1 => ?_) (fun c1 => ?_)
  · refine g_aload_n 0 dX6_spread_71 rfl ?_
    refine g_iload_n 1 dX6_spread_72 rfl ?_
    refine g_callSi (J := I_X2_afterDay) (As := [.int l1]) (rest := [.ref l0]) mjs_X2_afterDay ml_RX6_71 (by decide) rfl rfl (Nat.le_of_ble_eq_true rfl) dX6_spread_73 (T_X2_afterDay F l1 h) (fun v2 h3 => ?_)
    refine g_lload_n 2 dX6_spread_76 rfl ?_
    refine g_callVv (J := I_X6_add) (t := 7) (As := [.int v2, .long l2]) (rest := []) mjv_X6_add ml_RX6_47 ⟨rfl, by decide, by decide⟩ (by decide) rfl rfl (Nat.le_of_ble_eq_true rfl) dX6_spread_77 (T_X6_add F l0 v2 l2 h3) (fun v4 h5 => ?_)
    exact g_vret rfl dX6_spread_80
  · refine g_aload_n 0 dX6_spread_9 rfl ?_
    refine g_getR fl_RX6_15 rfl dX6_spread_10 (fun v6 => ?_)
    refine g_iload_n 1 dX6_spread_13 rfl ?_
    refine g_aload_n 0 dX6_spread_14 rfl ?_
    refine g_getI fl_RX6_25 rfl dX6_spread_15 (fun v7 => ?_)
    refine g_iload 3 dX6_spread_18 rfl ?_
    refine g_callVi (J := I_X2_caseAt) (t := 3) (As := [.int l1, .int v7, .int l4]) (rest := []) mjv_X2_caseAt ml_RX6_60 ⟨rfl, by decide, by decide⟩ (by decide) rfl rfl (Nat.le_of_ble_eq_true rfl) dX6_spread_20 (T_X2_caseAt F v6 l1 v7 l4 h) (fun v8 h9 => ?_)
    refine g_istore (lv' := [(5, .int v8), (0, .ref l0), (1, .int l1), (2, .long l2), (4, .int l4)]) dX6_spread_23 (by decide) rfl ?_
    refine g_iconst (v := 0) dX6_spread_25 (by decide) ?_
    refine g_istore (lv' := [(6, .int 0), (5, .int v8), (0, .ref l0), (1, .int l1), (2, .long l2), (4, .int l4)]) dX6_spread_26 (by decide) rfl ?_
    refine G_lv [2, 3, 4, 5, 1, 0] rfl ?_
    exact T_X6_spread_28 F hK3 F l0 l1 l2 l4 v8 0 h9
set_option maxRecDepth 100000 in
noncomputable def f_X6_spread_3 (F : Nat) : Nat → Nat → Int32 → Int64 → Int32 → Hp → Option (Unit × Hp)
  | 0, _, _, _, _, _ => none
  | n + 1, l0, l1, l2, l4, h => f_X6_spread_3_b F (f_X6_spread_3 F n) l0 l1 l2 l4 h
set_option maxRecDepth 100000 in
set_option maxHeartbeats 4000000 in
theorem T_X6_spread_3 (F : Nat) : ∀ (n : Nat) (l0 : Nat) (l1 : Int32) (l2 : Int64) (l4 : Int32) (h : Hp), G rvV I_X6_spread 3 3 [(0, .ref l0), (1, .int l1), (2, .long l2), (4, .int l4)] [] h (f_X6_spread_3 F n l0 l1 l2 l4 h) := by
  intro n
  induction n with
  | zero => intros; exact G_none
  | succ n ih => intro l0 l1 l2 l4 h; exact T_X6_spread_3_b F ih l0 l1 l2 l4 h
set_option maxRecDepth 100000 in
noncomputable def f_X6_spread (F : Nat) (a0 : Nat) (a1 : Int32) (a2 : Int64) (h : Hp) : Option (Unit × Hp) :=
  f_X6_spread_3 F F a0 a1 a2 0 h
set_option maxRecDepth 100000 in
set_option maxHeartbeats 4000000 in
theorem T_X6_spread (F : Nat) (a0 : Nat) (a1 : Int32) (a2 : Int64) (h : Hp) : GM rvV I_X6_spread 3 [.ref a0, .int a1, .long a2] h (f_X6_spread F a0 a1 a2 h) := by
  delta f_X6_spread
  refine GM_of (lv := [(0, .ref a0), (1, .int a1), (2, .long a2)]) (by decide +kernel) (Nat.le_of_ble_eq_true rfl) rfl ?_
  refine g_iconst (v := 0) dX6_spread_0 (by decide) ?_
  refine g_istore (lv' := [(4, .int 0), (0, .ref a0), (1, .int a1), (2, .long a2)]) dX6_spread_1 (by decide) rfl ?_
  refine G_lv [1, 2, 3, 0] rfl ?_
  exact T_X6_spread_3 F F a0 a1 a2 0 h
set_option maxRecDepth 100000 in
noncomputable def f_X6_lengthen_52 (F : Nat) (K5 : Nat → Int32 → Hp → Option (Unit × Hp)) (l0 : Nat) (l1 : Int32) (h : Hp) : Option (Unit × Hp) :=
  K5 l0 (l1 + (-1)) h
set_option maxRecDepth 100000 in
set_option maxHeartbeats 4000000 in
theorem T_X6_lengthen_52 (F : Nat) {K5 : Nat → Int32 → Hp → Option (Unit × Hp)} (hK5 : ∀ (l0 : Nat) (l1 : Int32) (h : Hp), G rvV I_X6_lengthen 4 5 [(0, .ref l0), (1, .int l1)] [] h (K5 l0 l1 h)) (l0 : Nat) (l1 : Int32) (h : Hp) : G rvV I_X6_lengthen 4 52 [(0, .ref l0), (1, .int l1)] [] h (f_X6_lengthen_52 F K5 l0 l1 h) := by
  delta f_X6_lengthen_52
  refine g_iinc (v' := l1 + (-1)) (lv' := [(1, .int (l1 + (-1))), (0, .ref l0)]) 1 dX6_lengthen_52 rfl rfl (by decide) rfl ?_
  refine g_goto (tgt := 5) dX6_lengthen_55 (by decide) ?_
  refine G_lv [1, 0] rfl ?_
  exact hK5 l0 (l1 + (-1)) h
set_option maxRecDepth 100000 in
noncomputable def f_X6_lengthen_5_b (F : Nat) (K5 : Nat → Int32 → Hp → Option (Unit × Hp)) (l0 : Nat) (l1 : Int32) (h : Hp) : Option (Unit × Hp) :=
  gI 7 h l0 3 fun v2 => if l1 < v2 then (some ((), h)) else (if l1 < 0 then (some ((), h)) else (gR 7 h l0 0 fun v5 => al 23 h v5 fun v6 => if v6 ≤ l1 then (some ((), h)) else (gR 7 h l0 0 fun v8 => aL h v8 l1 fun v9 => if ((v9 : Int64) = 0 : Prop) then (f_X6_lengthen_52 F K5 l0 l1 h) else (gR 7 h l0 0 fun v11 => wL h v11 l1 0 fun h12 => cV 7 h12 l0 (f_X6_spread F l0 l1 v9 h12) fun v13 h14 => f_X6_lengthen_52 F K5 l0 l1 h14))))
set_option maxRecDepth 100000 in
set_option maxHeartbeats 4000000 in
theorem T_X6_lengthen_5_b (F : Nat) {K5 : Nat → Int32 → Hp → Option (Unit × Hp)} (hK5 : ∀ (l0 : Nat) (l1 : Int32) (h : Hp), G rvV I_X6_lengthen 4 5 [(0, .ref l0), (1, .int l1)] [] h (K5 l0 l1 h)) (l0 : Nat) (l1 : Int32) (h : Hp) : G rvV I_X6_lengthen 4 5 [(0, .ref l0), (1, .int l1)] [] h (f_X6_lengthen_5_b F K5 l0 l1 h) := by
  delta f_X6_lengthen_5_b
  refine g_iload_n 1 dX6_lengthen_5 rfl ?_
  refine g_aload_n 0 dX6_lengthen_6 rfl ?_
  refine g_getI fl_RX6_41 rfl dX6_lengthen_7 (fun v2 => ?_)
  refine g_icmp_lt (tgt := 58) dX6_lengthen_10 (by decide) (fun c3 => ?_) (fun c3 => ?_)
  · exact g_vret rfl dX6_lengthen_58
  · refine g_iload_n 1 dX6_lengthen_13 rfl ?_
    refine g_if_lt (tgt := 58) dX6_lengthen_14 (by decide) (fun c4 => ?_) (fun c4 => ?_)
    · exact g_vret rfl dX6_lengthen_58
    · refine g_iload_n 1 dX6_lengthen_17 rfl ?_
      refine g_aload_n 0 dX6_lengthen_18 rfl ?_
      refine g_getR fl_RX6_9 rfl dX6_lengthen_19 (fun v5 => ?_)
      refine g_alen (by decide) (by decide) dX6_lengthen_22 (fun v6 => ?_)
      refine g_icmp_ge (tgt := 58) dX6_lengthen_23 (by decide) (fun c7 => ?_) (fun c7 => ?_)
      · exact g_vret rfl dX6_lengthen_58
      · refine g_aload_n 0 dX6_lengthen_26 rfl ?_
        refine g_getR fl_RX6_9 rfl dX6_lengthen_27 (fun v8 => ?_)
        refine g_iload_n 1 dX6_lengthen_30 rfl ?_
        refine g_lald dX6_lengthen_31 (fun v9 => ?_)
        refine g_lstore_n (lv' := [(2, .long v9), (0, .ref l0), (1, .int l1)]) dX6_lengthen_32 (by decide) rfl ?_
        refine g_lload_n 0 dX6_lengthen_33 rfl ?_
        refine g_lconst (v := 0) dX6_lengthen_34 (by decide) ?_
        refine g_lc_eq (x := v9) (y := 0) (tgt := 52) dX6_lengthen_35 dX6_lengthen_36 (by decide) (fun c10 => ?_) (fun c10 => ?_)
        · refine G_lv [1, 2] rfl ?_
          exact T_X6_lengthen_52 F hK5 l0 l1 h
        · refine g_aload_n 1 dX6_lengthen_39 rfl ?_
          refine g_getR fl_RX6_9 rfl dX6_lengthen_40 (fun v11 => ?_)
          refine g_iload_n 2 dX6_lengthen_43 rfl ?_
          refine g_lconst (v := 0) dX6_lengthen_44 (by decide) ?_
          refine g_last dX6_lengthen_45 (fun h12 => ?_)
          refine g_aload_n 1 dX6_lengthen_46 rfl ?_
          refine g_iload_n 2 dX6_lengthen_47 rfl ?_
          refine g_lload_n 0 dX6_lengthen_48 rfl ?_
          refine g_callVv (J := I_X6_spread) (t := 7) (As := [.int l1, .long v9]) (rest := []) mjv_X6_spread ml_RX6_57 ⟨rfl, by decide, by decide⟩ (by decide) rfl rfl (Nat.le_of_ble_eq_true rfl) dX6_lengthen_49 (T_X6_spread F l0 l1 v9 h12) (fun v13 h14 => ?_)
          refine G_lv [1, 2] rfl ?_
          exact T_X6_lengthen_52 F hK5 l0 l1 h14
set_option maxRecDepth 100000 in
noncomputable def f_X6_lengthen_5 (F : Nat) : Nat → Nat → Int32 → Hp → Option (Unit × Hp)
  | 0, _, _, _ => none
  | n + 1, l0, l1, h => f_X6_lengthen_5_b F (f_X6_lengthen_5 F n) l0 l1 h
set_option maxRecDepth 100000 in
set_option maxHeartbeats 4000000 in
theorem T_X6_lengthen_5 (F : Nat) : ∀ (n : Nat) (l0 : Nat) (l1 : Int32) (h : Hp), G rvV I_X6_lengthen 4 5 [(0, .ref l0), (1, .int l1)] [] h (f_X6_lengthen_5 F n l0 l1 h) := by
  intro n
  induction n with
  | zero => intros; exact G_none
  | succ n ih => intro l0 l1 h; exact T_X6_lengthen_5_b F ih l0 l1 h
set_option maxRecDepth 100000 in
noncomputable def f_X6_lengthen (F : Nat) (a0 : Nat) (h : Hp) : Option (Unit × Hp) :=
  gI 7 h a0 4 fun v1 => f_X6_lengthen_5 F F a0 v1 h
set_option maxRecDepth 100000 in
set_option maxHeartbeats 4000000 in
theorem T_X6_lengthen (F : Nat) (a0 : Nat) (h : Hp) : GM rvV I_X6_lengthen 4 [.ref a0] h (f_X6_lengthen F a0 h) := by
  delta f_X6_lengthen
  refine GM_of (lv := [(0, .ref a0)]) (by decide +kernel) (Nat.le_of_ble_eq_true rfl) rfl ?_
  refine g_aload_n 0 dX6_lengthen_0 rfl ?_
  refine g_getI fl_RX6_44 rfl dX6_lengthen_1 (fun v1 => ?_)
  refine g_istore_n (lv' := [(1, .int v1), (0, .ref a0)]) dX6_lengthen_4 (by decide) rfl ?_
  refine G_lv [1, 0] rfl ?_
  exact T_X6_lengthen_5 F F a0 v1 h
set_option maxRecDepth 100000 in
noncomputable def f_X11_rows_48_b (F : Nat) (K48 : Nat → Int32 → Int32 → Int32 → Int32 → Hp → Option (Int64 × Hp)) (l0 : Nat) (l1 : Int32) (l2 : Int32) (l3 : Int32) (l4 : Int32) (h : Hp) : Option (Int64 × Hp) :=
  if l3 ≤ l4 then (gR 12 h l0 13 fun v15 => cV 7 h v15 (f_X6_atGoal F v15 l1 l2 h) fun v16 h17 => some (v16, h17)) else (gR 12 h l0 13 fun v18 => cV 7 h v18 (f_X6_lengthen F v18 h) fun v19 h20 => K48 l0 l1 l2 l3 (l4 + 1) h20)
set_option maxRecDepth 100000 in
set_option maxHeartbeats 4000000 in
theorem T_X11_rows_48_b (F : Nat) {K48 : Nat → Int32 → Int32 → Int32 → Int32 → Hp → Option (Int64 × Hp)} (hK48 : ∀ (l0 : Nat) (l1 : Int32) (l2 : Int32) (l3 : Int32) (l4 : Int32) (h : Hp), G rvL I_X11_rows 5 48 [(0, .ref l0), (1, .int l1), (2, .int l2), (3, .int l3), (4, .int l4)] [] h (K48 l0 l1 l2 l3 l4 h)) (l0 : Nat) (l1 : Int32) (l2 : Int32) (l3 : Int32) (l4 : Int32) (h : Hp) : G rvL I_X11_rows 5 48 [(0, .ref l0), (1, .int l1), (2, .int l2), (3, .int l3), (4, .int l4)] [] h (f_X11_rows_48_b F K48 l0 l1 l2 l3 l4 h) := by
  delta f_X11_rows_48_b
  refine g_iload 4 dX11_rows_48 rfl ?_
  refine g_iload_n 3 dX11_rows_50 rfl ?_
  refine g_icmp_ge (tgt := 67) dX11_rows_51 (by decide) (fun c14 => ?_) (fun c14 => ?_)
  · refine g_aload_n 0 dX11_rows_67 rfl ?_
    refine g_getR fl_RX11_76 rfl dX11_rows_68 (fun v15 => ?_)
    refine g_iload_n 1 dX11_rows_71 rfl ?_
    refine g_iload_n 2 dX11_rows_72 rfl ?_
    refine g_callVl (J := I_X6_atGoal) (t := 7) (As := [.int l1, .int l2]) (rest := []) mjv_X6_atGoal ml_RX11_273 ⟨rfl, by decide, by decide⟩ (by decide) rfl rfl (Nat.le_of_ble_eq_true rfl) dX11_rows_73 (T_X6_atGoal F v15 l1 l2 h) (fun v16 h17 => ?_)
    exact g_lret rfl dX11_rows_76
  · refine g_aload_n 0 dX11_rows_54 rfl ?_
    refine g_getR fl_RX11_76 rfl dX11_rows_55 (fun v18 => ?_)
    refine g_callVv (J := I_X6_lengthen) (t := 7) (As := []) (rest := []) mjv_X6_lengthen ml_RX11_270 ⟨rfl, by decide, by decide⟩ (by decide) rfl rfl (Nat.le_of_ble_eq_true rfl) dX11_rows_58 (T_X6_lengthen F v18 h) (fun v19 h20 => ?_)
    refine g_iinc (v' := l4 + 1) (lv' := [(4, .int (l4 + 1)), (0, .ref l0), (1, .int l1), (2, .int l2), (3, .int l3)]) 4 dX11_rows_61 rfl rfl (by decide) rfl ?_
    refine g_goto (tgt := 48) dX11_rows_64 (by decide) ?_
    refine G_lv [1, 2, 3, 4, 0] rfl ?_
    exact hK48 l0 l1 l2 l3 (l4 + 1) h20
set_option maxRecDepth 100000 in
noncomputable def f_X11_rows_48 (F : Nat) : Nat → Nat → Int32 → Int32 → Int32 → Int32 → Hp → Option (Int64 × Hp)
  | 0, _, _, _, _, _, _ => none
  | n + 1, l0, l1, l2, l3, l4, h => f_X11_rows_48_b F (f_X11_rows_48 F n) l0 l1 l2 l3 l4 h
set_option maxRecDepth 100000 in
set_option maxHeartbeats 4000000 in
theorem T_X11_rows_48 (F : Nat) : ∀ (n : Nat) (l0 : Nat) (l1 : Int32) (l2 : Int32) (l3 : Int32) (l4 : Int32) (h : Hp), G rvL I_X11_rows 5 48 [(0, .ref l0), (1, .int l1), (2, .int l2), (3, .int l3), (4, .int l4)] [] h (f_X11_rows_48 F n l0 l1 l2 l3 l4 h) := by
  intro n
  induction n with
  | zero => intros; exact G_none
  | succ n ih => intro l0 l1 l2 l3 l4 h; exact T_X11_rows_48_b F ih l0 l1 l2 l3 l4 h
set_option maxRecDepth 100000 in
noncomputable def f_X11_rows (F : Nat) (a0 : Nat) (a1 : Int32) (a2 : Int32) (a3 : Int32) (h : Hp) : Option (Int64 × Hp) :=
  cV 12 h a0 (f_X11_noSet F a0 a1 h) fun v1 h2 => if v1 = 0 then (cV 12 h2 a0 (f_X11_noSet F a0 a2 h2) fun v4 h5 => if v4 = 0 then (if a3 < 0 then (some ((-3), h5)) else (if a3 ≤ 12 then (gR 12 h5 a0 13 fun v9 => gR 12 h5 a0 3 fun v10 => gR 12 h5 a0 5 fun v11 => cV 7 h5 v9 (f_X6_begin F v9 v10 v11 h5) fun v12 h13 => f_X11_rows_48 F F a0 a1 a2 a3 0 h13) else (some ((-3), h5)))) else (some ((-3), h5))) else (some ((-3), h2))
set_option maxRecDepth 100000 in
set_option maxHeartbeats 4000000 in
theorem T_X11_rows (F : Nat) (a0 : Nat) (a1 : Int32) (a2 : Int32) (a3 : Int32) (h : Hp) : GM rvL I_X11_rows 5 [.ref a0, .int a1, .int a2, .int a3] h (f_X11_rows F a0 a1 a2 a3 h) := by
  delta f_X11_rows
  refine GM_of (lv := [(0, .ref a0), (1, .int a1), (2, .int a2), (3, .int a3)]) (by decide +kernel) (Nat.le_of_ble_eq_true rfl) rfl ?_
  refine g_aload_n 0 dX11_rows_0 rfl ?_
  refine g_iload_n 1 dX11_rows_1 rfl ?_
  refine g_callVi (J := I_X11_noSet) (t := 12) (As := [.int a1]) (rest := []) mjv_X11_noSet ml_RX11_237 ⟨rfl, by decide, by decide⟩ (by decide) rfl rfl (Nat.le_of_ble_eq_true rfl) dX11_rows_2 (T_X11_noSet F a0 a1 h) (fun v1 h2 => ?_)
  refine g_if_ne (tgt := 26) dX11_rows_5 (by decide) (fun c3 => ?_) (fun c3 => ?_)
  · refine g_aload_n 0 dX11_rows_8 rfl ?_
    refine g_iload_n 2 dX11_rows_9 rfl ?_
    refine g_callVi (J := I_X11_noSet) (t := 12) (As := [.int a2]) (rest := []) mjv_X11_noSet ml_RX11_237 ⟨rfl, by decide, by decide⟩ (by decide) rfl rfl (Nat.le_of_ble_eq_true rfl) dX11_rows_10 (T_X11_noSet F a0 a2 h2) (fun v4 h5 => ?_)
    refine g_if_ne (tgt := 26) dX11_rows_13 (by decide) (fun c6 => ?_) (fun c6 => ?_)
    · refine g_iload_n 3 dX11_rows_16 rfl ?_
      refine g_if_lt (tgt := 26) dX11_rows_17 (by decide) (fun c7 => ?_) (fun c7 => ?_)
      · refine g_ldc2 (v := (-3)) dX11_rows_26 cl_RX11_265 ?_
        exact g_lret rfl dX11_rows_29
      · refine g_iload_n 3 dX11_rows_20 rfl ?_
        refine g_bipush (v := 12) dX11_rows_21 (by decide) ?_
        refine g_icmp_le (tgt := 30) dX11_rows_23 (by decide) (fun c8 => ?_) (fun c8 => ?_)
        · refine g_aload_n 0 dX11_rows_30 rfl ?_
          refine g_getR fl_RX11_76 rfl dX11_rows_31 (fun v9 => ?_)
          refine g_aload_n 0 dX11_rows_34 rfl ?_
          refine g_getR fl_RX11_20 rfl dX11_rows_35 (fun v10 => ?_)
          refine g_aload_n 0 dX11_rows_38 rfl ?_
          refine g_getR fl_RX11_36 rfl dX11_rows_39 (fun v11 => ?_)
          refine g_callVv (J := I_X6_begin) (t := 7) (As := [.ref v10, .ref v11]) (rest := []) mjv_X6_begin ml_RX11_267 ⟨rfl, by decide, by decide⟩ (by decide) rfl rfl (Nat.le_of_ble_eq_true rfl) dX11_rows_42 (T_X6_begin F v9 v10 v11 h5) (fun v12 h13 => ?_)
          refine g_iconst (v := 0) dX11_rows_45 (by decide) ?_
          refine g_istore (lv' := [(4, .int 0), (0, .ref a0), (1, .int a1), (2, .int a2), (3, .int a3)]) dX11_rows_46 (by decide) rfl ?_
          refine G_lv [1, 2, 3, 4, 0] rfl ?_
          exact T_X11_rows_48 F F a0 a1 a2 a3 0 h13
        · refine g_ldc2 (v := (-3)) dX11_rows_26 cl_RX11_265 ?_
          exact g_lret rfl dX11_rows_29
    · refine g_ldc2 (v := (-3)) dX11_rows_26 cl_RX11_265 ?_
      exact g_lret rfl dX11_rows_29
  · refine g_ldc2 (v := (-3)) dX11_rows_26 cl_RX11_265 ?_
    exact g_lret rfl dX11_rows_29
set_option maxRecDepth 100000 in
noncomputable def f_X11_secret_68 (F : Nat) (K15 : Nat → Int32 → Int32 → Int32 → Hp → Option (Int32 × Hp)) (l0 : Nat) (l1 : Int32) (l2 : Int32) (l3 : Int32) (h : Hp) : Option (Int32 × Hp) :=
  K15 l0 l1 l2 (l3 + 1) h
set_option maxRecDepth 100000 in
set_option maxHeartbeats 4000000 in
theorem T_X11_secret_68 (F : Nat) {K15 : Nat → Int32 → Int32 → Int32 → Hp → Option (Int32 × Hp)} (hK15 : ∀ (l0 : Nat) (l1 : Int32) (l2 : Int32) (l3 : Int32) (h : Hp), G rvI I_X11_secret 4 15 [(0, .ref l0), (1, .int l1), (2, .int l2), (3, .int l3)] [] h (K15 l0 l1 l2 l3 h)) (l0 : Nat) (l1 : Int32) (l2 : Int32) (l3 : Int32) (h : Hp) : G rvI I_X11_secret 4 68 [(0, .ref l0), (1, .int l1), (2, .int l2), (3, .int l3)] [] h (f_X11_secret_68 F K15 l0 l1 l2 l3 h) := by
  delta f_X11_secret_68
  refine g_iinc (v' := l3 + 1) (lv' := [(3, .int (l3 + 1)), (0, .ref l0), (1, .int l1), (2, .int l2)]) 3 dX11_secret_68 rfl rfl (by decide) rfl ?_
  refine g_goto (tgt := 15) dX11_secret_71 (by decide) ?_
  refine G_lv [1, 2, 3, 0] rfl ?_
  exact hK15 l0 l1 l2 (l3 + 1) h
set_option maxRecDepth 100000 in
noncomputable def f_X11_secret_15_b (F : Nat) (K15 : Nat → Int32 → Int32 → Int32 → Hp → Option (Int32 × Hp)) (l0 : Nat) (l1 : Int32) (l2 : Int32) (l3 : Int32) (h : Hp) : Option (Int32 × Hp) :=
  if 2 ≤ l3 then (some (l2, h)) else (gR 12 h l0 3 fun v5 => gR 12 h l0 5 fun v6 => gI 9 h v6 0 fun v7 => gR 12 h l0 5 fun v8 => gI 9 h v8 1 fun v9 => cV 3 h v5 (f_X2_afterTelling F v5 v7 v9 l3 l1 h) fun v10 h11 => if v10 < 0 then (f_X11_secret_68 F K15 l0 l1 l2 l3 h11) else (bd (f_X2_ageIn F v10 (1 - l3) l1 h11) fun v13 h14 => if v13 = 0 then (lt (l2 ||| ((1 : Int32) <<< (l3 &&& 31))) fun x16 => f_X11_secret_68 F K15 l0 l1 x16 l3 h14) else (f_X11_secret_68 F K15 l0 l1 l2 l3 h14)))
set_option maxRecDepth 100000 in
set_option maxHeartbeats 4000000 in
theorem T_X11_secret_15_b (F : Nat) {K15 : Nat → Int32 → Int32 → Int32 → Hp → Option (Int32 × Hp)} (hK15 : ∀ (l0 : Nat) (l1 : Int32) (l2 : Int32) (l3 : Int32) (h : Hp), G rvI I_X11_secret 4 15 [(0, .ref l0), (1, .int l1), (2, .int l2), (3, .int l3)] [] h (K15 l0 l1 l2 l3 h)) (l0 : Nat) (l1 : Int32) (l2 : Int32) (l3 : Int32) (h : Hp) : G rvI I_X11_secret 4 15 [(0, .ref l0), (1, .int l1), (2, .int l2), (3, .int l3)] [] h (f_X11_secret_15_b F K15 l0 l1 l2 l3 h) := by
  delta f_X11_secret_15_b
  refine g_iload_n 3 dX11_secret_15 rfl ?_
  refine g_iconst (v := 2) dX11_secret_16 (by decide) ?_
  refine g_icmp_ge (tgt := 74) dX11_secret_17 (by decide) (fun c4 => ?_) (fun c4 => ?_)
  · refine g_iload_n 2 dX11_secret_74 rfl ?_
    exact g_iret rfl dX11_secret_75
  · refine g_aload_n 0 dX11_secret_20 rfl ?_
    refine g_getR fl_RX11_20 rfl dX11_secret_21 (fun v5 => ?_)
    refine g_aload_n 0 dX11_secret_24 rfl ?_
    refine g_getR fl_RX11_36 rfl dX11_secret_25 (fun v6 => ?_)
    refine g_getI fl_RX11_127 rfl dX11_secret_28 (fun v7 => ?_)
    refine g_aload_n 0 dX11_secret_31 rfl ?_
    refine g_getR fl_RX11_36 rfl dX11_secret_32 (fun v8 => ?_)
    refine g_getI fl_RX11_133 rfl dX11_secret_35 (fun v9 => ?_)
    refine g_iload_n 3 dX11_secret_38 rfl ?_
    refine g_iload_n 1 dX11_secret_39 rfl ?_
    refine g_callVi (J := I_X2_afterTelling) (t := 3) (As := [.int v7, .int v9, .int l3, .int l1]) (rest := []) mjv_X2_afterTelling ml_RX11_177 ⟨rfl, by decide, by decide⟩ (by decide) rfl rfl (Nat.le_of_ble_eq_true rfl) dX11_secret_40 (T_X2_afterTelling F v5 v7 v9 l3 l1 h) (fun v10 h11 => ?_)
    refine g_istore (lv' := [(4, .int v10), (0, .ref l0), (1, .int l1), (2, .int l2), (3, .int l3)]) dX11_secret_43 (by decide) rfl ?_
    refine g_iload 0 dX11_secret_45 rfl ?_
    refine g_if_lt (tgt := 68) dX11_secret_47 (by decide) (fun c12 => ?_) (fun c12 => ?_)
    · refine G_lv [1, 2, 3, 4] rfl ?_
      exact T_X11_secret_68 F hK15 l0 l1 l2 l3 h11
    · refine g_iload 0 dX11_secret_50 rfl ?_
      refine g_iconst (v := 1) dX11_secret_52 (by decide) ?_
      refine g_iload_n 4 dX11_secret_53 rfl ?_
      refine g_isub dX11_secret_54 ?_
      refine g_iload_n 2 dX11_secret_55 rfl ?_
      refine g_callSi (J := I_X2_ageIn) (As := [.int v10, .int (1 - l3), .int l1]) (rest := []) mjs_X2_ageIn ml_RX11_156 (by decide) rfl rfl (Nat.le_of_ble_eq_true rfl) dX11_secret_56 (T_X2_ageIn F v10 (1 - l3) l1 h11) (fun v13 h14 => ?_)
      refine g_if_ne (tgt := 68) dX11_secret_59 (by decide) (fun c15 => ?_) (fun c15 => ?_)
      · refine g_iload_n 3 dX11_secret_62 rfl ?_
        refine g_iconst (v := 1) dX11_secret_63 (by decide) ?_
        refine g_iload_n 4 dX11_secret_64 rfl ?_
        refine g_ishl dX11_secret_65 ?_
        refine g_ior dX11_secret_66 ?_
        refine G_lti (fun x16 => ?_)
        refine g_istore_n (lv' := [(2, .int x16), (4, .int v10), (0, .ref l0), (1, .int l1), (3, .int l3)]) dX11_secret_67 (by decide) rfl ?_
        refine G_lv [2, 3, 0, 4] rfl ?_
        exact T_X11_secret_68 F hK15 l0 l1 x16 l3 h14
      · refine G_lv [1, 2, 3, 4] rfl ?_
        exact T_X11_secret_68 F hK15 l0 l1 l2 l3 h14
set_option maxRecDepth 100000 in
noncomputable def f_X11_secret_15 (F : Nat) : Nat → Nat → Int32 → Int32 → Int32 → Hp → Option (Int32 × Hp)
  | 0, _, _, _, _, _ => none
  | n + 1, l0, l1, l2, l3, h => f_X11_secret_15_b F (f_X11_secret_15 F n) l0 l1 l2 l3 h
set_option maxRecDepth 100000 in
set_option maxHeartbeats 4000000 in
theorem T_X11_secret_15 (F : Nat) : ∀ (n : Nat) (l0 : Nat) (l1 : Int32) (l2 : Int32) (l3 : Int32) (h : Hp), G rvI I_X11_secret 4 15 [(0, .ref l0), (1, .int l1), (2, .int l2), (3, .int l3)] [] h (f_X11_secret_15 F n l0 l1 l2 l3 h) := by
  intro n
  induction n with
  | zero => intros; exact G_none
  | succ n ih => intro l0 l1 l2 l3 h; exact T_X11_secret_15_b F ih l0 l1 l2 l3 h
set_option maxRecDepth 100000 in
noncomputable def f_X11_secret (F : Nat) (a0 : Nat) (a1 : Int32) (h : Hp) : Option (Int32 × Hp) :=
  cV 12 h a0 (f_X11_noFact F a0 a1 h) fun v1 h2 => if v1 = 0 then (f_X11_secret_15 F F a0 a1 0 0 h2) else (some ((-2), h2))
set_option maxRecDepth 100000 in
set_option maxHeartbeats 4000000 in
theorem T_X11_secret (F : Nat) (a0 : Nat) (a1 : Int32) (h : Hp) : GM rvI I_X11_secret 4 [.ref a0, .int a1] h (f_X11_secret F a0 a1 h) := by
  delta f_X11_secret
  refine GM_of (lv := [(0, .ref a0), (1, .int a1)]) (by decide +kernel) (Nat.le_of_ble_eq_true rfl) rfl ?_
  refine g_aload_n 0 dX11_secret_0 rfl ?_
  refine g_iload_n 1 dX11_secret_1 rfl ?_
  refine g_callVi (J := I_X11_noFact) (t := 12) (As := [.int a1]) (rest := []) mjv_X11_noFact ml_RX11_153 ⟨rfl, by decide, by decide⟩ (by decide) rfl rfl (Nat.le_of_ble_eq_true rfl) dX11_secret_2 (T_X11_noFact F a0 a1 h) (fun v1 h2 => ?_)
  refine g_if_eq (tgt := 11) dX11_secret_5 (by decide) (fun c3 => ?_) (fun c3 => ?_)
  · refine g_iconst (v := 0) dX11_secret_11 (by decide) ?_
    refine g_istore_n (lv' := [(2, .int 0), (0, .ref a0), (1, .int a1)]) dX11_secret_12 (by decide) rfl ?_
    refine g_iconst (v := 0) dX11_secret_13 (by decide) ?_
    refine g_istore_n (lv' := [(3, .int 0), (2, .int 0), (0, .ref a0), (1, .int a1)]) dX11_secret_14 (by decide) rfl ?_
    refine G_lv [2, 3, 1, 0] rfl ?_
    exact T_X11_secret_15 F F a0 a1 0 0 h2
  · refine g_bipush (v := (-2)) dX11_secret_8 (by decide) ?_
    exact g_iret rfl dX11_secret_10
set_option maxRecDepth 100000 in
noncomputable def f_X11_soonest (F : Nat) (a0 : Nat) (a1 : Int32) (a2 : Int32) (h : Hp) : Option (Int32 × Hp) :=
  cV 12 h a0 (f_X11_noSet F a0 a1 h) fun v1 h2 => if v1 = 0 then (cV 12 h2 a0 (f_X11_noSet F a0 a2 h2) fun v4 h5 => if v4 = 0 then (cV 12 h5 a0 (f_X11_endOfComing F a0 a1 a2 h5) fun v7 h8 => if 0 ≤ v7 then (gR 12 h8 a0 11 fun v10 => cV 8 h8 v10 (f_X7_stepsTo F v10 v7 h8) fun v11 h12 => some (v11, h12)) else (some ((-1), h8))) else (some ((-3), h5))) else (some ((-3), h2))
set_option maxRecDepth 100000 in
set_option maxHeartbeats 4000000 in
theorem T_X11_soonest (F : Nat) (a0 : Nat) (a1 : Int32) (a2 : Int32) (h : Hp) : GM rvI I_X11_soonest 7 [.ref a0, .int a1, .int a2] h (f_X11_soonest F a0 a1 a2 h) := by
  delta f_X11_soonest
  refine GM_of (lv := [(0, .ref a0), (1, .int a1), (2, .int a2)]) (by decide +kernel) (Nat.le_of_ble_eq_true rfl) rfl ?_
  refine g_aload_n 0 dX11_soonest_0 rfl ?_
  refine g_iload_n 1 dX11_soonest_1 rfl ?_
  refine g_callVi (J := I_X11_noSet) (t := 12) (As := [.int a1]) (rest := []) mjv_X11_noSet ml_RX11_237 ⟨rfl, by decide, by decide⟩ (by decide) rfl rfl (Nat.le_of_ble_eq_true rfl) dX11_soonest_2 (T_X11_noSet F a0 a1 h) (fun v1 h2 => ?_)
  refine g_if_ne (tgt := 16) dX11_soonest_5 (by decide) (fun c3 => ?_) (fun c3 => ?_)
  · refine g_aload_n 0 dX11_soonest_8 rfl ?_
    refine g_iload_n 2 dX11_soonest_9 rfl ?_
    refine g_callVi (J := I_X11_noSet) (t := 12) (As := [.int a2]) (rest := []) mjv_X11_noSet ml_RX11_237 ⟨rfl, by decide, by decide⟩ (by decide) rfl rfl (Nat.le_of_ble_eq_true rfl) dX11_soonest_10 (T_X11_noSet F a0 a2 h2) (fun v4 h5 => ?_)
    refine g_if_eq (tgt := 19) dX11_soonest_13 (by decide) (fun c6 => ?_) (fun c6 => ?_)
    · refine g_aload_n 0 dX11_soonest_19 rfl ?_
      refine g_iload_n 1 dX11_soonest_20 rfl ?_
      refine g_iload_n 2 dX11_soonest_21 rfl ?_
      refine g_callVi (J := I_X11_endOfComing) (t := 12) (As := [.int a1, .int a2]) (rest := []) mjv_X11_endOfComing ml_RX11_240 ⟨rfl, by decide, by decide⟩ (by decide) rfl rfl (Nat.le_of_ble_eq_true rfl) dX11_soonest_22 (T_X11_endOfComing F a0 a1 a2 h5) (fun v7 h8 => ?_)
      refine g_istore_n (lv' := [(3, .int v7), (0, .ref a0), (1, .int a1), (2, .int a2)]) dX11_soonest_25 (by decide) rfl ?_
      refine g_iload_n 0 dX11_soonest_26 rfl ?_
      refine g_if_ge (tgt := 34) dX11_soonest_27 (by decide) (fun c9 => ?_) (fun c9 => ?_)
      · refine g_aload_n 1 dX11_soonest_34 rfl ?_
        refine g_getR fl_RX11_66 rfl dX11_soonest_35 (fun v10 => ?_)
        refine g_iload_n 0 dX11_soonest_38 rfl ?_
        refine g_callVi (J := I_X7_stepsTo) (t := 8) (As := [.int v7]) (rest := []) mjv_X7_stepsTo ml_RX11_243 ⟨rfl, by decide, by decide⟩ (by decide) rfl rfl (Nat.le_of_ble_eq_true rfl) dX11_soonest_39 (T_X7_stepsTo F v10 v7 h8) (fun v11 h12 => ?_)
        exact g_iret rfl dX11_soonest_42
      · refine g_iconst (v := (-1)) dX11_soonest_30 (by decide) ?_
        refine g_goto (tgt := 42) dX11_soonest_31 (by decide) ?_
        exact g_iret rfl dX11_soonest_42
    · refine g_bipush (v := (-3)) dX11_soonest_16 (by decide) ?_
      exact g_iret rfl dX11_soonest_18
  · refine g_bipush (v := (-3)) dX11_soonest_16 (by decide) ?_
    exact g_iret rfl dX11_soonest_18
set_option maxRecDepth 100000 in
noncomputable def f_X11_stands (F : Nat) (a0 : Nat) (h : Hp) : Option (Int32 × Hp) :=
  gR 12 h a0 11 fun v1 => gR 12 h a0 3 fun v2 => gR 12 h a0 5 fun v3 => cV 8 h v1 (f_X7_begin F v1 v2 v3 (-1) (-1) h) fun v4 h5 => gR 12 h5 a0 11 fun v6 => cV 8 h5 v6 (f_X7_findAll F v6 h5) fun v7 h8 => some (v7, h8)
set_option maxRecDepth 100000 in
set_option maxHeartbeats 4000000 in
theorem T_X11_stands (F : Nat) (a0 : Nat) (h : Hp) : GM rvI I_X11_stands 6 [.ref a0] h (f_X11_stands F a0 h) := by
  delta f_X11_stands
  refine GM_of (lv := [(0, .ref a0)]) (by decide +kernel) (Nat.le_of_ble_eq_true rfl) rfl ?_
  refine g_aload_n 0 dX11_stands_0 rfl ?_
  refine g_getR fl_RX11_66 rfl dX11_stands_1 (fun v1 => ?_)
  refine g_aload_n 0 dX11_stands_4 rfl ?_
  refine g_getR fl_RX11_20 rfl dX11_stands_5 (fun v2 => ?_)
  refine g_aload_n 0 dX11_stands_8 rfl ?_
  refine g_getR fl_RX11_36 rfl dX11_stands_9 (fun v3 => ?_)
  refine g_iconst (v := (-1)) dX11_stands_12 (by decide) ?_
  refine g_iconst (v := (-1)) dX11_stands_13 (by decide) ?_
  refine g_callVv (J := I_X7_begin) (t := 8) (As := [.ref v2, .ref v3, .int (-1), .int (-1)]) (rest := []) mjv_X7_begin ml_RX11_252 ⟨rfl, by decide, by decide⟩ (by decide) rfl rfl (Nat.le_of_ble_eq_true rfl) dX11_stands_14 (T_X7_begin F v1 v2 v3 (-1) (-1) h) (fun v4 h5 => ?_)
  refine g_aload_n 0 dX11_stands_17 rfl ?_
  refine g_getR fl_RX11_66 rfl dX11_stands_18 (fun v6 => ?_)
  refine g_callVi (J := I_X7_findAll) (t := 8) (As := []) (rest := []) mjv_X7_findAll ml_RX11_281 ⟨rfl, by decide, by decide⟩ (by decide) rfl rfl (Nat.le_of_ble_eq_true rfl) dX11_stands_21 (T_X7_findAll F v6 h5) (fun v7 h8 => ?_)
  exact g_iret rfl dX11_stands_24
set_option maxRecDepth 100000 in
noncomputable def f_X10_weigh_58 (F : Nat) (l0 : Nat) (l2 : Int32) (l3 : Int32) (h : Hp) : Option (Unit × Hp) :=
  gI 11 h l0 2 fun v15 => pI 11 h l0 2 (v15 &&& l3) fun h16 => gI 11 h16 l0 3 fun v17 => pI 11 h16 l0 3 (v17 &&& l2) fun h18 => gI 11 h18 l0 0 fun v19 => pI 11 h18 l0 0 (v19 + 1) fun h20 => some ((), h20)
set_option maxRecDepth 100000 in
set_option maxHeartbeats 4000000 in
theorem T_X10_weigh_58 (F : Nat) (l0 : Nat) (l2 : Int32) (l3 : Int32) (h : Hp) : G rvV I_X10_weigh 3 58 [(0, .ref l0), (2, .int l2), (3, .int l3)] [] h (f_X10_weigh_58 F l0 l2 l3 h) := by
  delta f_X10_weigh_58
  refine g_aload_n 0 dX10_weigh_58 rfl ?_
  refine g_dup dX10_weigh_59 rfl ?_
  refine g_getI fl_RX10_41 rfl dX10_weigh_60 (fun v15 => ?_)
  refine g_iload_n 2 dX10_weigh_63 rfl ?_
  refine g_iand dX10_weigh_64 ?_
  refine g_putI fl_RX10_41 (Or.inl rfl) dX10_weigh_65 (fun h16 => ?_)
  refine g_aload_n 0 dX10_weigh_68 rfl ?_
  refine g_dup dX10_weigh_69 rfl ?_
  refine g_getI fl_RX10_44 rfl dX10_weigh_70 (fun v17 => ?_)
  refine g_iload_n 1 dX10_weigh_73 rfl ?_
  refine g_iand dX10_weigh_74 ?_
  refine g_putI fl_RX10_44 (Or.inl rfl) dX10_weigh_75 (fun h18 => ?_)
  refine g_aload_n 0 dX10_weigh_78 rfl ?_
  refine g_dup dX10_weigh_79 rfl ?_
  refine g_getI fl_RX10_35 rfl dX10_weigh_80 (fun v19 => ?_)
  refine g_iconst (v := 1) dX10_weigh_83 (by decide) ?_
  refine g_iadd dX10_weigh_84 ?_
  refine g_putI fl_RX10_35 (Or.inl rfl) dX10_weigh_85 (fun h20 => ?_)
  exact g_vret rfl dX10_weigh_88
set_option maxRecDepth 100000 in
noncomputable def f_X10_weigh (F : Nat) (a0 : Nat) (a1 : Int32) (a2 : Int32) (h : Hp) : Option (Unit × Hp) :=
  gR 11 h a0 4 fun v1 => gI 11 h a0 7 fun v2 => gI 11 h a0 8 fun v3 => cV 3 h v1 (f_X2_doJust F v1 a1 v2 v3 h) fun v4 h5 => if v4 = 0 then (some ((), h5)) else (gR 11 h5 a0 6 fun v7 => gI 10 h5 v7 0 fun v8 => lt ((((1 : Int32) <<< (v8 &&& 31)) - 1) &&& (a2 ^^^ (-1))) fun x9 => gI 11 h5 a0 0 fun v10 => if v10 = 0 then (pI 11 h5 a0 1 a2 fun h12 => pI 11 h12 a0 2 x9 fun h13 => pI 11 h13 a0 3 a2 fun h14 => f_X10_weigh_58 F a0 a2 x9 h14) else (f_X10_weigh_58 F a0 a2 x9 h5))
set_option maxRecDepth 100000 in
set_option maxHeartbeats 4000000 in
theorem T_X10_weigh (F : Nat) (a0 : Nat) (a1 : Int32) (a2 : Int32) (h : Hp) : GM rvV I_X10_weigh 3 [.ref a0, .int a1, .int a2] h (f_X10_weigh F a0 a1 a2 h) := by
  delta f_X10_weigh
  refine GM_of (lv := [(0, .ref a0), (1, .int a1), (2, .int a2)]) (by decide +kernel) (Nat.le_of_ble_eq_true rfl) rfl ?_
  refine g_aload_n 0 dX10_weigh_0 rfl ?_
  refine g_getR fl_RX10_18 rfl dX10_weigh_1 (fun v1 => ?_)
  refine g_iload_n 1 dX10_weigh_4 rfl ?_
  refine g_aload_n 0 dX10_weigh_5 rfl ?_
  refine g_getI fl_RX10_29 rfl dX10_weigh_6 (fun v2 => ?_)
  refine g_aload_n 0 dX10_weigh_9 rfl ?_
  refine g_getI fl_RX10_32 rfl dX10_weigh_10 (fun v3 => ?_)
  refine g_callVi (J := I_X2_doJust) (t := 3) (As := [.int a1, .int v2, .int v3]) (rest := []) mjv_X2_doJust ml_RX10_75 ⟨rfl, by decide, by decide⟩ (by decide) rfl rfl (Nat.le_of_ble_eq_true rfl) dX10_weigh_13 (T_X2_doJust F v1 a1 v2 v3 h) (fun v4 h5 => ?_)
  refine g_if_ne (tgt := 20) dX10_weigh_16 (by decide) (fun c6 => ?_) (fun c6 => ?_)
  · exact g_vret rfl dX10_weigh_19
  · refine g_iconst (v := 1) dX10_weigh_20 (by decide) ?_
    refine g_aload_n 0 dX10_weigh_21 rfl ?_
    refine g_getR fl_RX10_12 rfl dX10_weigh_22 (fun v7 => ?_)
    refine g_getI fl_RX10_54 rfl dX10_weigh_25 (fun v8 => ?_)
    refine g_ishl dX10_weigh_28 ?_
    refine g_iconst (v := 1) dX10_weigh_29 (by decide) ?_
    refine g_isub dX10_weigh_30 ?_
    refine g_iload_n 2 dX10_weigh_31 rfl ?_
    refine g_iconst (v := (-1)) dX10_weigh_32 (by decide) ?_
    refine g_ixor dX10_weigh_33 ?_
    refine g_iand dX10_weigh_34 ?_
    refine G_lti (fun x9 => ?_)
    refine g_istore_n (lv' := [(3, .int x9), (0, .ref a0), (1, .int a1), (2, .int a2)]) dX10_weigh_35 (by decide) rfl ?_
    refine g_aload_n 1 dX10_weigh_36 rfl ?_
    refine g_getI fl_RX10_35 rfl dX10_weigh_37 (fun v10 => ?_)
    refine g_if_ne (tgt := 58) dX10_weigh_40 (by decide) (fun c11 => ?_) (fun c11 => ?_)
    · refine g_aload_n 1 dX10_weigh_43 rfl ?_
      refine g_iload_n 3 dX10_weigh_44 rfl ?_
      refine g_putI fl_RX10_38 (Or.inl rfl) dX10_weigh_45 (fun h12 => ?_)
      refine g_aload_n 1 dX10_weigh_48 rfl ?_
      refine g_iload_n 0 dX10_weigh_49 rfl ?_
      refine g_putI fl_RX10_41 (Or.inl rfl) dX10_weigh_50 (fun h13 => ?_)
      refine g_aload_n 1 dX10_weigh_53 rfl ?_
      refine g_iload_n 3 dX10_weigh_54 rfl ?_
      refine g_putI fl_RX10_44 (Or.inl rfl) dX10_weigh_55 (fun h14 => ?_)
      refine G_lv [1, 3, 0] rfl ?_
      exact T_X10_weigh_58 F a0 a2 x9 h14
    · refine G_lv [1, 3, 0] rfl ?_
      exact T_X10_weigh_58 F a0 a2 x9 h5
