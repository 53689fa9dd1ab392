/-! L2, by program (wip/whole/gen/gen.py) -/
set_option maxRecDepth 100000 in
noncomputable def f_X7_firstAlone_2_b (F : Nat) (K2 : Nat → Int32 → Int32 → Int32 → Hp → Option (Int32 × Hp)) (l0 : Nat) (l1 : Int32) (l2 : Int32) (l3 : Int32) (h : Hp) : Option (Int32 × Hp) :=
  gR 8 h l0 0 fun v1 => al 20 h v1 fun v2 => if v2 ≤ l3 then (some ((-1), h)) else (cV 8 h l0 (f_X7_finds F l0 l3 h) fun v4 h5 => if v4 = 0 then (some ((-1), h5)) else (cV 8 h5 l0 (f_X7_agesOf F l0 l3 h5) fun v7 h8 => gR 8 h8 l0 4 fun v9 => cV 3 h8 v9 (f_X2_doneBy F v9 v7 l1 h8) fun v10 h11 => gR 8 h11 l0 4 fun v12 => cV 3 h11 v12 (f_X2_doneBy F v12 v7 (1 - l1) h11) fun v13 h14 => lt (v10 &&& (v13 ^^^ (-1))) fun x15 => if ((x15 >>> (l2 &&& 31)) &&& 1) = 0 then (K2 l0 l1 l2 (l3 + 1) h14) else (some (l3, h14))))
set_option maxRecDepth 100000 in
set_option maxHeartbeats 4000000 in
theorem T_X7_firstAlone_2_b (F : Nat) {K2 : Nat → Int32 → Int32 → Int32 → Hp → Option (Int32 × Hp)} (hK2 : ∀ (l0 : Nat) (l1 : Int32) (l2 : Int32) (l3 : Int32) (h : Hp), G rvI I_X7_firstAlone 5 2 [(0, .ref l0), (1, .int l1), (2, .int l2), (3, .int l3)] [] h (K2 l0 l1 l2 l3 h)) (l0 : Nat) (l1 : Int32) (l2 : Int32) (l3 : Int32) (h : Hp) : G rvI I_X7_firstAlone 5 2 [(0, .ref l0), (1, .int l1), (2, .int l2), (3, .int l3)] [] h (f_X7_firstAlone_2_b F K2 l0 l1 l2 l3 h) := by
  delta f_X7_firstAlone_2_b
  refine g_iload_n 3 dX7_firstAlone_2 rfl ?_
  refine g_aload_n 0 dX7_firstAlone_3 rfl ?_
  refine g_getR fl_RX7_9 rfl dX7_firstAlone_4 (fun v1 => ?_)
  refine g_alen (by decide) (by decide) dX7_firstAlone_7 (fun v2 => ?_)
  refine g_icmp_ge (tgt := 70) dX7_firstAlone_8 (by decide) (fun c3 => ?_) (fun c3 => ?_)
  · refine g_iconst (v := (-1)) dX7_firstAlone_70 (by decide) ?_
    exact g_iret rfl dX7_firstAlone_71
  · refine g_aload_n 0 dX7_firstAlone_11 rfl ?_
    refine g_iload_n 3 dX7_firstAlone_12 rfl ?_
    refine g_callVi (J := I_X7_finds) (t := 8) (As := [.int l3]) (rest := []) mjv_X7_finds ml_RX7_92 ⟨rfl, by decide, by decide⟩ (by decide) rfl rfl (Nat.le_of_ble_eq_true rfl) dX7_firstAlone_13 (T_X7_finds F l0 l3 h) (fun v4 h5 => ?_)
    refine g_if_eq (tgt := 70) dX7_firstAlone_16 (by decide) (fun c6 => ?_) (fun c6 => ?_)
    · refine g_iconst (v := (-1)) dX7_firstAlone_70 (by decide) ?_
      exact g_iret rfl dX7_firstAlone_71
    · refine g_aload_n 0 dX7_firstAlone_19 rfl ?_
      refine g_iload_n 3 dX7_firstAlone_20 rfl ?_
      refine g_callVi (J := I_X7_agesOf) (t := 8) (As := [.int l3]) (rest := []) mjv_X7_agesOf ml_RX7_70 ⟨rfl, by decide, by decide⟩ (by decide) rfl rfl (Nat.le_of_ble_eq_true rfl) dX7_firstAlone_21 (T_X7_agesOf F l0 l3 h5) (fun v7 h8 => ?_)
      refine g_istore (lv' := [(4, .int v7), (0, .ref l0), (1, .int l1), (2, .int l2), (3, .int l3)]) dX7_firstAlone_24 (by decide) rfl ?_
      refine g_aload_n 1 dX7_firstAlone_26 rfl ?_
      refine g_getR fl_RX7_18 rfl dX7_firstAlone_27 (fun v9 => ?_)
      refine g_iload 0 dX7_firstAlone_30 rfl ?_
      refine g_iload_n 2 dX7_firstAlone_32 rfl ?_
      refine g_callVi (J := I_X2_doneBy) (t := 3) (As := [.int v7, .int l1]) (rest := []) mjv_X2_doneBy ml_RX7_101 ⟨rfl, by decide, by decide⟩ (by decide) rfl rfl (Nat.le_of_ble_eq_true rfl) dX7_firstAlone_33 (T_X2_doneBy F v9 v7 l1 h8) (fun v10 h11 => ?_)
      refine g_aload_n 1 dX7_firstAlone_36 rfl ?_
      refine g_getR fl_RX7_18 rfl dX7_firstAlone_37 (fun v12 => ?_)
      refine g_iload 0 dX7_firstAlone_40 rfl ?_
      refine g_iconst (v := 1) dX7_firstAlone_42 (by decide) ?_
      refine g_iload_n 2 dX7_firstAlone_43 rfl ?_
      refine g_isub dX7_firstAlone_44 ?_
      refine g_callVi (J := I_X2_doneBy) (t := 3) (As := [.int v7, .int (1 - l1)]) (rest := [.int v10]) mjv_X2_doneBy ml_RX7_101 ⟨rfl, by decide, by decide⟩ (by decide) rfl rfl (Nat.le_of_ble_eq_true rfl) dX7_firstAlone_45 (T_X2_doneBy F v12 v7 (1 - l1) h11) (fun v13 h14 => ?_)
      refine g_iconst (v := (-1)) dX7_firstAlone_48 (by decide) ?_
      refine g_ixor dX7_firstAlone_49 ?_
      refine g_iand dX7_firstAlone_50 ?_
      refine G_lti (fun x15 => ?_)
      refine g_istore (lv' := [(5, .int x15), (4, .int v7), (0, .ref l0), (1, .int l1), (2, .int l2), (3, .int l3)]) dX7_firstAlone_51 (by decide) rfl ?_
      refine g_iload 0 dX7_firstAlone_53 rfl ?_
      refine g_iload_n 4 dX7_firstAlone_55 rfl ?_
      refine g_ishr dX7_firstAlone_56 ?_
      refine g_iconst (v := 1) dX7_firstAlone_57 (by decide) ?_
      refine g_iand dX7_firstAlone_58 ?_
      refine g_if_eq (tgt := 64) dX7_firstAlone_59 (by decide) (fun c16 => ?_) (fun c16 => ?_)
      · refine g_iinc (v' := l3 + 1) (lv' := [(3, .int (l3 + 1)), (5, .int x15), (4, .int v7), (0, .ref l0), (1, .int l1), (2, .int l2)]) 5 dX7_firstAlone_64 rfl rfl (by decide) rfl ?_
        refine g_goto (tgt := 2) dX7_firstAlone_67 (by decide) ?_
        refine G_lv [3, 4, 5, 0] rfl ?_
        exact hK2 l0 l1 l2 (l3 + 1) h14
      · refine g_iload_n 5 dX7_firstAlone_62 rfl ?_
        exact g_iret rfl dX7_firstAlone_63
set_option maxRecDepth 100000 in
noncomputable def f_X7_firstAlone_2 (F : Nat) : Nat → Nat → Int32 → Int32 → Int32 → Hp → Option (Int32 × Hp)
  | 0, _, _, _, _, _ => none
  | n + 1, l0, l1, l2, l3, h => f_X7_firstAlone_2_b F (f_X7_firstAlone_2 F n) l0 l1 l2 l3 h
set_option maxRecDepth 100000 in
set_option maxHeartbeats 4000000 in
theorem T_X7_firstAlone_2 (F : Nat) : ∀ (n : Nat) (l0 : Nat) (l1 : Int32) (l2 : Int32) (l3 : Int32) (h : Hp), G rvI I_X7_firstAlone 5 2 [(0, .ref l0), (1, .int l1), (2, .int l2), (3, .int l3)] [] h (f_X7_firstAlone_2 F n l0 l1 l2 l3 h) := by
  intro n
  induction n with
  | zero => intros; exact G_none
  | succ n ih => intro l0 l1 l2 l3 h; exact T_X7_firstAlone_2_b F ih l0 l1 l2 l3 h
set_option maxRecDepth 100000 in
noncomputable def f_X7_firstAlone (F : Nat) (a0 : Nat) (a1 : Int32) (a2 : Int32) (h : Hp) : Option (Int32 × Hp) :=
  f_X7_firstAlone_2 F F a0 a1 a2 0 h
set_option maxRecDepth 100000 in
set_option maxHeartbeats 4000000 in
theorem T_X7_firstAlone (F : Nat) (a0 : Nat) (a1 : Int32) (a2 : Int32) (h : Hp) : GM rvI I_X7_firstAlone 5 [.ref a0, .int a1, .int a2] h (f_X7_firstAlone F a0 a1 a2 h) := by
  delta f_X7_firstAlone
  refine GM_of (lv := [(0, .ref a0), (1, .int a1), (2, .int a2)]) (by decide +kernel) (Nat.le_of_ble_eq_true rfl) rfl ?_
  refine g_iconst (v := 0) dX7_firstAlone_0 (by decide) ?_
  refine g_istore_n (lv' := [(3, .int 0), (0, .ref a0), (1, .int a1), (2, .int a2)]) dX7_firstAlone_1 (by decide) rfl ?_
  refine G_lv [1, 2, 3, 0] rfl ?_
  exact T_X7_firstAlone_2 F F a0 a1 a2 0 h
set_option maxRecDepth 100000 in
noncomputable def f_X11_endOfAlone (F : Nat) (a0 : Nat) (a1 : Int32) (a2 : Int32) (h : Hp) : Option (Int32 × Hp) :=
  gR 12 h a0 11 fun v1 => gR 12 h a0 3 fun v2 => gR 12 h a0 5 fun v3 => cV 8 h v1 (f_X7_begin F v1 v2 v3 (-1) (-1) h) fun v4 h5 => gR 12 h5 a0 11 fun v6 => cV 8 h5 v6 (f_X7_firstAlone F v6 a1 a2 h5) fun v7 h8 => some (v7, h8)
set_option maxRecDepth 100000 in
set_option maxHeartbeats 4000000 in
theorem T_X11_endOfAlone (F : Nat) (a0 : Nat) (a1 : Int32) (a2 : Int32) (h : Hp) : GM rvI I_X11_endOfAlone 6 [.ref a0, .int a1, .int a2] h (f_X11_endOfAlone F a0 a1 a2 h) := by
  delta f_X11_endOfAlone
  refine GM_of (lv := [(0, .ref a0), (1, .int a1), (2, .int a2)]) (by decide +kernel) (Nat.le_of_ble_eq_true rfl) rfl ?_
  refine g_aload_n 0 dX11_endOfAlone_0 rfl ?_
  refine g_getR fl_RX11_66 rfl dX11_endOfAlone_1 (fun v1 => ?_)
  refine g_aload_n 0 dX11_endOfAlone_4 rfl ?_
  refine g_getR fl_RX11_20 rfl dX11_endOfAlone_5 (fun v2 => ?_)
  refine g_aload_n 0 dX11_endOfAlone_8 rfl ?_
  refine g_getR fl_RX11_36 rfl dX11_endOfAlone_9 (fun v3 => ?_)
  refine g_iconst (v := (-1)) dX11_endOfAlone_12 (by decide) ?_
  refine g_iconst (v := (-1)) dX11_endOfAlone_13 (by decide) ?_
  refine g_callVv (J := I_X7_begin) (t := 8) (As := [.ref v2, .ref v3, .int (-1), .int (-1)]) (rest := []) mjv_X7_begin ml_RX11_252 ⟨rfl, by decide, by decide⟩ (by decide) rfl rfl (Nat.le_of_ble_eq_true rfl) dX11_endOfAlone_14 (T_X7_begin F v1 v2 v3 (-1) (-1) h) (fun v4 h5 => ?_)
  refine g_aload_n 0 dX11_endOfAlone_17 rfl ?_
  refine g_getR fl_RX11_66 rfl dX11_endOfAlone_18 (fun v6 => ?_)
  refine g_iload_n 1 dX11_endOfAlone_21 rfl ?_
  refine g_iload_n 2 dX11_endOfAlone_22 rfl ?_
  refine g_callVi (J := I_X7_firstAlone) (t := 8) (As := [.int a1, .int a2]) (rest := []) mjv_X7_firstAlone ml_RX11_259 ⟨rfl, by decide, by decide⟩ (by decide) rfl rfl (Nat.le_of_ble_eq_true rfl) dX11_endOfAlone_23 (T_X7_firstAlone F v6 a1 a2 h5) (fun v7 h8 => ?_)
  exact g_iret rfl dX11_endOfAlone_26
set_option maxRecDepth 100000 in
noncomputable def f_X11_noDoing (F : Nat) (a0 : Nat) (a1 : Int32) (h : Hp) : Option (Int32 × Hp) :=
  if a1 < 0 then (some (1, h)) else (gR 12 h a0 3 fun v2 => gI 3 h v2 1 fun v3 => if a1 < v3 then (some (0, h)) else (some (1, h)))
set_option maxRecDepth 100000 in
set_option maxHeartbeats 4000000 in
theorem T_X11_noDoing (F : Nat) (a0 : Nat) (a1 : Int32) (h : Hp) : GM rvI I_X11_noDoing 1 [.ref a0, .int a1] h (f_X11_noDoing F a0 a1 h) := by
  delta f_X11_noDoing
  refine GM_of (lv := [(0, .ref a0), (1, .int a1)]) (by decide +kernel) (Nat.le_of_ble_eq_true rfl) rfl ?_
  refine g_iload_n 1 dX11_noDoing_0 rfl ?_
  refine g_if_lt (tgt := 15) dX11_noDoing_1 (by decide) (fun c1 => ?_) (fun c1 => ?_)
  · refine g_iconst (v := 1) dX11_noDoing_15 (by decide) ?_
    refine g_goto (tgt := 20) dX11_noDoing_16 (by decide) ?_
    exact g_zret (ty := .boolean) rfl rfl dX11_noDoing_20
  · refine g_iload_n 1 dX11_noDoing_4 rfl ?_
    refine g_aload_n 0 dX11_noDoing_5 rfl ?_
    refine g_getR fl_RX11_20 rfl dX11_noDoing_6 (fun v2 => ?_)
    refine g_getI fl_RX11_184 rfl dX11_noDoing_9 (fun v3 => ?_)
    refine g_icmp_lt (tgt := 19) dX11_noDoing_12 (by decide) (fun c4 => ?_) (fun c4 => ?_)
    · refine g_iconst (v := 0) dX11_noDoing_19 (by decide) ?_
      exact g_zret (ty := .boolean) rfl rfl dX11_noDoing_20
    · refine g_iconst (v := 1) dX11_noDoing_15 (by decide) ?_
      refine g_goto (tgt := 20) dX11_noDoing_16 (by decide) ?_
      exact g_zret (ty := .boolean) rfl rfl dX11_noDoing_20
set_option maxRecDepth 100000 in
noncomputable def f_X7_placeAhead (F : Nat) (a0 : Nat) (a1 : Int32) (h : Hp) : Option (Int32 × Hp) :=
  if a1 < 0 then (some (0, h)) else (gI 8 h a0 2 fun v2 => if v2 ≤ a1 then (some (0, h)) else (gR 8 h a0 0 fun v4 => al 20 h v4 fun v5 => if v5 ≤ a1 then (some (0, h)) else (gR 8 h a0 0 fun v7 => aI 20 h v7 a1 fun v8 => some ((ju v8 16), h))))
set_option maxRecDepth 100000 in
set_option maxHeartbeats 4000000 in
theorem T_X7_placeAhead (F : Nat) (a0 : Nat) (a1 : Int32) (h : Hp) : GM rvI I_X7_placeAhead 1 [.ref a0, .int a1] h (f_X7_placeAhead F a0 a1 h) := by
  delta f_X7_placeAhead
  refine GM_of (lv := [(0, .ref a0), (1, .int a1)]) (by decide +kernel) (Nat.le_of_ble_eq_true rfl) rfl ?_
  refine g_iload_n 1 dX7_placeAhead_0 rfl ?_
  refine g_if_lt (tgt := 33) dX7_placeAhead_1 (by decide) (fun c1 => ?_) (fun c1 => ?_)
  · refine g_iconst (v := 0) dX7_placeAhead_33 (by decide) ?_
    exact g_iret rfl dX7_placeAhead_34
  · refine g_iload_n 1 dX7_placeAhead_4 rfl ?_
    refine g_aload_n 0 dX7_placeAhead_5 rfl ?_
    refine g_getI fl_RX7_28 rfl dX7_placeAhead_6 (fun v2 => ?_)
    refine g_icmp_ge (tgt := 33) dX7_placeAhead_9 (by decide) (fun c3 => ?_) (fun c3 => ?_)
    · refine g_iconst (v := 0) dX7_placeAhead_33 (by decide) ?_
      exact g_iret rfl dX7_placeAhead_34
    · refine g_iload_n 1 dX7_placeAhead_12 rfl ?_
      refine g_aload_n 0 dX7_placeAhead_13 rfl ?_
      refine g_getR fl_RX7_9 rfl dX7_placeAhead_14 (fun v4 => ?_)
      refine g_alen (by decide) (by decide) dX7_placeAhead_17 (fun v5 => ?_)
      refine g_icmp_ge (tgt := 33) dX7_placeAhead_18 (by decide) (fun c6 => ?_) (fun c6 => ?_)
      · refine g_iconst (v := 0) dX7_placeAhead_33 (by decide) ?_
        exact g_iret rfl dX7_placeAhead_34
      · refine g_aload_n 0 dX7_placeAhead_21 rfl ?_
        refine g_getR fl_RX7_9 rfl dX7_placeAhead_22 (fun v7 => ?_)
        refine g_iload_n 1 dX7_placeAhead_25 rfl ?_
        refine g_iald dX7_placeAhead_26 (fun v8 => ?_)
        refine g_bipush (v := 16) dX7_placeAhead_27 (by decide) ?_
        refine g_iushr dX7_placeAhead_29 ?_
        refine g_goto (tgt := 34) dX7_placeAhead_30 (by decide) ?_
        exact g_iret rfl dX7_placeAhead_34
set_option maxRecDepth 100000 in
noncomputable def f_X7_stepsTo_4_b (F : Nat) (K4 : Nat → Int32 → Int32 → Hp → Option (Int32 × Hp)) (l0 : Nat) (l2 : Int32) (l3 : Int32) (h : Hp) : Option (Int32 × Hp) :=
  if 24 ≤ l2 then (some (l2, h)) else (if l3 ≤ 0 then (some (l2, h)) else (cV 8 h l0 (f_X7_placeAhead F l0 l3 h) fun v3 h4 => K4 l0 (l2 + 1) v3 h4))
set_option maxRecDepth 100000 in
set_option maxHeartbeats 4000000 in
theorem T_X7_stepsTo_4_b (F : Nat) {K4 : Nat → Int32 → Int32 → Hp → Option (Int32 × Hp)} (hK4 : ∀ (l0 : Nat) (l2 : Int32) (l3 : Int32) (h : Hp), G rvI I_X7_stepsTo 2 4 [(0, .ref l0), (2, .int l2), (3, .int l3)] [] h (K4 l0 l2 l3 h)) (l0 : Nat) (l2 : Int32) (l3 : Int32) (h : Hp) : G rvI I_X7_stepsTo 2 4 [(0, .ref l0), (2, .int l2), (3, .int l3)] [] h (f_X7_stepsTo_4_b F K4 l0 l2 l3 h) := by
  delta f_X7_stepsTo_4_b
  refine g_iload_n 1 dX7_stepsTo_4 rfl ?_
  refine g_bipush (v := 24) dX7_stepsTo_5 (by decide) ?_
  refine g_icmp_ge (tgt := 26) dX7_stepsTo_7 (by decide) (fun c1 => ?_) (fun c1 => ?_)
  · refine g_iload_n 1 dX7_stepsTo_26 rfl ?_
    exact g_iret rfl dX7_stepsTo_27
  · refine g_iload_n 2 dX7_stepsTo_10 rfl ?_
    refine g_if_le (tgt := 26) dX7_stepsTo_11 (by decide) (fun c2 => ?_) (fun c2 => ?_)
    · refine g_iload_n 1 dX7_stepsTo_26 rfl ?_
      exact g_iret rfl dX7_stepsTo_27
    · refine g_aload_n 0 dX7_stepsTo_14 rfl ?_
      refine g_iload_n 2 dX7_stepsTo_15 rfl ?_
      refine g_callVi (J := I_X7_placeAhead) (t := 8) (As := [.int l3]) (rest := []) mjv_X7_placeAhead ml_RX7_105 ⟨rfl, by decide, by decide⟩ (by decide) rfl rfl (Nat.le_of_ble_eq_true rfl) dX7_stepsTo_16 (T_X7_placeAhead F l0 l3 h) (fun v3 h4 => ?_)
      refine g_istore_n (lv' := [(3, .int v3), (0, .ref l0), (2, .int l2)]) dX7_stepsTo_19 (by decide) rfl ?_
      refine g_iinc (v' := l2 + 1) (lv' := [(2, .int (l2 + 1)), (3, .int v3), (0, .ref l0)]) 2 dX7_stepsTo_20 rfl rfl (by decide) rfl ?_
      refine g_goto (tgt := 4) dX7_stepsTo_23 (by decide) ?_
      refine G_lv [2, 0, 1] rfl ?_
      exact hK4 l0 (l2 + 1) v3 h4
set_option maxRecDepth 100000 in
noncomputable def f_X7_stepsTo_4 (F : Nat) : Nat → Nat → Int32 → Int32 → Hp → Option (Int32 × Hp)
  | 0, _, _, _, _ => none
  | n + 1, l0, l2, l3, h => f_X7_stepsTo_4_b F (f_X7_stepsTo_4 F n) l0 l2 l3 h
set_option maxRecDepth 100000 in
set_option maxHeartbeats 4000000 in
theorem T_X7_stepsTo_4 (F : Nat) : ∀ (n : Nat) (l0 : Nat) (l2 : Int32) (l3 : Int32) (h : Hp), G rvI I_X7_stepsTo 2 4 [(0, .ref l0), (2, .int l2), (3, .int l3)] [] h (f_X7_stepsTo_4 F n l0 l2 l3 h) := by
  intro n
  induction n with
  | zero => intros; exact G_none
  | succ n ih => intro l0 l2 l3 h; exact T_X7_stepsTo_4_b F ih l0 l2 l3 h
set_option maxRecDepth 100000 in
noncomputable def f_X7_stepsTo (F : Nat) (a0 : Nat) (a1 : Int32) (h : Hp) : Option (Int32 × Hp) :=
  f_X7_stepsTo_4 F F a0 0 a1 h
set_option maxRecDepth 100000 in
set_option maxHeartbeats 4000000 in
theorem T_X7_stepsTo (F : Nat) (a0 : Nat) (a1 : Int32) (h : Hp) : GM rvI I_X7_stepsTo 2 [.ref a0, .int a1] h (f_X7_stepsTo F a0 a1 h) := by
  delta f_X7_stepsTo
  refine GM_of (lv := [(0, .ref a0), (1, .int a1)]) (by decide +kernel) (Nat.le_of_ble_eq_true rfl) rfl ?_
  refine g_iconst (v := 0) dX7_stepsTo_0 (by decide) ?_
  refine g_istore_n (lv' := [(2, .int 0), (0, .ref a0), (1, .int a1)]) dX7_stepsTo_1 (by decide) rfl ?_
  refine g_iload_n 2 dX7_stepsTo_2 rfl ?_
  refine g_istore_n (lv' := [(3, .int a1), (2, .int 0), (0, .ref a0), (1, .int a1)]) dX7_stepsTo_3 (by decide) rfl ?_
  refine G_lv [2, 1, 0] rfl ?_
  exact T_X7_stepsTo_4 F F a0 0 a1 h
set_option maxRecDepth 100000 in
noncomputable def f_X11_alone (F : Nat) (a0 : Nat) (a1 : Int32) (a2 : Int32) (h : Hp) : Option (Int32 × Hp) :=
  cV 12 h a0 (f_X11_noTwin F a0 a1 h) fun v1 h2 => if v1 = 0 then (cV 12 h2 a0 (f_X11_noDoing F a0 a2 h2) fun v4 h5 => if v4 = 0 then (cV 12 h5 a0 (f_X11_endOfAlone F a0 a1 a2 h5) fun v7 h8 => if 0 ≤ v7 then (gR 12 h8 a0 11 fun v10 => cV 8 h8 v10 (f_X7_stepsTo F v10 v7 h8) fun v11 h12 => some (v11, h12)) else (some ((-1), h8))) else (some ((-2), h5))) else (some ((-2), h2))
set_option maxRecDepth 100000 in
set_option maxHeartbeats 4000000 in
theorem T_X11_alone (F : Nat) (a0 : Nat) (a1 : Int32) (a2 : Int32) (h : Hp) : GM rvI I_X11_alone 7 [.ref a0, .int a1, .int a2] h (f_X11_alone F a0 a1 a2 h) := by
  delta f_X11_alone
  refine GM_of (lv := [(0, .ref a0), (1, .int a1), (2, .int a2)]) (by decide +kernel) (Nat.le_of_ble_eq_true rfl) rfl ?_
  refine g_aload_n 0 dX11_alone_0 rfl ?_
  refine g_iload_n 1 dX11_alone_1 rfl ?_
  refine g_callVi (J := I_X11_noTwin) (t := 12) (As := [.int a1]) (rest := []) mjv_X11_noTwin ml_RX11_149 ⟨rfl, by decide, by decide⟩ (by decide) rfl rfl (Nat.le_of_ble_eq_true rfl) dX11_alone_2 (T_X11_noTwin F a0 a1 h) (fun v1 h2 => ?_)
  refine g_if_ne (tgt := 16) dX11_alone_5 (by decide) (fun c3 => ?_) (fun c3 => ?_)
  · refine g_aload_n 0 dX11_alone_8 rfl ?_
    refine g_iload_n 2 dX11_alone_9 rfl ?_
    refine g_callVi (J := I_X11_noDoing) (t := 12) (As := [.int a2]) (rest := []) mjv_X11_noDoing ml_RX11_160 ⟨rfl, by decide, by decide⟩ (by decide) rfl rfl (Nat.le_of_ble_eq_true rfl) dX11_alone_10 (T_X11_noDoing F a0 a2 h2) (fun v4 h5 => ?_)
    refine g_if_eq (tgt := 19) dX11_alone_13 (by decide) (fun c6 => ?_) (fun c6 => ?_)
    · refine g_aload_n 0 dX11_alone_19 rfl ?_
      refine g_iload_n 1 dX11_alone_20 rfl ?_
      refine g_iload_n 2 dX11_alone_21 rfl ?_
      refine g_callVi (J := I_X11_endOfAlone) (t := 12) (As := [.int a1, .int a2]) (rest := []) mjv_X11_endOfAlone ml_RX11_249 ⟨rfl, by decide, by decide⟩ (by decide) rfl rfl (Nat.le_of_ble_eq_true rfl) dX11_alone_22 (T_X11_endOfAlone F a0 a1 a2 h5) (fun v7 h8 => ?_)
      refine g_istore_n (lv' := [(3, .int v7), (0, .ref a0), (1, .int a1), (2, .int a2)]) dX11_alone_25 (by decide) rfl ?_
      refine g_iload_n 0 dX11_alone_26 rfl ?_
      refine g_if_ge (tgt := 34) dX11_alone_27 (by decide) (fun c9 => ?_) (fun c9 => ?_)
      · refine g_aload_n 1 dX11_alone_34 rfl ?_
        refine g_getR fl_RX11_66 rfl dX11_alone_35 (fun v10 => ?_)
        refine g_iload_n 0 dX11_alone_38 rfl ?_
        refine g_callVi (J := I_X7_stepsTo) (t := 8) (As := [.int v7]) (rest := []) mjv_X7_stepsTo ml_RX11_243 ⟨rfl, by decide, by decide⟩ (by decide) rfl rfl (Nat.le_of_ble_eq_true rfl) dX11_alone_39 (T_X7_stepsTo F v10 v7 h8) (fun v11 h12 => ?_)
        exact g_iret rfl dX11_alone_42
      · refine g_iconst (v := (-1)) dX11_alone_30 (by decide) ?_
        refine g_goto (tgt := 42) dX11_alone_31 (by decide) ?_
        exact g_iret rfl dX11_alone_42
    · refine g_bipush (v := (-2)) dX11_alone_16 (by decide) ?_
      exact g_iret rfl dX11_alone_18
  · refine g_bipush (v := (-2)) dX11_alone_16 (by decide) ?_
    exact g_iret rfl dX11_alone_18
set_option maxRecDepth 100000 in
noncomputable def f_X2_afterTelling (F : Nat) (a0 : Nat) (a1 : Int32) (a2 : Int32) (a3 : Int32) (a4 : Int32) (h : Hp) : Option (Int32 × Hp) :=
  cV 3 h a0 (f_X2_caseAt F a0 a1 a2 a3 h) fun v1 h2 => cV 3 h2 a0 (f_X2_afterCase F a0 a1 v1 a3 a4 h2) fun v3 h4 => some (v3, h4)
set_option maxRecDepth 100000 in
set_option maxHeartbeats 4000000 in
theorem T_X2_afterTelling (F : Nat) (a0 : Nat) (a1 : Int32) (a2 : Int32) (a3 : Int32) (a4 : Int32) (h : Hp) : GM rvI I_X2_afterTelling 3 [.ref a0, .int a1, .int a2, .int a3, .int a4] h (f_X2_afterTelling F a0 a1 a2 a3 a4 h) := by
  delta f_X2_afterTelling
  refine GM_of (lv := [(0, .ref a0), (1, .int a1), (2, .int a2), (3, .int a3), (4, .int a4)]) (by decide +kernel) (Nat.le_of_ble_eq_true rfl) rfl ?_
  refine g_aload_n 0 dX2_afterTelling_0 rfl ?_
  refine g_iload_n 1 dX2_afterTelling_1 rfl ?_
  refine g_aload_n 0 dX2_afterTelling_2 rfl ?_
  refine g_iload_n 1 dX2_afterTelling_3 rfl ?_
  refine g_iload_n 2 dX2_afterTelling_4 rfl ?_
  refine g_iload_n 3 dX2_afterTelling_5 rfl ?_
  refine g_callVi (J := I_X2_caseAt) (t := 3) (As := [.int a1, .int a2, .int a3]) (rest := [.int a1, .ref a0]) mjv_X2_caseAt ml_RX2_83 ⟨rfl, by decide, by decide⟩ (by decide) rfl rfl (Nat.le_of_ble_eq_true rfl) dX2_afterTelling_6 (T_X2_caseAt F a0 a1 a2 a3 h) (fun v1 h2 => ?_)
  refine g_iload_n 3 dX2_afterTelling_9 rfl ?_
  refine g_iload 4 dX2_afterTelling_10 rfl ?_
  refine g_callVi (J := I_X2_afterCase) (t := 3) (As := [.int a1, .int v1, .int a3, .int a4]) (rest := []) mjv_X2_afterCase ml_RX2_86 ⟨rfl, by decide, by decide⟩ (by decide) rfl rfl (Nat.le_of_ble_eq_true rfl) dX2_afterTelling_12 (T_X2_afterCase F a0 a1 v1 a3 a4 h2) (fun v3 h4 => ?_)
  exact g_iret rfl dX2_afterTelling_15
set_option maxRecDepth 100000 in
noncomputable def f_X7_moveBetween_10_b (F : Nat) (K2 : Nat → Int32 → Int32 → Int32 → Hp → Option (Int32 × Hp)) (K10 : Nat → Int32 → Int32 → Int32 → Int32 → Hp → Option (Int32 × Hp)) (l0 : Nat) (l1 : Int32) (l2 : Int32) (l3 : Int32) (l4 : Int32) (h : Hp) : Option (Int32 × Hp) :=
  gR 8 h l0 4 fun v2 => gI 3 h v2 0 fun v3 => if v3 ≤ l4 then (K2 l0 l1 l2 (l3 + 1) h) else (gR 8 h l0 4 fun v5 => gI 8 h l0 6 fun v6 => cV 3 h v5 (f_X2_afterTelling F v5 l1 v6 l3 l4 h) fun v7 h8 => if v7 = l2 then (some (((10 * l3) + l4), h8)) else (K10 l0 l1 l2 l3 (l4 + 1) h8))
set_option maxRecDepth 100000 in
set_option maxHeartbeats 4000000 in
theorem T_X7_moveBetween_10_b (F : Nat) {K2 : Nat → Int32 → Int32 → Int32 → Hp → Option (Int32 × Hp)} (hK2 : ∀ (l0 : Nat) (l1 : Int32) (l2 : Int32) (l3 : Int32) (h : Hp), G rvI I_X7_moveBetween 4 2 [(0, .ref l0), (1, .int l1), (2, .int l2), (3, .int l3)] [] h (K2 l0 l1 l2 l3 h)) {K10 : Nat → Int32 → Int32 → Int32 → Int32 → Hp → Option (Int32 × Hp)} (hK10 : ∀ (l0 : Nat) (l1 : Int32) (l2 : Int32) (l3 : Int32) (l4 : Int32) (h : Hp), G rvI I_X7_moveBetween 4 10 [(0, .ref l0), (1, .int l1), (2, .int l2), (3, .int l3), (4, .int l4)] [] h (K10 l0 l1 l2 l3 l4 h)) (l0 : Nat) (l1 : Int32) (l2 : Int32) (l3 : Int32) (l4 : Int32) (h : Hp) : G rvI I_X7_moveBetween 4 10 [(0, .ref l0), (1, .int l1), (2, .int l2), (3, .int l3), (4, .int l4)] [] h (f_X7_moveBetween_10_b F K2 K10 l0 l1 l2 l3 l4 h) := by
  delta f_X7_moveBetween_10_b
  refine g_iload 4 dX7_moveBetween_10 rfl ?_
  refine g_aload_n 0 dX7_moveBetween_12 rfl ?_
  refine g_getR fl_RX7_18 rfl dX7_moveBetween_13 (fun v2 => ?_)
  refine g_getI fl_RX7_78 rfl dX7_moveBetween_16 (fun v3 => ?_)
  refine g_icmp_ge (tgt := 55) dX7_moveBetween_19 (by decide) (fun c4 => ?_) (fun c4 => ?_)
  · refine g_iinc (v' := l3 + 1) (lv' := [(3, .int (l3 + 1)), (0, .ref l0), (1, .int l1), (2, .int l2), (4, .int l4)]) 3 dX7_moveBetween_55 rfl rfl (by decide) rfl ?_
    refine g_goto (tgt := 2) dX7_moveBetween_58 (by decide) ?_
    refine G_lv [1, 2, 3, 0] rfl ?_
    exact hK2 l0 l1 l2 (l3 + 1) h
  · refine g_aload_n 0 dX7_moveBetween_22 rfl ?_
    refine g_getR fl_RX7_18 rfl dX7_moveBetween_23 (fun v5 => ?_)
    refine g_iload_n 1 dX7_moveBetween_26 rfl ?_
    refine g_aload_n 0 dX7_moveBetween_27 rfl ?_
    refine g_getI fl_RX7_43 rfl dX7_moveBetween_28 (fun v6 => ?_)
    refine g_iload_n 3 dX7_moveBetween_31 rfl ?_
    refine g_iload 4 dX7_moveBetween_32 rfl ?_
    refine g_callVi (J := I_X2_afterTelling) (t := 3) (As := [.int l1, .int v6, .int l3, .int l4]) (rest := []) mjv_X2_afterTelling ml_RX7_114 ⟨rfl, by decide, by decide⟩ (by decide) rfl rfl (Nat.le_of_ble_eq_true rfl) dX7_moveBetween_34 (T_X2_afterTelling F v5 l1 v6 l3 l4 h) (fun v7 h8 => ?_)
    refine g_iload_n 2 dX7_moveBetween_37 rfl ?_
    refine g_icmp_ne (tgt := 49) dX7_moveBetween_38 (by decide) (fun c9 => ?_) (fun c9 => ?_)
    · refine g_bipush (v := 10) dX7_moveBetween_41 (by decide) ?_
      refine g_iload_n 3 dX7_moveBetween_43 rfl ?_
      refine g_imul dX7_moveBetween_44 ?_
      refine g_iload 4 dX7_moveBetween_45 rfl ?_
      refine g_iadd dX7_moveBetween_47 ?_
      exact g_iret rfl dX7_moveBetween_48
    · refine g_iinc (v' := l4 + 1) (lv' := [(4, .int (l4 + 1)), (0, .ref l0), (1, .int l1), (2, .int l2), (3, .int l3)]) 4 dX7_moveBetween_49 rfl rfl (by decide) rfl ?_
      refine g_goto (tgt := 10) dX7_moveBetween_52 (by decide) ?_
      refine G_lv [1, 2, 3, 4, 0] rfl ?_
      exact hK10 l0 l1 l2 l3 (l4 + 1) h8
set_option maxRecDepth 100000 in
noncomputable def f_X7_moveBetween_10 (F : Nat) (K2 : Nat → Int32 → Int32 → Int32 → Hp → Option (Int32 × Hp)) : Nat → Nat → Int32 → Int32 → Int32 → Int32 → Hp → Option (Int32 × Hp)
  | 0, _, _, _, _, _, _ => none
  | n + 1, l0, l1, l2, l3, l4, h => f_X7_moveBetween_10_b F K2 (f_X7_moveBetween_10 F K2 n) l0 l1 l2 l3 l4 h
set_option maxRecDepth 100000 in
set_option maxHeartbeats 4000000 in
theorem T_X7_moveBetween_10 (F : Nat) {K2 : Nat → Int32 → Int32 → Int32 → Hp → Option (Int32 × Hp)} (hK2 : ∀ (l0 : Nat) (l1 : Int32) (l2 : Int32) (l3 : Int32) (h : Hp), G rvI I_X7_moveBetween 4 2 [(0, .ref l0), (1, .int l1), (2, .int l2), (3, .int l3)] [] h (K2 l0 l1 l2 l3 h)) : ∀ (n : Nat) (l0 : Nat) (l1 : Int32) (l2 : Int32) (l3 : Int32) (l4 : Int32) (h : Hp), G rvI I_X7_moveBetween 4 10 [(0, .ref l0), (1, .int l1), (2, .int l2), (3, .int l3), (4, .int l4)] [] h (f_X7_moveBetween_10 F K2 n l0 l1 l2 l3 l4 h) := by
  intro n
  induction n with
  | zero => intros; exact G_none
  | succ n ih => intro l0 l1 l2 l3 l4 h; exact T_X7_moveBetween_10_b F hK2 ih l0 l1 l2 l3 l4 h
set_option maxRecDepth 100000 in
noncomputable def f_X7_moveBetween_2_b (F : Nat) (K2 : Nat → Int32 → Int32 → Int32 → Hp → Option (Int32 × Hp)) (l0 : Nat) (l1 : Int32) (l2 : Int32) (l3 : Int32) (h : Hp) : Option (Int32 × Hp) :=
  if 2 ≤ l3 then (some (20, h)) else (f_X7_moveBetween_10 F K2 F l0 l1 l2 l3 0 h)
set_option maxRecDepth 100000 in
set_option maxHeartbeats 4000000 in
theorem T_X7_moveBetween_2_b (F : Nat) {K2 : Nat → Int32 → Int32 → Int32 → Hp → Option (Int32 × Hp)} (hK2 : ∀ (l0 : Nat) (l1 : Int32) (l2 : Int32) (l3 : Int32) (h : Hp), G rvI I_X7_moveBetween 4 2 [(0, .ref l0), (1, .int l1), (2, .int l2), (3, .int l3)] [] h (K2 l0 l1 l2 l3 h)) (l0 : Nat) (l1 : Int32) (l2 : Int32) (l3 : Int32) (h : Hp) : G rvI I_X7_moveBetween 4 2 [(0, .ref l0), (1, .int l1), (2, .int l2), (3, .int l3)] [] h (f_X7_moveBetween_2_b F K2 l0 l1 l2 l3 h) := by
  delta f_X7_moveBetween_2_b
  refine g_iload_n 3 dX7_moveBetween_2 rfl ?_
  refine g_iconst (v := 2) dX7_moveBetween_3 (by decide) ?_
  refine g_icmp_ge (tgt := 61) dX7_moveBetween_4 (by decide) (fun c1 => ?_) (fun c1 => ?_)
  · refine g_bipush (v := 20) dX7_moveBetween_61 (by decide) ?_
    exact g_iret rfl dX7_moveBetween_63
  · refine g_iconst (v := 0) dX7_moveBetween_7 (by decide) ?_
    refine g_istore (lv' := [(4, .int 0), (0, .ref l0), (1, .int l1), (2, .int l2), (3, .int l3)]) dX7_moveBetween_8 (by decide) rfl ?_
    refine G_lv [1, 2, 3, 4, 0] rfl ?_
    exact T_X7_moveBetween_10 F hK2 F l0 l1 l2 l3 0 h
set_option maxRecDepth 100000 in
noncomputable def f_X7_moveBetween_2 (F : Nat) : Nat → Nat → Int32 → Int32 → Int32 → Hp → Option (Int32 × Hp)
  | 0, _, _, _, _, _ => none
  | n + 1, l0, l1, l2, l3, h => f_X7_moveBetween_2_b F (f_X7_moveBetween_2 F n) l0 l1 l2 l3 h
set_option maxRecDepth 100000 in
set_option maxHeartbeats 4000000 in
theorem T_X7_moveBetween_2 (F : Nat) : ∀ (n : Nat) (l0 : Nat) (l1 : Int32) (l2 : Int32) (l3 : Int32) (h : Hp), G rvI I_X7_moveBetween 4 2 [(0, .ref l0), (1, .int l1), (2, .int l2), (3, .int l3)] [] h (f_X7_moveBetween_2 F n l0 l1 l2 l3 h) := by
  intro n
  induction n with
  | zero => intros; exact G_none
  | succ n ih => intro l0 l1 l2 l3 h; exact T_X7_moveBetween_2_b F ih l0 l1 l2 l3 h
set_option maxRecDepth 100000 in
noncomputable def f_X7_moveBetween (F : Nat) (a0 : Nat) (a1 : Int32) (a2 : Int32) (h : Hp) : Option (Int32 × Hp) :=
  f_X7_moveBetween_2 F F a0 a1 a2 0 h
set_option maxRecDepth 100000 in
set_option maxHeartbeats 4000000 in
theorem T_X7_moveBetween (F : Nat) (a0 : Nat) (a1 : Int32) (a2 : Int32) (h : Hp) : GM rvI I_X7_moveBetween 4 [.ref a0, .int a1, .int a2] h (f_X7_moveBetween F a0 a1 a2 h) := by
  delta f_X7_moveBetween
  refine GM_of (lv := [(0, .ref a0), (1, .int a1), (2, .int a2)]) (by decide +kernel) (Nat.le_of_ble_eq_true rfl) rfl ?_
  refine g_iconst (v := 0) dX7_moveBetween_0 (by decide) ?_
  refine g_istore_n (lv' := [(3, .int 0), (0, .ref a0), (1, .int a1), (2, .int a2)]) dX7_moveBetween_1 (by decide) rfl ?_
  refine G_lv [1, 2, 3, 0] rfl ?_
  exact T_X7_moveBetween_2 F F a0 a1 a2 0 h
set_option maxRecDepth 100000 in
noncomputable def f_X7_stepAt_11_b (F : Nat) (K11 : Nat → Int32 → Int32 → Int32 → Hp → Option (Int32 × Hp)) (l0 : Nat) (l2 : Int32) (l3 : Int32) (l4 : Int32) (h : Hp) : Option (Int32 × Hp) :=
  if l4 ≤ l2 then (cV 8 h l0 (f_X7_placeAhead F l0 l3 h) fun v5 h6 => cV 8 h6 l0 (f_X7_agesOf F l0 v5 h6) fun v7 h8 => cV 8 h8 l0 (f_X7_agesOf F l0 l3 h8) fun v9 h10 => cV 8 h10 l0 (f_X7_moveBetween F l0 v7 v9 h10) fun v11 h12 => some (v11, h12)) else (cV 8 h l0 (f_X7_placeAhead F l0 l3 h) fun v13 h14 => K11 l0 l2 v13 (l4 + (-1)) h14)
set_option maxRecDepth 100000 in
set_option maxHeartbeats 4000000 in
theorem T_X7_stepAt_11_b (F : Nat) {K11 : Nat → Int32 → Int32 → Int32 → Hp → Option (Int32 × Hp)} (hK11 : ∀ (l0 : Nat) (l2 : Int32) (l3 : Int32) (l4 : Int32) (h : Hp), G rvI I_X7_stepAt 5 11 [(0, .ref l0), (2, .int l2), (3, .int l3), (4, .int l4)] [] h (K11 l0 l2 l3 l4 h)) (l0 : Nat) (l2 : Int32) (l3 : Int32) (l4 : Int32) (h : Hp) : G rvI I_X7_stepAt 5 11 [(0, .ref l0), (2, .int l2), (3, .int l3), (4, .int l4)] [] h (f_X7_stepAt_11_b F K11 l0 l2 l3 l4 h) := by
  delta f_X7_stepAt_11_b
  refine g_iload 3 dX7_stepAt_11 rfl ?_
  refine g_iload_n 1 dX7_stepAt_13 rfl ?_
  refine g_icmp_le (tgt := 29) dX7_stepAt_14 (by decide) (fun c4 => ?_) (fun c4 => ?_)
  · refine g_aload_n 0 dX7_stepAt_29 rfl ?_
    refine g_aload_n 0 dX7_stepAt_30 rfl ?_
    refine g_aload_n 0 dX7_stepAt_31 rfl ?_
    refine g_iload_n 2 dX7_stepAt_32 rfl ?_
    refine g_callVi (J := I_X7_placeAhead) (t := 8) (As := [.int l3]) (rest := [.ref l0, .ref l0]) mjv_X7_placeAhead ml_RX7_105 ⟨rfl, by decide, by decide⟩ (by decide) rfl rfl (Nat.le_of_ble_eq_true rfl) dX7_stepAt_33 (T_X7_placeAhead F l0 l3 h) (fun v5 h6 => ?_)
    refine g_callVi (J := I_X7_agesOf) (t := 8) (As := [.int v5]) (rest := [.ref l0]) mjv_X7_agesOf ml_RX7_70 ⟨rfl, by decide, by decide⟩ (by decide) rfl rfl (Nat.le_of_ble_eq_true rfl) dX7_stepAt_36 (T_X7_agesOf F l0 v5 h6) (fun v7 h8 => ?_)
    refine g_aload_n 0 dX7_stepAt_39 rfl ?_
    refine g_iload_n 2 dX7_stepAt_40 rfl ?_
    refine g_callVi (J := I_X7_agesOf) (t := 8) (As := [.int l3]) (rest := [.int v7, .ref l0]) mjv_X7_agesOf ml_RX7_70 ⟨rfl, by decide, by decide⟩ (by decide) rfl rfl (Nat.le_of_ble_eq_true rfl) dX7_stepAt_41 (T_X7_agesOf F l0 l3 h8) (fun v9 h10 => ?_)
    refine g_callVi (J := I_X7_moveBetween) (t := 8) (As := [.int v7, .int v9]) (rest := []) mjv_X7_moveBetween ml_RX7_111 ⟨rfl, by decide, by decide⟩ (by decide) rfl rfl (Nat.le_of_ble_eq_true rfl) dX7_stepAt_44 (T_X7_moveBetween F l0 v7 v9 h10) (fun v11 h12 => ?_)
    exact g_iret rfl dX7_stepAt_47
  · refine g_aload_n 0 dX7_stepAt_17 rfl ?_
    refine g_iload_n 2 dX7_stepAt_18 rfl ?_
    refine g_callVi (J := I_X7_placeAhead) (t := 8) (As := [.int l3]) (rest := []) mjv_X7_placeAhead ml_RX7_105 ⟨rfl, by decide, by decide⟩ (by decide) rfl rfl (Nat.le_of_ble_eq_true rfl) dX7_stepAt_19 (T_X7_placeAhead F l0 l3 h) (fun v13 h14 => ?_)
    refine g_istore_n (lv' := [(3, .int v13), (0, .ref l0), (2, .int l2), (4, .int l4)]) dX7_stepAt_22 (by decide) rfl ?_
    refine g_iinc (v' := l4 + (-1)) (lv' := [(4, .int (l4 + (-1))), (3, .int v13), (0, .ref l0), (2, .int l2)]) 3 dX7_stepAt_23 rfl rfl (by decide) rfl ?_
    refine g_goto (tgt := 11) dX7_stepAt_26 (by decide) ?_
    refine G_lv [2, 3, 1, 0] rfl ?_
    exact hK11 l0 l2 v13 (l4 + (-1)) h14
set_option maxRecDepth 100000 in
noncomputable def f_X7_stepAt_11 (F : Nat) : Nat → Nat → Int32 → Int32 → Int32 → Hp → Option (Int32 × Hp)
  | 0, _, _, _, _, _ => none
  | n + 1, l0, l2, l3, l4, h => f_X7_stepAt_11_b F (f_X7_stepAt_11 F n) l0 l2 l3 l4 h
set_option maxRecDepth 100000 in
set_option maxHeartbeats 4000000 in
theorem T_X7_stepAt_11 (F : Nat) : ∀ (n : Nat) (l0 : Nat) (l2 : Int32) (l3 : Int32) (l4 : Int32) (h : Hp), G rvI I_X7_stepAt 5 11 [(0, .ref l0), (2, .int l2), (3, .int l3), (4, .int l4)] [] h (f_X7_stepAt_11 F n l0 l2 l3 l4 h) := by
  intro n
  induction n with
  | zero => intros; exact G_none
  | succ n ih => intro l0 l2 l3 l4 h; exact T_X7_stepAt_11_b F ih l0 l2 l3 l4 h
set_option maxRecDepth 100000 in
noncomputable def f_X7_stepAt (F : Nat) (a0 : Nat) (a1 : Int32) (a2 : Int32) (h : Hp) : Option (Int32 × Hp) :=
  cV 8 h a0 (f_X7_stepsTo F a0 a1 h) fun v1 h2 => lt (v1 - 1) fun x3 => f_X7_stepAt_11 F F a0 a2 a1 x3 h2
set_option maxRecDepth 100000 in
set_option maxHeartbeats 4000000 in
theorem T_X7_stepAt (F : Nat) (a0 : Nat) (a1 : Int32) (a2 : Int32) (h : Hp) : GM rvI I_X7_stepAt 5 [.ref a0, .int a1, .int a2] h (f_X7_stepAt F a0 a1 a2 h) := by
  delta f_X7_stepAt
  refine GM_of (lv := [(0, .ref a0), (1, .int a1), (2, .int a2)]) (by decide +kernel) (Nat.le_of_ble_eq_true rfl) rfl ?_
  refine g_iload_n 1 dX7_stepAt_0 rfl ?_
  refine g_istore_n (lv' := [(3, .int a1), (0, .ref a0), (1, .int a1), (2, .int a2)]) dX7_stepAt_1 (by decide) rfl ?_
  refine g_aload_n 1 dX7_stepAt_2 rfl ?_
  refine g_iload_n 2 dX7_stepAt_3 rfl ?_
  refine g_callVi (J := I_X7_stepsTo) (t := 8) (As := [.int a1]) (rest := []) mjv_X7_stepsTo ml_RX7_108 ⟨rfl, by decide, by decide⟩ (by decide) rfl rfl (Nat.le_of_ble_eq_true rfl) dX7_stepAt_4 (T_X7_stepsTo F a0 a1 h) (fun v1 h2 => ?_)
  refine g_iconst (v := 1) dX7_stepAt_7 (by decide) ?_
  refine g_isub dX7_stepAt_8 ?_
  refine G_lti (fun x3 => ?_)
  refine g_istore (lv' := [(4, .int x3), (3, .int a1), (0, .ref a0), (1, .int a1), (2, .int a2)]) dX7_stepAt_9 (by decide) rfl ?_
  refine G_lv [2, 4, 1, 0] rfl ?_
  exact T_X7_stepAt_11 F F a0 a2 a1 x3 h2
set_option maxRecDepth 100000 in
noncomputable def f_X11_answerOf (F : Nat) (a0 : Nat) (a1 : Int32) (a2 : Int32) (h : Hp) : Option (Int32 × Hp) :=
  if a1 < 0 then (some ((-1), h)) else (gR 12 h a0 11 fun v2 => cV 8 h v2 (f_X7_stepsTo F v2 a1 h) fun v3 h4 => if a2 < v3 then (gR 12 h4 a0 11 fun v6 => cV 8 h4 v6 (f_X7_stepAt F v6 a1 a2 h4) fun v7 h8 => if v7 = 20 then (some (99, h8)) else (some (v7, h8))) else (some ((-1), h4)))
set_option maxRecDepth 100000 in
set_option maxHeartbeats 4000000 in
theorem T_X11_answerOf (F : Nat) (a0 : Nat) (a1 : Int32) (a2 : Int32) (h : Hp) : GM rvI I_X11_answerOf 6 [.ref a0, .int a1, .int a2] h (f_X11_answerOf F a0 a1 a2 h) := by
  delta f_X11_answerOf
  refine GM_of (lv := [(0, .ref a0), (1, .int a1), (2, .int a2)]) (by decide +kernel) (Nat.le_of_ble_eq_true rfl) rfl ?_
  refine g_iload_n 1 dX11_answerOf_0 rfl ?_
  refine g_if_lt (tgt := 16) dX11_answerOf_1 (by decide) (fun c1 => ?_) (fun c1 => ?_)
  · refine g_iconst (v := (-1)) dX11_answerOf_16 (by decide) ?_
    exact g_iret rfl dX11_answerOf_17
  · refine g_iload_n 2 dX11_answerOf_4 rfl ?_
    refine g_aload_n 0 dX11_answerOf_5 rfl ?_
    refine g_getR fl_RX11_66 rfl dX11_answerOf_6 (fun v2 => ?_)
    refine g_iload_n 1 dX11_answerOf_9 rfl ?_
    refine g_callVi (J := I_X7_stepsTo) (t := 8) (As := [.int a1]) (rest := [.int a2]) mjv_X7_stepsTo ml_RX11_243 ⟨rfl, by decide, by decide⟩ (by decide) rfl rfl (Nat.le_of_ble_eq_true rfl) dX11_answerOf_10 (T_X7_stepsTo F v2 a1 h) (fun v3 h4 => ?_)
    refine g_icmp_lt (tgt := 18) dX11_answerOf_13 (by decide) (fun c5 => ?_) (fun c5 => ?_)
    · refine g_aload_n 0 dX11_answerOf_18 rfl ?_
      refine g_getR fl_RX11_66 rfl dX11_answerOf_19 (fun v6 => ?_)
      refine g_iload_n 1 dX11_answerOf_22 rfl ?_
      refine g_iload_n 2 dX11_answerOf_23 rfl ?_
      refine g_callVi (J := I_X7_stepAt) (t := 8) (As := [.int a1, .int a2]) (rest := []) mjv_X7_stepAt ml_RX11_262 ⟨rfl, by decide, by decide⟩ (by decide) rfl rfl (Nat.le_of_ble_eq_true rfl) dX11_answerOf_24 (T_X7_stepAt F v6 a1 a2 h4) (fun v7 h8 => ?_)
      refine g_istore_n (lv' := [(3, .int v7), (0, .ref a0), (1, .int a1), (2, .int a2)]) dX11_answerOf_27 (by decide) rfl ?_
      refine g_iload_n 0 dX11_answerOf_28 rfl ?_
      refine g_bipush (v := 20) dX11_answerOf_29 (by decide) ?_
      refine g_icmp_ne (tgt := 39) dX11_answerOf_31 (by decide) (fun c9 => ?_) (fun c9 => ?_)
      · refine g_bipush (v := 99) dX11_answerOf_34 (by decide) ?_
        refine g_goto (tgt := 40) dX11_answerOf_36 (by decide) ?_
        exact g_iret rfl dX11_answerOf_40
      · refine g_iload_n 0 dX11_answerOf_39 rfl ?_
        exact g_iret rfl dX11_answerOf_40
    · refine g_iconst (v := (-1)) dX11_answerOf_16 (by decide) ?_
      exact g_iret rfl dX11_answerOf_17
set_option maxRecDepth 100000 in
noncomputable def f_X11_aloneWay (F : Nat) (a0 : Nat) (a1 : Int32) (a2 : Int32) (a3 : Int32) (h : Hp) : Option (Int32 × Hp) :=
  cV 12 h a0 (f_X11_noTwin F a0 a1 h) fun v1 h2 => if v1 = 0 then (cV 12 h2 a0 (f_X11_noDoing F a0 a2 h2) fun v4 h5 => if v4 = 0 then (if 0 ≤ a3 then (cV 12 h5 a0 (f_X11_endOfAlone F a0 a1 a2 h5) fun v8 h9 => cV 12 h9 a0 (f_X11_answerOf F a0 v8 a3 h9) fun v10 h11 => some (v10, h11)) else (some ((-3), h5))) else (some ((-2), h5))) else (some ((-2), h2))
set_option maxRecDepth 100000 in
set_option maxHeartbeats 4000000 in
theorem T_X11_aloneWay (F : Nat) (a0 : Nat) (a1 : Int32) (a2 : Int32) (a3 : Int32) (h : Hp) : GM rvI I_X11_aloneWay 7 [.ref a0, .int a1, .int a2, .int a3] h (f_X11_aloneWay F a0 a1 a2 a3 h) := by
  delta f_X11_aloneWay
  refine GM_of (lv := [(0, .ref a0), (1, .int a1), (2, .int a2), (3, .int a3)]) (by decide +kernel) (Nat.le_of_ble_eq_true rfl) rfl ?_
  refine g_aload_n 0 dX11_aloneWay_0 rfl ?_
  refine g_iload_n 1 dX11_aloneWay_1 rfl ?_
  refine g_callVi (J := I_X11_noTwin) (t := 12) (As := [.int a1]) (rest := []) mjv_X11_noTwin ml_RX11_149 ⟨rfl, by decide, by decide⟩ (by decide) rfl rfl (Nat.le_of_ble_eq_true rfl) dX11_aloneWay_2 (T_X11_noTwin F a0 a1 h) (fun v1 h2 => ?_)
  refine g_if_ne (tgt := 16) dX11_aloneWay_5 (by decide) (fun c3 => ?_) (fun c3 => ?_)
  · refine g_aload_n 0 dX11_aloneWay_8 rfl ?_
    refine g_iload_n 2 dX11_aloneWay_9 rfl ?_
    refine g_callVi (J := I_X11_noDoing) (t := 12) (As := [.int a2]) (rest := []) mjv_X11_noDoing ml_RX11_160 ⟨rfl, by decide, by decide⟩ (by decide) rfl rfl (Nat.le_of_ble_eq_true rfl) dX11_aloneWay_10 (T_X11_noDoing F a0 a2 h2) (fun v4 h5 => ?_)
    refine g_if_eq (tgt := 19) dX11_aloneWay_13 (by decide) (fun c6 => ?_) (fun c6 => ?_)
    · refine g_iload_n 3 dX11_aloneWay_19 rfl ?_
      refine g_if_ge (tgt := 26) dX11_aloneWay_20 (by decide) (fun c7 => ?_) (fun c7 => ?_)
      · refine g_aload_n 0 dX11_aloneWay_26 rfl ?_
        refine g_aload_n 0 dX11_aloneWay_27 rfl ?_
        refine g_iload_n 1 dX11_aloneWay_28 rfl ?_
        refine g_iload_n 2 dX11_aloneWay_29 rfl ?_
        refine g_callVi (J := I_X11_endOfAlone) (t := 12) (As := [.int a1, .int a2]) (rest := [.ref a0]) mjv_X11_endOfAlone ml_RX11_249 ⟨rfl, by decide, by decide⟩ (by decide) rfl rfl (Nat.le_of_ble_eq_true rfl) dX11_aloneWay_30 (T_X11_endOfAlone F a0 a1 a2 h5) (fun v8 h9 => ?_)
        refine g_iload_n 3 dX11_aloneWay_33 rfl ?_
        refine g_callVi (J := I_X11_answerOf) (t := 12) (As := [.int v8, .int a3]) (rest := []) mjv_X11_answerOf ml_RX11_246 ⟨rfl, by decide, by decide⟩ (by decide) rfl rfl (Nat.le_of_ble_eq_true rfl) dX11_aloneWay_34 (T_X11_answerOf F a0 v8 a3 h9) (fun v10 h11 => ?_)
        exact g_iret rfl dX11_aloneWay_37
      · refine g_bipush (v := (-3)) dX11_aloneWay_23 (by decide) ?_
        exact g_iret rfl dX11_aloneWay_25
    · refine g_bipush (v := (-2)) dX11_aloneWay_16 (by decide) ?_
      exact g_iret rfl dX11_aloneWay_18
  · refine g_bipush (v := (-2)) dX11_aloneWay_16 (by decide) ?_
    exact g_iret rfl dX11_aloneWay_18
set_option maxRecDepth 100000 in
noncomputable def f_X2_doJust (F : Nat) (a0 : Nat) (a1 : Int32) (a2 : Int32) (a3 : Int32) (h : Hp) : Option (Int32 × Hp) :=
  cV 3 h a0 (f_X2_doneBy F a0 a1 0 h) fun v1 h2 => if v1 = a2 then (cV 3 h2 a0 (f_X2_doneBy F a0 a1 1 h2) fun v4 h5 => if v4 = a3 then (some (1, h5)) else (some (0, h5))) else (some (0, h2))
set_option maxRecDepth 100000 in
set_option maxHeartbeats 4000000 in
theorem T_X2_doJust (F : Nat) (a0 : Nat) (a1 : Int32) (a2 : Int32) (a3 : Int32) (h : Hp) : GM rvI I_X2_doJust 2 [.ref a0, .int a1, .int a2, .int a3] h (f_X2_doJust F a0 a1 a2 a3 h) := by
  delta f_X2_doJust
  refine GM_of (lv := [(0, .ref a0), (1, .int a1), (2, .int a2), (3, .int a3)]) (by decide +kernel) (Nat.le_of_ble_eq_true rfl) rfl ?_
  refine g_aload_n 0 dX2_doJust_0 rfl ?_
  refine g_iload_n 1 dX2_doJust_1 rfl ?_
  refine g_iconst (v := 0) dX2_doJust_2 (by decide) ?_
  refine g_callVi (J := I_X2_doneBy) (t := 3) (As := [.int a1, .int 0]) (rest := []) mjv_X2_doneBy ml_RX2_75 ⟨rfl, by decide, by decide⟩ (by decide) rfl rfl (Nat.le_of_ble_eq_true rfl) dX2_doJust_3 (T_X2_doneBy F a0 a1 0 h) (fun v1 h2 => ?_)
  refine g_iload_n 2 dX2_doJust_6 rfl ?_
  refine g_icmp_ne (tgt := 24) dX2_doJust_7 (by decide) (fun c3 => ?_) (fun c3 => ?_)
  · refine g_aload_n 0 dX2_doJust_10 rfl ?_
    refine g_iload_n 1 dX2_doJust_11 rfl ?_
    refine g_iconst (v := 1) dX2_doJust_12 (by decide) ?_
    refine g_callVi (J := I_X2_doneBy) (t := 3) (As := [.int a1, .int 1]) (rest := []) mjv_X2_doneBy ml_RX2_75 ⟨rfl, by decide, by decide⟩ (by decide) rfl rfl (Nat.le_of_ble_eq_true rfl) dX2_doJust_13 (T_X2_doneBy F a0 a1 1 h2) (fun v4 h5 => ?_)
    refine g_iload_n 3 dX2_doJust_16 rfl ?_
    refine g_icmp_ne (tgt := 24) dX2_doJust_17 (by decide) (fun c6 => ?_) (fun c6 => ?_)
    · refine g_iconst (v := 1) dX2_doJust_20 (by decide) ?_
      refine g_goto (tgt := 25) dX2_doJust_21 (by decide) ?_
      exact g_zret (ty := .boolean) rfl rfl dX2_doJust_25
    · refine g_iconst (v := 0) dX2_doJust_24 (by decide) ?_
      exact g_zret (ty := .boolean) rfl rfl dX2_doJust_25
  · refine g_iconst (v := 0) dX2_doJust_24 (by decide) ?_
    exact g_zret (ty := .boolean) rfl rfl dX2_doJust_25
set_option maxRecDepth 100000 in
noncomputable def f_X8_copy (F : Nat) (a0 : Nat) (a1 : Nat) (h : Hp) : Option (Unit × Hp) :=
  gI 9 h a1 0 fun v1 => pI 9 h a0 0 v1 fun h2 => gI 9 h2 a1 1 fun v3 => pI 9 h2 a0 1 v3 fun h4 => some ((), h4)
set_option maxRecDepth 100000 in
set_option maxHeartbeats 4000000 in
theorem T_X8_copy (F : Nat) (a0 : Nat) (a1 : Nat) (h : Hp) : GM rvV I_X8_copy 1 [.ref a0, .ref a1] h (f_X8_copy F a0 a1 h) := by
  delta f_X8_copy
  refine GM_of (lv := [(0, .ref a0), (1, .ref a1)]) (by decide +kernel) (Nat.le_of_ble_eq_true rfl) rfl ?_
  refine g_aload_n 0 dX8_copy_0 rfl ?_
  refine g_aload_n 1 dX8_copy_1 rfl ?_
  refine g_getI fl_RX8_9 rfl dX8_copy_2 (fun v1 => ?_)
  refine g_putI fl_RX8_9 (Or.inl rfl) dX8_copy_5 (fun h2 => ?_)
  refine g_aload_n 0 dX8_copy_8 rfl ?_
  refine g_aload_n 1 dX8_copy_9 rfl ?_
  refine g_getI fl_RX8_15 rfl dX8_copy_10 (fun v3 => ?_)
  refine g_putI fl_RX8_15 (Or.inl rfl) dX8_copy_13 (fun h4 => ?_)
  exact g_vret rfl dX8_copy_16
set_option maxRecDepth 100000 in
noncomputable def f_J9_max_7cf53 (F : Nat) (a0 : Int32) (a1 : Int32) (h : Hp) : Option (Int32 × Hp) :=
  if a0 < a1 then (some (a1, h)) else (some (a0, h))
set_option maxRecDepth 100000 in
set_option maxHeartbeats 4000000 in
theorem T_J9_max_7cf53 (F : Nat) (a0 : Int32) (a1 : Int32) (h : Hp) : GM rvI I_J9_max_7cf53 1 [.int a0, .int a1] h (f_J9_max_7cf53 F a0 a1 h) := by
  delta f_J9_max_7cf53
  refine GM_of (lv := [(0, .int a0), (1, .int a1)]) (by decide +kernel) (Nat.le_of_ble_eq_true rfl) rfl ?_
  refine g_iload_n 0 dJ9_max_7cf53_0 rfl ?_
  refine g_iload_n 1 dJ9_max_7cf53_1 rfl ?_
  refine g_icmp_lt (tgt := 9) dJ9_max_7cf53_2 (by decide) (fun c1 => ?_) (fun c1 => ?_)
  · refine g_iload_n 1 dJ9_max_7cf53_9 rfl ?_
    exact g_iret rfl dJ9_max_7cf53_10
  · refine g_iload_n 0 dJ9_max_7cf53_5 rfl ?_
    refine g_goto (tgt := 10) dJ9_max_7cf53_6 (by decide) ?_
    exact g_iret rfl dJ9_max_7cf53_10
set_option maxRecDepth 100000 in
noncomputable def f_X8_bonding (F : Nat) (a0 : Nat) (a1 : Int32) (h : Hp) : Option (Int32 × Hp) :=
  if a1 < 0 then (some (1, h)) else (if a1 < 10 then (pI 9 h a0 1 a1 fun h3 => some (0, h3)) else (some (1, h)))
set_option maxRecDepth 100000 in
set_option maxHeartbeats 4000000 in
theorem T_X8_bonding (F : Nat) (a0 : Nat) (a1 : Int32) (h : Hp) : GM rvI I_X8_bonding 1 [.ref a0, .int a1] h (f_X8_bonding F a0 a1 h) := by
  delta f_X8_bonding
  refine GM_of (lv := [(0, .ref a0), (1, .int a1)]) (by decide +kernel) (Nat.le_of_ble_eq_true rfl) rfl ?_
  refine g_iload_n 1 dX8_bonding_0 rfl ?_
  refine g_if_lt (tgt := 10) dX8_bonding_1 (by decide) (fun c1 => ?_) (fun c1 => ?_)
  · refine g_iconst (v := 1) dX8_bonding_10 (by decide) ?_
    exact g_iret rfl dX8_bonding_11
  · refine g_iload_n 1 dX8_bonding_4 rfl ?_
    refine g_bipush (v := 10) dX8_bonding_5 (by decide) ?_
    refine g_icmp_lt (tgt := 12) dX8_bonding_7 (by decide) (fun c2 => ?_) (fun c2 => ?_)
    · refine g_aload_n 0 dX8_bonding_12 rfl ?_
      refine g_iload_n 1 dX8_bonding_13 rfl ?_
      refine g_putI fl_RX8_15 (Or.inl rfl) dX8_bonding_14 (fun h3 => ?_)
      refine g_iconst (v := 0) dX8_bonding_17 (by decide) ?_
      exact g_iret rfl dX8_bonding_18
    · refine g_iconst (v := 1) dX8_bonding_10 (by decide) ?_
      exact g_iret rfl dX8_bonding_11
set_option maxRecDepth 100000 in
noncomputable def f_X8_isThere (F : Nat) (a0 : Nat) (a1 : Int32) (a2 : Int32) (h : Hp) : Option (Int32 × Hp) :=
  if a1 < 0 then (some (0, h)) else (if 2 ≤ a1 then (some (0, h)) else (if a2 < 0 then (some (0, h)) else (gI 3 h a0 0 fun v4 => if v4 ≤ a2 then (some (0, h)) else (some (1, h)))))
set_option maxRecDepth 100000 in
set_option maxHeartbeats 4000000 in
theorem T_X8_isThere (F : Nat) (a0 : Nat) (a1 : Int32) (a2 : Int32) (h : Hp) : GM rvI I_X8_isThere 1 [.ref a0, .int a1, .int a2] h (f_X8_isThere F a0 a1 a2 h) := by
  delta f_X8_isThere
  refine GM_of (lv := [(0, .ref a0), (1, .int a1), (2, .int a2)]) (by decide +kernel) (Nat.le_of_ble_eq_true rfl) rfl ?_
  refine g_iload_n 1 dX8_isThere_0 rfl ?_
  refine g_if_lt (tgt := 25) dX8_isThere_1 (by decide) (fun c1 => ?_) (fun c1 => ?_)
  · refine g_iconst (v := 0) dX8_isThere_25 (by decide) ?_
    exact g_zret (ty := .boolean) rfl rfl dX8_isThere_26
  · refine g_iload_n 1 dX8_isThere_4 rfl ?_
    refine g_iconst (v := 2) dX8_isThere_5 (by decide) ?_
    refine g_icmp_ge (tgt := 25) dX8_isThere_6 (by decide) (fun c2 => ?_) (fun c2 => ?_)
    · refine g_iconst (v := 0) dX8_isThere_25 (by decide) ?_
      exact g_zret (ty := .boolean) rfl rfl dX8_isThere_26
    · refine g_iload_n 2 dX8_isThere_9 rfl ?_
      refine g_if_lt (tgt := 25) dX8_isThere_10 (by decide) (fun c3 => ?_) (fun c3 => ?_)
      · refine g_iconst (v := 0) dX8_isThere_25 (by decide) ?_
        exact g_zret (ty := .boolean) rfl rfl dX8_isThere_26
      · refine g_iload_n 2 dX8_isThere_13 rfl ?_
        refine g_aload_n 0 dX8_isThere_14 rfl ?_
        refine g_getI fl_RX8_18 rfl dX8_isThere_15 (fun v4 => ?_)
        refine g_icmp_ge (tgt := 25) dX8_isThere_18 (by decide) (fun c5 => ?_) (fun c5 => ?_)
        · refine g_iconst (v := 0) dX8_isThere_25 (by decide) ?_
          exact g_zret (ty := .boolean) rfl rfl dX8_isThere_26
        · refine g_iconst (v := 1) dX8_isThere_21 (by decide) ?_
          refine g_goto (tgt := 26) dX8_isThere_22 (by decide) ?_
          exact g_zret (ty := .boolean) rfl rfl dX8_isThere_26
set_option maxRecDepth 100000 in
noncomputable def f_X8_forgetting (F : Nat) (a0 : Nat) (a1 : Nat) (a2 : Int32) (a3 : Int32) (h : Hp) : Option (Int32 × Hp) :=
  bd (f_X8_isThere F a1 a2 a3 h) fun v1 h2 => if v1 = 0 then (some (1, h2)) else (gI 9 h2 a0 0 fun v4 => bd (f_X2_ageIn F v4 a2 a3 h2) fun v5 h6 => if v5 = 0 then (some (2, h6)) else (gI 9 h6 a0 0 fun v8 => pI 9 h6 a0 0 (v8 &&& (((3 : Int32) <<< (((4 * a3) + (2 * a2)) &&& 31)) ^^^ (-1))) fun h9 => some (0, h9)))
set_option maxRecDepth 100000 in
set_option maxHeartbeats 4000000 in
theorem T_X8_forgetting (F : Nat) (a0 : Nat) (a1 : Nat) (a2 : Int32) (a3 : Int32) (h : Hp) : GM rvI I_X8_forgetting 2 [.ref a0, .ref a1, .int a2, .int a3] h (f_X8_forgetting F a0 a1 a2 a3 h) := by
  delta f_X8_forgetting
  refine GM_of (lv := [(0, .ref a0), (1, .ref a1), (2, .int a2), (3, .int a3)]) (by decide +kernel) (Nat.le_of_ble_eq_true rfl) rfl ?_
  refine g_aload_n 1 dX8_forgetting_0 rfl ?_
  refine g_iload_n 2 dX8_forgetting_1 rfl ?_
  refine g_iload_n 3 dX8_forgetting_2 rfl ?_
  refine g_callSi (J := I_X8_isThere) (As := [.ref a1, .int a2, .int a3]) (rest := []) mjs_X8_isThere ml_RX8_23 (by decide) rfl rfl (Nat.le_of_ble_eq_true rfl) dX8_forgetting_3 (T_X8_isThere F a1 a2 a3 h) (fun v1 h2 => ?_)
  refine g_if_ne (tgt := 11) dX8_forgetting_6 (by decide) (fun c3 => ?_) (fun c3 => ?_)
  · refine g_iconst (v := 1) dX8_forgetting_9 (by decide) ?_
    exact g_iret rfl dX8_forgetting_10
  · refine g_aload_n 0 dX8_forgetting_11 rfl ?_
    refine g_getI fl_RX8_9 rfl dX8_forgetting_12 (fun v4 => ?_)
    refine g_iload_n 2 dX8_forgetting_15 rfl ?_
    refine g_iload_n 3 dX8_forgetting_16 rfl ?_
    refine g_callSi (J := I_X2_ageIn) (As := [.int v4, .int a2, .int a3]) (rest := []) mjs_X2_ageIn ml_RX8_31 (by decide) rfl rfl (Nat.le_of_ble_eq_true rfl) dX8_forgetting_17 (T_X2_ageIn F v4 a2 a3 h2) (fun v5 h6 => ?_)
    refine g_if_ne (tgt := 25) dX8_forgetting_20 (by decide) (fun c7 => ?_) (fun c7 => ?_)
    · refine g_iconst (v := 2) dX8_forgetting_23 (by decide) ?_
      exact g_iret rfl dX8_forgetting_24
    · refine g_aload_n 0 dX8_forgetting_25 rfl ?_
      refine g_dup dX8_forgetting_26 rfl ?_
      refine g_getI fl_RX8_9 rfl dX8_forgetting_27 (fun v8 => ?_)
      refine g_iconst (v := 3) dX8_forgetting_30 (by decide) ?_
      refine g_iconst (v := 4) dX8_forgetting_31 (by decide) ?_
      refine g_iload_n 3 dX8_forgetting_32 rfl ?_
      refine g_imul dX8_forgetting_33 ?_
      refine g_iconst (v := 2) dX8_forgetting_34 (by decide) ?_
      refine g_iload_n 2 dX8_forgetting_35 rfl ?_
      refine g_imul dX8_forgetting_36 ?_
      refine g_iadd dX8_forgetting_37 ?_
      refine g_ishl dX8_forgetting_38 ?_
      refine g_iconst (v := (-1)) dX8_forgetting_39 (by decide) ?_
      refine g_ixor dX8_forgetting_40 ?_
      refine g_iand dX8_forgetting_41 ?_
      refine g_putI fl_RX8_9 (Or.inl rfl) dX8_forgetting_42 (fun h9 => ?_)
      refine g_iconst (v := 0) dX8_forgetting_45 (by decide) ?_
      exact g_iret rfl dX8_forgetting_46
set_option maxRecDepth 100000 in
noncomputable def f_X8_telling (F : Nat) (a0 : Nat) (a1 : Nat) (a2 : Int32) (a3 : Int32) (h : Hp) : Option (Int32 × Hp) :=
  bd (f_X8_isThere F a1 a2 a3 h) fun v1 h2 => if v1 = 0 then (some (1, h2)) else (gI 9 h2 a0 0 fun v4 => gI 9 h2 a0 1 fun v5 => cV 3 h2 a1 (f_X2_afterTelling F a1 v4 v5 a2 a3 h2) fun v6 h7 => if 0 ≤ v6 then (pI 9 h7 a0 0 v6 fun h9 => some (0, h9)) else (some (3, h7)))
set_option maxRecDepth 100000 in
set_option maxHeartbeats 4000000 in
theorem T_X8_telling (F : Nat) (a0 : Nat) (a1 : Nat) (a2 : Int32) (a3 : Int32) (h : Hp) : GM rvI I_X8_telling 4 [.ref a0, .ref a1, .int a2, .int a3] h (f_X8_telling F a0 a1 a2 a3 h) := by
  delta f_X8_telling
  refine GM_of (lv := [(0, .ref a0), (1, .ref a1), (2, .int a2), (3, .int a3)]) (by decide +kernel) (Nat.le_of_ble_eq_true rfl) rfl ?_
  refine g_aload_n 1 dX8_telling_0 rfl ?_
  refine g_iload_n 2 dX8_telling_1 rfl ?_
  refine g_iload_n 3 dX8_telling_2 rfl ?_
  refine g_callSi (J := I_X8_isThere) (As := [.ref a1, .int a2, .int a3]) (rest := []) mjs_X8_isThere ml_RX8_23 (by decide) rfl rfl (Nat.le_of_ble_eq_true rfl) dX8_telling_3 (T_X8_isThere F a1 a2 a3 h) (fun v1 h2 => ?_)
  refine g_if_ne (tgt := 11) dX8_telling_6 (by decide) (fun c3 => ?_) (fun c3 => ?_)
  · refine g_iconst (v := 1) dX8_telling_9 (by decide) ?_
    exact g_iret rfl dX8_telling_10
  · refine g_aload_n 1 dX8_telling_11 rfl ?_
    refine g_aload_n 0 dX8_telling_12 rfl ?_
    refine g_getI fl_RX8_9 rfl dX8_telling_13 (fun v4 => ?_)
    refine g_aload_n 0 dX8_telling_16 rfl ?_
    refine g_getI fl_RX8_15 rfl dX8_telling_17 (fun v5 => ?_)
    refine g_iload_n 2 dX8_telling_20 rfl ?_
    refine g_iload_n 3 dX8_telling_21 rfl ?_
    refine g_callVi (J := I_X2_afterTelling) (t := 3) (As := [.int v4, .int v5, .int a2, .int a3]) (rest := []) mjv_X2_afterTelling ml_RX8_27 ⟨rfl, by decide, by decide⟩ (by decide) rfl rfl (Nat.le_of_ble_eq_true rfl) dX8_telling_22 (T_X2_afterTelling F a1 v4 v5 a2 a3 h2) (fun v6 h7 => ?_)
    refine g_istore (lv' := [(4, .int v6), (0, .ref a0), (1, .ref a1), (2, .int a2), (3, .int a3)]) dX8_telling_25 (by decide) rfl ?_
    refine g_iload 0 dX8_telling_27 rfl ?_
    refine g_if_ge (tgt := 34) dX8_telling_29 (by decide) (fun c8 => ?_) (fun c8 => ?_)
    · refine g_aload_n 1 dX8_telling_34 rfl ?_
      refine g_iload 0 dX8_telling_35 rfl ?_
      refine g_putI fl_RX8_9 (Or.inl rfl) dX8_telling_37 (fun h9 => ?_)
      refine g_iconst (v := 0) dX8_telling_40 (by decide) ?_
      exact g_iret rfl dX8_telling_41
    · refine g_iconst (v := 3) dX8_telling_32 (by decide) ?_
      exact g_iret rfl dX8_telling_33
set_option maxRecDepth 100000 in
noncomputable def f_X8_deed_86 (F : Nat) (l0 : Nat) (l2 : Int64) (h : Hp) : Option (Int32 × Hp) :=
  if ((l2 : Int64) < 200 : Prop) then (some (1, h)) else (if (210 ≤ (l2 : Int64) : Prop) then (some (1, h)) else (cV 9 h l0 (f_X8_bonding F l0 (((l2 : Int64).toInt32) - 200) h) fun v10 h11 => some (v10, h11)))
set_option maxRecDepth 100000 in
set_option maxHeartbeats 4000000 in
theorem T_X8_deed_86 (F : Nat) (l0 : Nat) (l2 : Int64) (h : Hp) : G rvI I_X8_deed 5 86 [(0, .ref l0), (2, .long l2)] [] h (f_X8_deed_86 F l0 l2 h) := by
  delta f_X8_deed_86
  refine g_lload_n 1 dX8_deed_86 rfl ?_
  refine g_ldc2 (v := 200) dX8_deed_87 cl_RX8_54 ?_
  refine g_lc_lt (x := l2) (y := 200) (tgt := 115) dX8_deed_90 dX8_deed_91 (by decide) (fun c8 => ?_) (fun c8 => ?_)
  · refine g_iconst (v := 1) dX8_deed_115 (by decide) ?_
    exact g_iret rfl dX8_deed_116
  · refine g_lload_n 1 dX8_deed_94 rfl ?_
    refine g_ldc2 (v := 210) dX8_deed_95 cl_RX8_56 ?_
    refine g_lc_ge (x := l2) (y := 210) (tgt := 115) dX8_deed_98 dX8_deed_99 (by decide) (fun c9 => ?_) (fun c9 => ?_)
    · refine g_iconst (v := 1) dX8_deed_115 (by decide) ?_
      exact g_iret rfl dX8_deed_116
    · refine g_aload_n 0 dX8_deed_102 rfl ?_
      refine g_lload_n 1 dX8_deed_103 rfl ?_
      refine g_l2i dX8_deed_104 ?_
      refine g_sipush (v := 200) dX8_deed_105 (by decide) ?_
      refine g_isub dX8_deed_108 ?_
      refine g_callVi (J := I_X8_bonding) (t := 9) (As := [.int (((l2 : Int64).toInt32) - 200)]) (rest := []) mjv_X8_bonding ml_RX8_58 ⟨rfl, by decide, by decide⟩ (by decide) rfl rfl (Nat.le_of_ble_eq_true rfl) dX8_deed_109 (T_X8_bonding F l0 (((l2 : Int64).toInt32) - 200) h) (fun v10 h11 => ?_)
      refine g_goto (tgt := 116) dX8_deed_112 (by decide) ?_
      exact g_iret rfl dX8_deed_116
set_option maxRecDepth 100000 in
noncomputable def f_X8_deed_51 (F : Nat) (l0 : Nat) (l1 : Nat) (l2 : Int64) (h : Hp) : Option (Int32 × Hp) :=
  if ((l2 : Int64) < 100 : Prop) then (f_X8_deed_86 F l0 l2 h) else (if (120 ≤ (l2 : Int64) : Prop) then (f_X8_deed_86 F l0 l2 h) else (cV 9 h l0 (f_X8_forgetting F l0 l1 ((((l2 : Int64).toInt32) / 10) - 10) (((l2 : Int64).toInt32) - ((l2 : Int64).toInt32) / 10 * 10) h) fun v13 h14 => some (v13, h14)))
set_option maxRecDepth 100000 in
set_option maxHeartbeats 4000000 in
theorem T_X8_deed_51 (F : Nat) (l0 : Nat) (l1 : Nat) (l2 : Int64) (h : Hp) : G rvI I_X8_deed 5 51 [(0, .ref l0), (1, .ref l1), (2, .long l2)] [] h (f_X8_deed_51 F l0 l1 l2 h) := by
  delta f_X8_deed_51
  refine g_lload_n 2 dX8_deed_51 rfl ?_
  refine g_ldc2 (v := 100) dX8_deed_52 cl_RX8_47 ?_
  refine g_lc_lt (x := l2) (y := 100) (tgt := 86) dX8_deed_55 dX8_deed_56 (by decide) (fun c7 => ?_) (fun c7 => ?_)
  · refine G_lv [0, 2] rfl ?_
    exact T_X8_deed_86 F l0 l2 h
  · refine g_lload_n 2 dX8_deed_59 rfl ?_
    refine g_ldc2 (v := 120) dX8_deed_60 cl_RX8_49 ?_
    refine g_lc_ge (x := l2) (y := 120) (tgt := 86) dX8_deed_63 dX8_deed_64 (by decide) (fun c12 => ?_) (fun c12 => ?_)
    · refine G_lv [0, 2] rfl ?_
      exact T_X8_deed_86 F l0 l2 h
    · refine g_aload_n 0 dX8_deed_67 rfl ?_
      refine g_aload_n 1 dX8_deed_68 rfl ?_
      refine g_lload_n 2 dX8_deed_69 rfl ?_
      refine g_l2i dX8_deed_70 ?_
      refine g_bipush (v := 10) dX8_deed_71 (by decide) ?_
      refine g_idiv (by decide) dX8_deed_73 ?_
      refine g_bipush (v := 10) dX8_deed_74 (by decide) ?_
      refine g_isub dX8_deed_76 ?_
      refine g_lload_n 2 dX8_deed_77 rfl ?_
      refine g_l2i dX8_deed_78 ?_
      refine g_bipush (v := 10) dX8_deed_79 (by decide) ?_
      refine g_irem (by decide) dX8_deed_81 ?_
      refine g_callVi (J := I_X8_forgetting) (t := 9) (As := [.ref l1, .int ((((l2 : Int64).toInt32) / 10) - 10), .int (((l2 : Int64).toInt32) - ((l2 : Int64).toInt32) / 10 * 10)]) (rest := []) mjv_X8_forgetting ml_RX8_51 ⟨rfl, by decide, by decide⟩ (by decide) rfl rfl (Nat.le_of_ble_eq_true rfl) dX8_deed_82 (T_X8_forgetting F l0 l1 ((((l2 : Int64).toInt32) / 10) - 10) (((l2 : Int64).toInt32) - ((l2 : Int64).toInt32) / 10 * 10) h) (fun v13 h14 => ?_)
      exact g_iret rfl dX8_deed_85
set_option maxRecDepth 100000 in
noncomputable def f_X8_deed (F : Nat) (a0 : Nat) (a1 : Nat) (a2 : Int64) (h : Hp) : Option (Int32 × Hp) :=
  if ((a2 : Int64) = (-1) : Prop) then (gI 9 h a0 0 fun v2 => bd (f_X2_afterDay F v2 h) fun v3 h4 => pI 9 h4 a0 0 v3 fun h5 => some (0, h5)) else (if ((a2 : Int64) < 0 : Prop) then (f_X8_deed_51 F a0 a1 a2 h) else (if (20 ≤ (a2 : Int64) : Prop) then (f_X8_deed_51 F a0 a1 a2 h) else (cV 9 h a0 (f_X8_telling F a0 a1 (((a2 : Int64).toInt32) / 10) (((a2 : Int64).toInt32) - ((a2 : Int64).toInt32) / 10 * 10) h) fun v16 h17 => some (v16, h17))))
set_option maxRecDepth 100000 in
set_option maxHeartbeats 4000000 in
theorem T_X8_deed (F : Nat) (a0 : Nat) (a1 : Nat) (a2 : Int64) (h : Hp) : GM rvI I_X8_deed 5 [.ref a0, .ref a1, .long a2] h (f_X8_deed F a0 a1 a2 h) := by
  delta f_X8_deed
  refine GM_of (lv := [(0, .ref a0), (1, .ref a1), (2, .long a2)]) (by decide +kernel) (Nat.le_of_ble_eq_true rfl) rfl ?_
  refine g_lload_n 2 dX8_deed_0 rfl ?_
  refine g_ldc2 (v := (-1)) dX8_deed_1 cl_RX8_35 ?_
  refine g_lc_ne (x := a2) (y := (-1)) (tgt := 21) dX8_deed_4 dX8_deed_5 (by decide) (fun c1 => ?_) (fun c1 => ?_)
  · refine g_aload_n 0 dX8_deed_8 rfl ?_
    refine g_aload_n 0 dX8_deed_9 rfl ?_
    refine g_getI fl_RX8_9 rfl dX8_deed_10 (fun v2 => ?_)
    refine g_callSi (J := I_X2_afterDay) (As := [.int v2]) (rest := [.ref a0]) mjs_X2_afterDay ml_RX8_37 (by decide) rfl rfl (Nat.le_of_ble_eq_true rfl) dX8_deed_13 (T_X2_afterDay F v2 h) (fun v3 h4 => ?_)
    refine g_putI fl_RX8_9 (Or.inl rfl) dX8_deed_16 (fun h5 => ?_)
    refine g_iconst (v := 0) dX8_deed_19 (by decide) ?_
    exact g_iret rfl dX8_deed_20
  · refine g_lload_n 2 dX8_deed_21 rfl ?_
    refine g_lconst (v := 0) dX8_deed_22 (by decide) ?_
    refine g_lc_lt (x := a2) (y := 0) (tgt := 51) dX8_deed_23 dX8_deed_24 (by decide) (fun c6 => ?_) (fun c6 => ?_)
    · refine G_lv [0, 1, 2] rfl ?_
      exact T_X8_deed_51 F a0 a1 a2 h
    · refine g_lload_n 2 dX8_deed_27 rfl ?_
      refine g_ldc2 (v := 20) dX8_deed_28 cl_RX8_41 ?_
      refine g_lc_ge (x := a2) (y := 20) (tgt := 51) dX8_deed_31 dX8_deed_32 (by decide) (fun c15 => ?_) (fun c15 => ?_)
      · refine G_lv [0, 1, 2] rfl ?_
        exact T_X8_deed_51 F a0 a1 a2 h
      · refine g_aload_n 0 dX8_deed_35 rfl ?_
        refine g_aload_n 1 dX8_deed_36 rfl ?_
        refine g_lload_n 2 dX8_deed_37 rfl ?_
        refine g_l2i dX8_deed_38 ?_
        refine g_bipush (v := 10) dX8_deed_39 (by decide) ?_
        refine g_idiv (by decide) dX8_deed_41 ?_
        refine g_lload_n 2 dX8_deed_42 rfl ?_
        refine g_l2i dX8_deed_43 ?_
        refine g_bipush (v := 10) dX8_deed_44 (by decide) ?_
        refine g_irem (by decide) dX8_deed_46 ?_
        refine g_callVi (J := I_X8_telling) (t := 9) (As := [.ref a1, .int (((a2 : Int64).toInt32) / 10), .int (((a2 : Int64).toInt32) - ((a2 : Int64).toInt32) / 10 * 10)]) (rest := []) mjv_X8_telling ml_RX8_43 ⟨rfl, by decide, by decide⟩ (by decide) rfl rfl (Nat.le_of_ble_eq_true rfl) dX8_deed_47 (T_X8_telling F a0 a1 (((a2 : Int64).toInt32) / 10) (((a2 : Int64).toInt32) - ((a2 : Int64).toInt32) / 10 * 10) h) (fun v16 h17 => ?_)
        exact g_iret rfl dX8_deed_50
set_option maxRecDepth 100000 in
noncomputable def f_X9_at (F : Nat) (a0 : Nat) (a1 : Int32) (h : Hp) : Option (Int64 × Hp) :=
  if a1 < 0 then (some (0, h)) else (gR 10 h a0 2 fun v2 => al 23 h v2 fun v3 => if v3 ≤ a1 then (some (0, h)) else (gR 10 h a0 2 fun v5 => aL h v5 a1 fun v6 => some (v6, h)))
set_option maxRecDepth 100000 in
set_option maxHeartbeats 4000000 in
theorem T_X9_at (F : Nat) (a0 : Nat) (a1 : Int32) (h : Hp) : GM rvL I_X9_at 1 [.ref a0, .int a1] h (f_X9_at F a0 a1 h) := by
  delta f_X9_at
  refine GM_of (lv := [(0, .ref a0), (1, .int a1)]) (by decide +kernel) (Nat.le_of_ble_eq_true rfl) rfl ?_
  refine g_iload_n 1 dX9_at_0 rfl ?_
  refine g_if_lt (tgt := 22) dX9_at_1 (by decide) (fun c1 => ?_) (fun c1 => ?_)
  · refine g_lconst (v := 0) dX9_at_22 (by decide) ?_
    exact g_lret rfl dX9_at_23
  · refine g_iload_n 1 dX9_at_4 rfl ?_
    refine g_aload_n 0 dX9_at_5 rfl ?_
    refine g_getR fl_RX9_15 rfl dX9_at_6 (fun v2 => ?_)
    refine g_alen (by decide) (by decide) dX9_at_9 (fun v3 => ?_)
    refine g_icmp_ge (tgt := 22) dX9_at_10 (by decide) (fun c4 => ?_) (fun c4 => ?_)
    · refine g_lconst (v := 0) dX9_at_22 (by decide) ?_
      exact g_lret rfl dX9_at_23
    · refine g_aload_n 0 dX9_at_13 rfl ?_
      refine g_getR fl_RX9_15 rfl dX9_at_14 (fun v5 => ?_)
      refine g_iload_n 1 dX9_at_17 rfl ?_
      refine g_lald dX9_at_18 (fun v6 => ?_)
      refine g_goto (tgt := 23) dX9_at_19 (by decide) ?_
      exact g_lret rfl dX9_at_23
