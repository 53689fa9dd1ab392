/-! L2, by program (wip/whole/gen/gen.py) -/
set_option maxRecDepth 100000 in
noncomputable def f_X2_doAtLeast (F : Nat) (a0 : Nat) (a1 : Int32) (a2 : Int32) (a3 : Int32) (h : Hp) : Option (Int32 × Hp) :=
  cV 3 h a0 (f_X2_doneBy F a0 a1 0 h) fun v1 h2 => if (v1 &&& a2) = a2 then (cV 3 h2 a0 (f_X2_doneBy F a0 a1 1 h2) fun v4 h5 => if (v4 &&& a3) = a3 then (some (1, h5)) else (some (0, h5))) else (some (0, h2))
set_option maxRecDepth 100000 in
set_option maxHeartbeats 4000000 in
theorem T_X2_doAtLeast (F : Nat) (a0 : Nat) (a1 : Int32) (a2 : Int32) (a3 : Int32) (h : Hp) : GM rvI I_X2_doAtLeast 2 [.ref a0, .int a1, .int a2, .int a3] h (f_X2_doAtLeast F a0 a1 a2 a3 h) := by
  delta f_X2_doAtLeast
  refine GM_of (lv := [(0, .ref a0), (1, .int a1), (2, .int a2), (3, .int a3)]) (by decide +kernel) (Nat.le_of_ble_eq_true rfl) rfl ?_
  refine g_aload_n 0 dX2_doAtLeast_0 rfl ?_
  refine g_iload_n 1 dX2_doAtLeast_1 rfl ?_
  refine g_iconst (v := 0) dX2_doAtLeast_2 (by decide) ?_
  refine g_callVi (J := I_X2_doneBy) (t := 3) (As := [.int a1, .int 0]) (rest := []) mjv_X2_doneBy ml_RX2_75 ⟨rfl, by decide, by decide⟩ (by decide) rfl rfl (Nat.le_of_ble_eq_true rfl) dX2_doAtLeast_3 (T_X2_doneBy F a0 a1 0 h) (fun v1 h2 => ?_)
  refine g_iload_n 2 dX2_doAtLeast_6 rfl ?_
  refine g_iand dX2_doAtLeast_7 ?_
  refine g_iload_n 2 dX2_doAtLeast_8 rfl ?_
  refine g_icmp_ne (tgt := 28) dX2_doAtLeast_9 (by decide) (fun c3 => ?_) (fun c3 => ?_)
  · refine g_aload_n 0 dX2_doAtLeast_12 rfl ?_
    refine g_iload_n 1 dX2_doAtLeast_13 rfl ?_
    refine g_iconst (v := 1) dX2_doAtLeast_14 (by decide) ?_
    refine g_callVi (J := I_X2_doneBy) (t := 3) (As := [.int a1, .int 1]) (rest := []) mjv_X2_doneBy ml_RX2_75 ⟨rfl, by decide, by decide⟩ (by decide) rfl rfl (Nat.le_of_ble_eq_true rfl) dX2_doAtLeast_15 (T_X2_doneBy F a0 a1 1 h2) (fun v4 h5 => ?_)
    refine g_iload_n 3 dX2_doAtLeast_18 rfl ?_
    refine g_iand dX2_doAtLeast_19 ?_
    refine g_iload_n 3 dX2_doAtLeast_20 rfl ?_
    refine g_icmp_ne (tgt := 28) dX2_doAtLeast_21 (by decide) (fun c6 => ?_) (fun c6 => ?_)
    · refine g_iconst (v := 1) dX2_doAtLeast_24 (by decide) ?_
      refine g_goto (tgt := 29) dX2_doAtLeast_25 (by decide) ?_
      exact g_zret (ty := .boolean) rfl rfl dX2_doAtLeast_29
    · refine g_iconst (v := 0) dX2_doAtLeast_28 (by decide) ?_
      exact g_zret (ty := .boolean) rfl rfl dX2_doAtLeast_29
  · refine g_iconst (v := 0) dX2_doAtLeast_28 (by decide) ?_
    exact g_zret (ty := .boolean) rfl rfl dX2_doAtLeast_29
set_option maxRecDepth 100000 in
noncomputable def f_X7_firstAtGoal_2_b (F : Nat) (K2 : Nat → Int32 → Int32 → Int32 → Hp → Option (Int32 × Hp)) (l0 : Nat) (l1 : Int32) (l2 : Int32) (l3 : Int32) (h : Hp) : Option (Int32 × Hp) :=
  gR 8 h l0 0 fun v1 => al 20 h v1 fun v2 => if v2 ≤ l3 then (some ((-1), h)) else (cV 8 h l0 (f_X7_finds F l0 l3 h) fun v4 h5 => if v4 = 0 then (some ((-1), h5)) else (gR 8 h5 l0 4 fun v7 => cV 8 h5 l0 (f_X7_agesOf F l0 l3 h5) fun v8 h9 => cV 3 h9 v7 (f_X2_doAtLeast F v7 v8 l1 l2 h9) fun v10 h11 => if v10 = 0 then (K2 l0 l1 l2 (l3 + 1) h11) else (some (l3, h11))))
set_option maxRecDepth 100000 in
set_option maxHeartbeats 4000000 in
theorem T_X7_firstAtGoal_2_b (F : Nat) {K2 : Nat → Int32 → Int32 → Int32 → Hp → Option (Int32 × Hp)} (hK2 : ∀ (l0 : Nat) (l1 : Int32) (l2 : Int32) (l3 : Int32) (h : Hp), G rvI I_X7_firstAtGoal 5 2 [(0, .ref l0), (1, .int l1), (2, .int l2), (3, .int l3)] [] h (K2 l0 l1 l2 l3 h)) (l0 : Nat) (l1 : Int32) (l2 : Int32) (l3 : Int32) (h : Hp) : G rvI I_X7_firstAtGoal 5 2 [(0, .ref l0), (1, .int l1), (2, .int l2), (3, .int l3)] [] h (f_X7_firstAtGoal_2_b F K2 l0 l1 l2 l3 h) := by
  delta f_X7_firstAtGoal_2_b
  refine g_iload_n 3 dX7_firstAtGoal_2 rfl ?_
  refine g_aload_n 0 dX7_firstAtGoal_3 rfl ?_
  refine g_getR fl_RX7_9 rfl dX7_firstAtGoal_4 (fun v1 => ?_)
  refine g_alen (by decide) (by decide) dX7_firstAtGoal_7 (fun v2 => ?_)
  refine g_icmp_ge (tgt := 44) dX7_firstAtGoal_8 (by decide) (fun c3 => ?_) (fun c3 => ?_)
  · refine g_iconst (v := (-1)) dX7_firstAtGoal_44 (by decide) ?_
    exact g_iret rfl dX7_firstAtGoal_45
  · refine g_aload_n 0 dX7_firstAtGoal_11 rfl ?_
    refine g_iload_n 3 dX7_firstAtGoal_12 rfl ?_
    refine g_callVi (J := I_X7_finds) (t := 8) (As := [.int l3]) (rest := []) mjv_X7_finds ml_RX7_92 ⟨rfl, by decide, by decide⟩ (by decide) rfl rfl (Nat.le_of_ble_eq_true rfl) dX7_firstAtGoal_13 (T_X7_finds F l0 l3 h) (fun v4 h5 => ?_)
    refine g_if_eq (tgt := 44) dX7_firstAtGoal_16 (by decide) (fun c6 => ?_) (fun c6 => ?_)
    · refine g_iconst (v := (-1)) dX7_firstAtGoal_44 (by decide) ?_
      exact g_iret rfl dX7_firstAtGoal_45
    · refine g_aload_n 0 dX7_firstAtGoal_19 rfl ?_
      refine g_getR fl_RX7_18 rfl dX7_firstAtGoal_20 (fun v7 => ?_)
      refine g_aload_n 0 dX7_firstAtGoal_23 rfl ?_
      refine g_iload_n 3 dX7_firstAtGoal_24 rfl ?_
      refine g_callVi (J := I_X7_agesOf) (t := 8) (As := [.int l3]) (rest := [.ref v7]) mjv_X7_agesOf ml_RX7_70 ⟨rfl, by decide, by decide⟩ (by decide) rfl rfl (Nat.le_of_ble_eq_true rfl) dX7_firstAtGoal_25 (T_X7_agesOf F l0 l3 h5) (fun v8 h9 => ?_)
      refine g_iload_n 1 dX7_firstAtGoal_28 rfl ?_
      refine g_iload_n 2 dX7_firstAtGoal_29 rfl ?_
      refine g_callVi (J := I_X2_doAtLeast) (t := 3) (As := [.int v8, .int l1, .int l2]) (rest := []) mjv_X2_doAtLeast ml_RX7_97 ⟨rfl, by decide, by decide⟩ (by decide) rfl rfl (Nat.le_of_ble_eq_true rfl) dX7_firstAtGoal_30 (T_X2_doAtLeast F v7 v8 l1 l2 h9) (fun v10 h11 => ?_)
      refine g_if_eq (tgt := 38) dX7_firstAtGoal_33 (by decide) (fun c12 => ?_) (fun c12 => ?_)
      · refine g_iinc (v' := l3 + 1) (lv' := [(3, .int (l3 + 1)), (0, .ref l0), (1, .int l1), (2, .int l2)]) 3 dX7_firstAtGoal_38 rfl rfl (by decide) rfl ?_
        refine g_goto (tgt := 2) dX7_firstAtGoal_41 (by decide) ?_
        refine G_lv [1, 2, 3, 0] rfl ?_
        exact hK2 l0 l1 l2 (l3 + 1) h11
      · refine g_iload_n 3 dX7_firstAtGoal_36 rfl ?_
        exact g_iret rfl dX7_firstAtGoal_37
set_option maxRecDepth 100000 in
noncomputable def f_X7_firstAtGoal_2 (F : Nat) : Nat → Nat → Int32 → Int32 → Int32 → Hp → Option (Int32 × Hp)
  | 0, _, _, _, _, _ => none
  | n + 1, l0, l1, l2, l3, h => f_X7_firstAtGoal_2_b F (f_X7_firstAtGoal_2 F n) l0 l1 l2 l3 h
set_option maxRecDepth 100000 in
set_option maxHeartbeats 4000000 in
theorem T_X7_firstAtGoal_2 (F : Nat) : ∀ (n : Nat) (l0 : Nat) (l1 : Int32) (l2 : Int32) (l3 : Int32) (h : Hp), G rvI I_X7_firstAtGoal 5 2 [(0, .ref l0), (1, .int l1), (2, .int l2), (3, .int l3)] [] h (f_X7_firstAtGoal_2 F n l0 l1 l2 l3 h) := by
  intro n
  induction n with
  | zero => intros; exact G_none
  | succ n ih => intro l0 l1 l2 l3 h; exact T_X7_firstAtGoal_2_b F ih l0 l1 l2 l3 h
set_option maxRecDepth 100000 in
noncomputable def f_X7_firstAtGoal (F : Nat) (a0 : Nat) (a1 : Int32) (a2 : Int32) (h : Hp) : Option (Int32 × Hp) :=
  f_X7_firstAtGoal_2 F F a0 a1 a2 0 h
set_option maxRecDepth 100000 in
set_option maxHeartbeats 4000000 in
theorem T_X7_firstAtGoal (F : Nat) (a0 : Nat) (a1 : Int32) (a2 : Int32) (h : Hp) : GM rvI I_X7_firstAtGoal 5 [.ref a0, .int a1, .int a2] h (f_X7_firstAtGoal F a0 a1 a2 h) := by
  delta f_X7_firstAtGoal
  refine GM_of (lv := [(0, .ref a0), (1, .int a1), (2, .int a2)]) (by decide +kernel) (Nat.le_of_ble_eq_true rfl) rfl ?_
  refine g_iconst (v := 0) dX7_firstAtGoal_0 (by decide) ?_
  refine g_istore_n (lv' := [(3, .int 0), (0, .ref a0), (1, .int a1), (2, .int a2)]) dX7_firstAtGoal_1 (by decide) rfl ?_
  refine G_lv [1, 2, 3, 0] rfl ?_
  exact T_X7_firstAtGoal_2 F F a0 a1 a2 0 h
set_option maxRecDepth 100000 in
noncomputable def f_X11_endOfComing (F : Nat) (a0 : Nat) (a1 : Int32) (a2 : Int32) (h : Hp) : Option (Int32 × Hp) :=
  gR 12 h a0 11 fun v1 => gR 12 h a0 3 fun v2 => gR 12 h a0 5 fun v3 => cV 8 h v1 (f_X7_begin F v1 v2 v3 (-1) (-1) h) fun v4 h5 => gR 12 h5 a0 11 fun v6 => cV 8 h5 v6 (f_X7_firstAtGoal F v6 a1 a2 h5) fun v7 h8 => some (v7, h8)
set_option maxRecDepth 100000 in
set_option maxHeartbeats 4000000 in
theorem T_X11_endOfComing (F : Nat) (a0 : Nat) (a1 : Int32) (a2 : Int32) (h : Hp) : GM rvI I_X11_endOfComing 6 [.ref a0, .int a1, .int a2] h (f_X11_endOfComing F a0 a1 a2 h) := by
  delta f_X11_endOfComing
  refine GM_of (lv := [(0, .ref a0), (1, .int a1), (2, .int a2)]) (by decide +kernel) (Nat.le_of_ble_eq_true rfl) rfl ?_
  refine g_aload_n 0 dX11_endOfComing_0 rfl ?_
  refine g_getR fl_RX11_66 rfl dX11_endOfComing_1 (fun v1 => ?_)
  refine g_aload_n 0 dX11_endOfComing_4 rfl ?_
  refine g_getR fl_RX11_20 rfl dX11_endOfComing_5 (fun v2 => ?_)
  refine g_aload_n 0 dX11_endOfComing_8 rfl ?_
  refine g_getR fl_RX11_36 rfl dX11_endOfComing_9 (fun v3 => ?_)
  refine g_iconst (v := (-1)) dX11_endOfComing_12 (by decide) ?_
  refine g_iconst (v := (-1)) dX11_endOfComing_13 (by decide) ?_
  refine g_callVv (J := I_X7_begin) (t := 8) (As := [.ref v2, .ref v3, .int (-1), .int (-1)]) (rest := []) mjv_X7_begin ml_RX11_252 ⟨rfl, by decide, by decide⟩ (by decide) rfl rfl (Nat.le_of_ble_eq_true rfl) dX11_endOfComing_14 (T_X7_begin F v1 v2 v3 (-1) (-1) h) (fun v4 h5 => ?_)
  refine g_aload_n 0 dX11_endOfComing_17 rfl ?_
  refine g_getR fl_RX11_66 rfl dX11_endOfComing_18 (fun v6 => ?_)
  refine g_iload_n 1 dX11_endOfComing_21 rfl ?_
  refine g_iload_n 2 dX11_endOfComing_22 rfl ?_
  refine g_callVi (J := I_X7_firstAtGoal) (t := 8) (As := [.int a1, .int a2]) (rest := []) mjv_X7_firstAtGoal ml_RX11_256 ⟨rfl, by decide, by decide⟩ (by decide) rfl rfl (Nat.le_of_ble_eq_true rfl) dX11_endOfComing_23 (T_X7_firstAtGoal F v6 a1 a2 h5) (fun v7 h8 => ?_)
  exact g_iret rfl dX11_endOfComing_26
set_option maxRecDepth 100000 in
noncomputable def f_X9_cut (F : Nat) (a0 : Nat) (a1 : Int64) (h : Hp) : Option (Int64 × Hp) :=
  gI 10 h a0 1 fun v1 => if v1 = 0 then (some (((((((a1 : Int64).toInt32) : Int32).toInt8.toInt32) : Int32).toInt64), h)) else (if v1 = 1 then (some (((((((a1 : Int64).toInt32) : Int32).toInt16.toInt32) : Int32).toInt64), h)) else (if v1 = 2 then (some (((((a1 : Int64).toInt32) : Int32).toInt64), h)) else (some (a1, h))))
set_option maxRecDepth 100000 in
set_option maxHeartbeats 4000000 in
theorem T_X9_cut (F : Nat) (a0 : Nat) (a1 : Int64) (h : Hp) : GM rvL I_X9_cut 1 [.ref a0, .long a1] h (f_X9_cut F a0 a1 h) := by
  delta f_X9_cut
  refine GM_of (lv := [(0, .ref a0), (1, .long a1)]) (by decide +kernel) (Nat.le_of_ble_eq_true rfl) rfl ?_
  refine g_aload_n 0 dX9_cut_0 rfl ?_
  refine g_getI fl_RX9_19 rfl dX9_cut_1 (fun v1 => ?_)
  refine G_ite (fun c2 => ?_) (fun c2 => ?_)
  · refine g_tin 0 (28) dX9_cut_4 c2 (by decide) (by decide) (by decide) (by decide) (tgt := 32) ?_
    refine g_lload_n 1 dX9_cut_32 rfl ?_
    refine g_l2i dX9_cut_33 ?_
    refine g_i2b dX9_cut_34 ?_
    refine g_i2l dX9_cut_35 ?_
    exact g_lret rfl dX9_cut_36
  · refine G_ite (fun c3 => ?_) (fun c3 => ?_)
    · refine g_tin 1 (33) dX9_cut_4 c3 (by decide) (by decide) (by decide) (by decide) (tgt := 37) ?_
      refine g_lload_n 1 dX9_cut_37 rfl ?_
      refine g_l2i dX9_cut_38 ?_
      refine g_i2s dX9_cut_39 ?_
      refine g_i2l dX9_cut_40 ?_
      exact g_lret rfl dX9_cut_41
    · refine G_ite (fun c4 => ?_) (fun c4 => ?_)
      · refine g_tin 2 (38) dX9_cut_4 c4 (by decide) (by decide) (by decide) (by decide) (tgt := 42) ?_
        refine g_lload_n 1 dX9_cut_42 rfl ?_
        refine g_l2i dX9_cut_43 ?_
        refine g_i2l dX9_cut_44 ?_
        exact g_lret rfl dX9_cut_45
      · refine g_tout (tgt := 46) dX9_cut_4 (by have z0 := lv_neT c2 (show (0 : Int32).toInt = 0 by decide); have z1 := lv_neT c3 (show (1 : Int32).toInt = 1 by decide); have z2 := lv_neT c4 (show (2 : Int32).toInt = 2 by decide); omega) (by decide) ?_
        refine g_lload_n 1 dX9_cut_46 rfl ?_
        exact g_lret rfl dX9_cut_47
set_option maxRecDepth 100000 in
noncomputable def f_X9_put (F : Nat) (a0 : Nat) (a1 : Int32) (a2 : Int64) (h : Hp) : Option (Unit × Hp) :=
  if a1 < 0 then (some ((), h)) else (gR 10 h a0 2 fun v2 => al 23 h v2 fun v3 => if v3 ≤ a1 then (some ((), h)) else (gR 10 h a0 2 fun v5 => cV 10 h a0 (f_X9_cut F a0 a2 h) fun v6 h7 => wL h7 v5 a1 v6 fun h8 => some ((), h8)))
set_option maxRecDepth 100000 in
set_option maxHeartbeats 4000000 in
theorem T_X9_put (F : Nat) (a0 : Nat) (a1 : Int32) (a2 : Int64) (h : Hp) : GM rvV I_X9_put 2 [.ref a0, .int a1, .long a2] h (f_X9_put F a0 a1 a2 h) := by
  delta f_X9_put
  refine GM_of (lv := [(0, .ref a0), (1, .int a1), (2, .long a2)]) (by decide +kernel) (Nat.le_of_ble_eq_true rfl) rfl ?_
  refine g_iload_n 1 dX9_put_0 rfl ?_
  refine g_if_lt (tgt := 24) dX9_put_1 (by decide) (fun c1 => ?_) (fun c1 => ?_)
  · exact g_vret rfl dX9_put_24
  · refine g_iload_n 1 dX9_put_4 rfl ?_
    refine g_aload_n 0 dX9_put_5 rfl ?_
    refine g_getR fl_RX9_15 rfl dX9_put_6 (fun v2 => ?_)
    refine g_alen (by decide) (by decide) dX9_put_9 (fun v3 => ?_)
    refine g_icmp_ge (tgt := 24) dX9_put_10 (by decide) (fun c4 => ?_) (fun c4 => ?_)
    · exact g_vret rfl dX9_put_24
    · refine g_aload_n 0 dX9_put_13 rfl ?_
      refine g_getR fl_RX9_15 rfl dX9_put_14 (fun v5 => ?_)
      refine g_iload_n 1 dX9_put_17 rfl ?_
      refine g_aload_n 0 dX9_put_18 rfl ?_
      refine g_lload_n 2 dX9_put_19 rfl ?_
      refine g_callVl (J := I_X9_cut) (t := 10) (As := [.long a2]) (rest := [.int a1, .ref v5]) mjv_X9_cut ml_RX9_28 ⟨rfl, by decide, by decide⟩ (by decide) rfl rfl (Nat.le_of_ble_eq_true rfl) dX9_put_20 (T_X9_cut F a0 a2 h) (fun v6 h7 => ?_)
      refine g_last dX9_put_23 (fun h8 => ?_)
      exact g_vret rfl dX9_put_24
set_option maxRecDepth 100000 in
noncomputable def f_X11_lists_127 (F : Nat) (K87 : Nat → Nat → Int32 → Int32 → Int32 → Hp → Option (Int32 × Hp)) (l0 : Nat) (l4 : Nat) (l5 : Int32) (l6 : Int32) (l7 : Int32) (s0 : Int64) (s1 : Int32) (s2 : Nat) (h : Hp) : Option (Int32 × Hp) :=
  cV 10 h s2 (f_X9_put F s2 s1 s0 h) fun v29 h30 => K87 l0 l4 l5 l6 (l7 + 1) h30
set_option maxRecDepth 100000 in
set_option maxHeartbeats 4000000 in
theorem T_X11_lists_127 (F : Nat) {K87 : Nat → Nat → Int32 → Int32 → Int32 → Hp → Option (Int32 × Hp)} (hK87 : ∀ (l0 : Nat) (l4 : Nat) (l5 : Int32) (l6 : Int32) (l7 : Int32) (h : Hp), G rvI I_X11_lists 7 87 [(0, .ref l0), (4, .ref l4), (5, .int l5), (6, .int l6), (7, .int l7)] [] h (K87 l0 l4 l5 l6 l7 h)) (l0 : Nat) (l4 : Nat) (l5 : Int32) (l6 : Int32) (l7 : Int32) (s0 : Int64) (s1 : Int32) (s2 : Nat) (h : Hp) : G rvI I_X11_lists 7 127 [(0, .ref l0), (4, .ref l4), (5, .int l5), (6, .int l6), (7, .int l7)] [.long s0, .int s1, .ref s2] h (f_X11_lists_127 F K87 l0 l4 l5 l6 l7 s0 s1 s2 h) := by
  delta f_X11_lists_127
  refine g_callVv (J := I_X9_put) (t := 10) (As := [.int s1, .long s0]) (rest := []) mjv_X9_put ml_RX11_379 ⟨rfl, by decide, by decide⟩ (by decide) rfl rfl (Nat.le_of_ble_eq_true rfl) dX11_lists_127 (T_X9_put F s2 s1 s0 h) (fun v29 h30 => ?_)
  refine g_iinc (v' := l7 + 1) (lv' := [(7, .int (l7 + 1)), (0, .ref l0), (4, .ref l4), (5, .int l5), (6, .int l6)]) 4 dX11_lists_130 rfl rfl (by decide) rfl ?_
  refine g_goto (tgt := 87) dX11_lists_133 (by decide) ?_
  refine G_lv [1, 2, 3, 4, 0] rfl ?_
  exact hK87 l0 l4 l5 l6 (l7 + 1) h30
set_option maxRecDepth 100000 in
noncomputable def f_X11_lists_87_b (F : Nat) (K87 : Nat → Nat → Int32 → Int32 → Int32 → Hp → Option (Int32 × Hp)) (l0 : Nat) (l4 : Nat) (l5 : Int32) (l6 : Int32) (l7 : Int32) (h : Hp) : Option (Int32 × Hp) :=
  if l6 ≤ l7 then (some (l6, h)) else (gR 12 h l0 11 fun v25 => cV 8 h v25 (f_X7_stepAt F v25 l5 l7 h) fun v26 h27 => if v26 = 20 then (f_X11_lists_127 F K87 l0 l4 l5 l6 l7 (-1) l7 l4 h27) else (f_X11_lists_127 F K87 l0 l4 l5 l6 l7 (v26.toInt64) l7 l4 h27))
set_option maxRecDepth 100000 in
set_option maxHeartbeats 4000000 in
theorem T_X11_lists_87_b (F : Nat) {K87 : Nat → Nat → Int32 → Int32 → Int32 → Hp → Option (Int32 × Hp)} (hK87 : ∀ (l0 : Nat) (l4 : Nat) (l5 : Int32) (l6 : Int32) (l7 : Int32) (h : Hp), G rvI I_X11_lists 7 87 [(0, .ref l0), (4, .ref l4), (5, .int l5), (6, .int l6), (7, .int l7)] [] h (K87 l0 l4 l5 l6 l7 h)) (l0 : Nat) (l4 : Nat) (l5 : Int32) (l6 : Int32) (l7 : Int32) (h : Hp) : G rvI I_X11_lists 7 87 [(0, .ref l0), (4, .ref l4), (5, .int l5), (6, .int l6), (7, .int l7)] [] h (f_X11_lists_87_b F K87 l0 l4 l5 l6 l7 h) := by
  delta f_X11_lists_87_b
  refine g_iload 4 dX11_lists_87 rfl ?_
  refine g_iload 3 dX11_lists_89 rfl ?_
  refine g_icmp_ge (tgt := 136) dX11_lists_91 (by decide) (fun c24 => ?_) (fun c24 => ?_)
  · refine g_iload 3 dX11_lists_136 rfl ?_
    exact g_iret rfl dX11_lists_138
  · refine g_aload_n 0 dX11_lists_94 rfl ?_
    refine g_getR fl_RX11_66 rfl dX11_lists_95 (fun v25 => ?_)
    refine g_iload 2 dX11_lists_98 rfl ?_
    refine g_iload 4 dX11_lists_100 rfl ?_
    refine g_callVi (J := I_X7_stepAt) (t := 8) (As := [.int l5, .int l7]) (rest := []) mjv_X7_stepAt ml_RX11_262 ⟨rfl, by decide, by decide⟩ (by decide) rfl rfl (Nat.le_of_ble_eq_true rfl) dX11_lists_102 (T_X7_stepAt F v25 l5 l7 h) (fun v26 h27 => ?_)
    refine g_istore (lv' := [(8, .int v26), (0, .ref l0), (4, .ref l4), (5, .int l5), (6, .int l6), (7, .int l7)]) dX11_lists_105 (by decide) rfl ?_
    refine g_aload 2 dX11_lists_107 rfl ?_
    refine g_iload 5 dX11_lists_109 rfl ?_
    refine g_iload 0 dX11_lists_111 rfl ?_
    refine g_bipush (v := 20) dX11_lists_113 (by decide) ?_
    refine g_icmp_ne (tgt := 124) dX11_lists_115 (by decide) (fun c28 => ?_) (fun c28 => ?_)
    · refine g_ldc2 (v := (-1)) dX11_lists_118 cl_RX11_336 ?_
      refine g_goto (tgt := 127) dX11_lists_121 (by decide) ?_
      refine G_lv [1, 2, 3, 4, 5] rfl ?_
      exact T_X11_lists_127 F hK87 l0 l4 l5 l6 l7 (-1) l7 l4 h27
    · refine g_iload 0 dX11_lists_124 rfl ?_
      refine g_i2l dX11_lists_126 ?_
      refine G_lv [1, 2, 3, 4, 5] rfl ?_
      exact T_X11_lists_127 F hK87 l0 l4 l5 l6 l7 (v26.toInt64) l7 l4 h27
set_option maxRecDepth 100000 in
noncomputable def f_X11_lists_87 (F : Nat) : Nat → Nat → Nat → Int32 → Int32 → Int32 → Hp → Option (Int32 × Hp)
  | 0, _, _, _, _, _, _ => none
  | n + 1, l0, l4, l5, l6, l7, h => f_X11_lists_87_b F (f_X11_lists_87 F n) l0 l4 l5 l6 l7 h
set_option maxRecDepth 100000 in
set_option maxHeartbeats 4000000 in
theorem T_X11_lists_87 (F : Nat) : ∀ (n : Nat) (l0 : Nat) (l4 : Nat) (l5 : Int32) (l6 : Int32) (l7 : Int32) (h : Hp), G rvI I_X11_lists 7 87 [(0, .ref l0), (4, .ref l4), (5, .int l5), (6, .int l6), (7, .int l7)] [] h (f_X11_lists_87 F n l0 l4 l5 l6 l7 h) := by
  intro n
  induction n with
  | zero => intros; exact G_none
  | succ n ih => intro l0 l4 l5 l6 l7 h; exact T_X11_lists_87_b F ih l0 l4 l5 l6 l7 h
set_option maxRecDepth 100000 in
noncomputable def f_X11_lists (F : Nat) (a0 : Nat) (a1 : Int32) (a2 : Int32) (a3 : Int32) (h : Hp) : Option (Int32 × Hp) :=
  cV 12 h a0 (f_X11_noTray F a0 a1 h) fun v1 h2 => if v1 = 0 then (gR 12 h2 a0 8 fun v4 => aR 26 h2 v4 a1 fun v5 => cV 10 h2 v5 (f_X9_isMissing F v5 h2) fun v6 h7 => if v6 = 0 then (cV 12 h7 a0 (f_X11_noSet F a0 a2 h7) fun v9 h10 => if v9 = 0 then (cV 12 h10 a0 (f_X11_noSet F a0 a3 h10) fun v12 h13 => if v12 = 0 then (cV 12 h13 a0 (f_X11_endOfComing F a0 a2 a3 h13) fun v15 h16 => if 0 ≤ v15 then (gI 10 h16 v5 0 fun v18 => gR 12 h16 a0 11 fun v19 => cV 8 h16 v19 (f_X7_stepsTo F v19 v15 h16) fun v20 h21 => bd (f_J9_min_7cf53 F v18 v20 h21) fun v22 h23 => f_X11_lists_87 F F a0 v5 v15 v22 0 h23) else (some ((-5), h16))) else (some ((-3), h13))) else (some ((-3), h10))) else (some ((-6), h7))) else (some ((-2), h2))
set_option maxRecDepth 100000 in
set_option maxHeartbeats 4000000 in
theorem T_X11_lists (F : Nat) (a0 : Nat) (a1 : Int32) (a2 : Int32) (a3 : Int32) (h : Hp) : GM rvI I_X11_lists 7 [.ref a0, .int a1, .int a2, .int a3] h (f_X11_lists F a0 a1 a2 a3 h) := by
  delta f_X11_lists
  refine GM_of (lv := [(0, .ref a0), (1, .int a1), (2, .int a2), (3, .int a3)]) (by decide +kernel) (Nat.le_of_ble_eq_true rfl) rfl ?_
  refine g_aload_n 0 dX11_lists_0 rfl ?_
  refine g_iload_n 1 dX11_lists_1 rfl ?_
  refine g_callVi (J := I_X11_noTray) (t := 12) (As := [.int a1]) (rest := []) mjv_X11_noTray ml_RX11_220 ⟨rfl, by decide, by decide⟩ (by decide) rfl rfl (Nat.le_of_ble_eq_true rfl) dX11_lists_2 (T_X11_noTray F a0 a1 h) (fun v1 h2 => ?_)
  refine g_if_eq (tgt := 11) dX11_lists_5 (by decide) (fun c3 => ?_) (fun c3 => ?_)
  · refine g_aload_n 0 dX11_lists_11 rfl ?_
    refine g_getR fl_RX11_52 rfl dX11_lists_12 (fun v4 => ?_)
    refine g_iload_n 1 dX11_lists_15 rfl ?_
    refine g_aald (by decide) (by decide) dX11_lists_16 (fun v5 => ?_)
    refine g_astore (lv' := [(4, .ref v5), (0, .ref a0), (1, .int a1), (2, .int a2), (3, .int a3)]) dX11_lists_17 (by decide) rfl ?_
    refine g_aload 0 dX11_lists_19 rfl ?_
    refine g_callVi (J := I_X9_isMissing) (t := 10) (As := []) (rest := []) mjv_X9_isMissing ml_RX11_223 ⟨rfl, by decide, by decide⟩ (by decide) rfl rfl (Nat.le_of_ble_eq_true rfl) dX11_lists_21 (T_X9_isMissing F v5 h2) (fun v6 h7 => ?_)
    refine g_if_eq (tgt := 30) dX11_lists_24 (by decide) (fun c8 => ?_) (fun c8 => ?_)
    · refine g_aload_n 1 dX11_lists_30 rfl ?_
      refine g_iload_n 3 dX11_lists_31 rfl ?_
      refine g_callVi (J := I_X11_noSet) (t := 12) (As := [.int a2]) (rest := []) mjv_X11_noSet ml_RX11_237 ⟨rfl, by decide, by decide⟩ (by decide) rfl rfl (Nat.le_of_ble_eq_true rfl) dX11_lists_32 (T_X11_noSet F a0 a2 h7) (fun v9 h10 => ?_)
      refine g_if_ne (tgt := 46) dX11_lists_35 (by decide) (fun c11 => ?_) (fun c11 => ?_)
      · refine g_aload_n 1 dX11_lists_38 rfl ?_
        refine g_iload_n 4 dX11_lists_39 rfl ?_
        refine g_callVi (J := I_X11_noSet) (t := 12) (As := [.int a3]) (rest := []) mjv_X11_noSet ml_RX11_237 ⟨rfl, by decide, by decide⟩ (by decide) rfl rfl (Nat.le_of_ble_eq_true rfl) dX11_lists_40 (T_X11_noSet F a0 a3 h10) (fun v12 h13 => ?_)
        refine g_if_eq (tgt := 49) dX11_lists_43 (by decide) (fun c14 => ?_) (fun c14 => ?_)
        · refine g_aload_n 1 dX11_lists_49 rfl ?_
          refine g_iload_n 3 dX11_lists_50 rfl ?_
          refine g_iload_n 4 dX11_lists_51 rfl ?_
          refine g_callVi (J := I_X11_endOfComing) (t := 12) (As := [.int a2, .int a3]) (rest := []) mjv_X11_endOfComing ml_RX11_240 ⟨rfl, by decide, by decide⟩ (by decide) rfl rfl (Nat.le_of_ble_eq_true rfl) dX11_lists_52 (T_X11_endOfComing F a0 a2 a3 h13) (fun v15 h16 => ?_)
          refine g_istore (lv' := [(5, .int v15), (4, .ref v5), (0, .ref a0), (1, .int a1), (2, .int a2), (3, .int a3)]) dX11_lists_55 (by decide) rfl ?_
          refine g_iload 0 dX11_lists_57 rfl ?_
          refine g_if_ge (tgt := 65) dX11_lists_59 (by decide) (fun c17 => ?_) (fun c17 => ?_)
          · refine g_aload 1 dX11_lists_65 rfl ?_
            refine g_getI fl_RX11_306 rfl dX11_lists_67 (fun v18 => ?_)
            refine g_aload_n 2 dX11_lists_70 rfl ?_
            refine g_getR fl_RX11_66 rfl dX11_lists_71 (fun v19 => ?_)
            refine g_iload 0 dX11_lists_74 rfl ?_
            refine g_callVi (J := I_X7_stepsTo) (t := 8) (As := [.int v15]) (rest := [.int v18]) mjv_X7_stepsTo ml_RX11_243 ⟨rfl, by decide, by decide⟩ (by decide) rfl rfl (Nat.le_of_ble_eq_true rfl) dX11_lists_76 (T_X7_stepsTo F v19 v15 h16) (fun v20 h21 => ?_)
            refine g_callSi (J := I_J9_min_7cf53) (As := [.int v18, .int v20]) (rest := []) mjs_J9_min_7cf53 ml_RX11_383 (by decide) rfl rfl (Nat.le_of_ble_eq_true rfl) dX11_lists_79 (T_J9_min_7cf53 F v18 v20 h21) (fun v22 h23 => ?_)
            refine g_istore (lv' := [(6, .int v22), (5, .int v15), (4, .ref v5), (0, .ref a0), (1, .int a1), (2, .int a2), (3, .int a3)]) dX11_lists_82 (by decide) rfl ?_
            refine g_iconst (v := 0) dX11_lists_84 (by decide) ?_
            refine g_istore (lv' := [(7, .int 0), (6, .int v22), (5, .int v15), (4, .ref v5), (0, .ref a0), (1, .int a1), (2, .int a2), (3, .int a3)]) dX11_lists_85 (by decide) rfl ?_
            refine G_lv [4, 3, 2, 1, 0] rfl ?_
            exact T_X11_lists_87 F F a0 v5 v15 v22 0 h23
          · refine g_bipush (v := (-5)) dX11_lists_62 (by decide) ?_
            exact g_iret rfl dX11_lists_64
        · refine g_bipush (v := (-3)) dX11_lists_46 (by decide) ?_
          exact g_iret rfl dX11_lists_48
      · refine g_bipush (v := (-3)) dX11_lists_46 (by decide) ?_
        exact g_iret rfl dX11_lists_48
    · refine g_bipush (v := (-6)) dX11_lists_27 (by decide) ?_
      exact g_iret rfl dX11_lists_29
  · refine g_bipush (v := (-2)) dX11_lists_8 (by decide) ?_
    exact g_iret rfl dX11_lists_10
set_option maxRecDepth 100000 in
noncomputable def f_X11_most_29_b (F : Nat) (K29 : Nat → Int32 → Int32 → Int32 → Hp → Option (Int32 × Hp)) (l0 : Nat) (l1 : Int32) (l2 : Int32) (l3 : Int32) (h : Hp) : Option (Int32 × Hp) :=
  if l1 ≤ l3 then (some (l2, h)) else (gR 12 h l0 3 fun v10 => gR 12 h l0 11 fun v11 => cV 8 h v11 (f_X7_agesOf F v11 l3 h) fun v12 h13 => cV 3 h13 v10 (f_X2_doneByBoth F v10 v12 h13) fun v14 h15 => bd (f_J9_max_7cf53 F l2 v14 h15) fun v16 h17 => K29 l0 l1 v16 (l3 + 1) h17)
set_option maxRecDepth 100000 in
set_option maxHeartbeats 4000000 in
theorem T_X11_most_29_b (F : Nat) {K29 : Nat → Int32 → Int32 → Int32 → Hp → Option (Int32 × Hp)} (hK29 : ∀ (l0 : Nat) (l1 : Int32) (l2 : Int32) (l3 : Int32) (h : Hp), G rvI I_X11_most 6 29 [(0, .ref l0), (1, .int l1), (2, .int l2), (3, .int l3)] [] h (K29 l0 l1 l2 l3 h)) (l0 : Nat) (l1 : Int32) (l2 : Int32) (l3 : Int32) (h : Hp) : G rvI I_X11_most 6 29 [(0, .ref l0), (1, .int l1), (2, .int l2), (3, .int l3)] [] h (f_X11_most_29_b F K29 l0 l1 l2 l3 h) := by
  delta f_X11_most_29_b
  refine g_iload_n 3 dX11_most_29 rfl ?_
  refine g_iload_n 1 dX11_most_30 rfl ?_
  refine g_icmp_ge (tgt := 60) dX11_most_31 (by decide) (fun c9 => ?_) (fun c9 => ?_)
  · refine g_iload_n 2 dX11_most_60 rfl ?_
    exact g_iret rfl dX11_most_61
  · refine g_iload_n 2 dX11_most_34 rfl ?_
    refine g_aload_n 0 dX11_most_35 rfl ?_
    refine g_getR fl_RX11_20 rfl dX11_most_36 (fun v10 => ?_)
    refine g_aload_n 0 dX11_most_39 rfl ?_
    refine g_getR fl_RX11_66 rfl dX11_most_40 (fun v11 => ?_)
    refine g_iload_n 3 dX11_most_43 rfl ?_
    refine g_callVi (J := I_X7_agesOf) (t := 8) (As := [.int l3]) (rest := [.ref v10, .int l2]) mjv_X7_agesOf ml_RX11_285 ⟨rfl, by decide, by decide⟩ (by decide) rfl rfl (Nat.le_of_ble_eq_true rfl) dX11_most_44 (T_X7_agesOf F v11 l3 h) (fun v12 h13 => ?_)
    refine g_callVi (J := I_X2_doneByBoth) (t := 3) (As := [.int v12]) (rest := [.int l2]) mjv_X2_doneByBoth ml_RX11_201 ⟨rfl, by decide, by decide⟩ (by decide) rfl rfl (Nat.le_of_ble_eq_true rfl) dX11_most_47 (T_X2_doneByBoth F v10 v12 h13) (fun v14 h15 => ?_)
    refine g_callSi (J := I_J9_max_7cf53) (As := [.int l2, .int v14]) (rest := []) mjs_J9_max_7cf53 ml_RX11_288 (by decide) rfl rfl (Nat.le_of_ble_eq_true rfl) dX11_most_50 (T_J9_max_7cf53 F l2 v14 h15) (fun v16 h17 => ?_)
    refine g_istore_n (lv' := [(2, .int v16), (0, .ref l0), (1, .int l1), (3, .int l3)]) dX11_most_53 (by decide) rfl ?_
    refine g_iinc (v' := l3 + 1) (lv' := [(3, .int (l3 + 1)), (2, .int v16), (0, .ref l0), (1, .int l1)]) 3 dX11_most_54 rfl rfl (by decide) rfl ?_
    refine g_goto (tgt := 29) dX11_most_57 (by decide) ?_
    refine G_lv [2, 3, 1, 0] rfl ?_
    exact hK29 l0 l1 v16 (l3 + 1) h17
set_option maxRecDepth 100000 in
noncomputable def f_X11_most_29 (F : Nat) : Nat → Nat → Int32 → Int32 → Int32 → Hp → Option (Int32 × Hp)
  | 0, _, _, _, _, _ => none
  | n + 1, l0, l1, l2, l3, h => f_X11_most_29_b F (f_X11_most_29 F n) l0 l1 l2 l3 h
set_option maxRecDepth 100000 in
set_option maxHeartbeats 4000000 in
theorem T_X11_most_29 (F : Nat) : ∀ (n : Nat) (l0 : Nat) (l1 : Int32) (l2 : Int32) (l3 : Int32) (h : Hp), G rvI I_X11_most 6 29 [(0, .ref l0), (1, .int l1), (2, .int l2), (3, .int l3)] [] h (f_X11_most_29 F n l0 l1 l2 l3 h) := by
  intro n
  induction n with
  | zero => intros; exact G_none
  | succ n ih => intro l0 l1 l2 l3 h; exact T_X11_most_29_b F ih l0 l1 l2 l3 h
set_option maxRecDepth 100000 in
noncomputable def f_X11_most (F : Nat) (a0 : Nat) (h : Hp) : Option (Int32 × Hp) :=
  gR 12 h a0 11 fun v1 => gR 12 h a0 3 fun v2 => gR 12 h a0 5 fun v3 => cV 8 h v1 (f_X7_begin F v1 v2 v3 (-1) (-1) h) fun v4 h5 => gR 12 h5 a0 11 fun v6 => cV 8 h5 v6 (f_X7_findAll F v6 h5) fun v7 h8 => f_X11_most_29 F F a0 v7 0 0 h8
set_option maxRecDepth 100000 in
set_option maxHeartbeats 4000000 in
theorem T_X11_most (F : Nat) (a0 : Nat) (h : Hp) : GM rvI I_X11_most 6 [.ref a0] h (f_X11_most F a0 h) := by
  delta f_X11_most
  refine GM_of (lv := [(0, .ref a0)]) (by decide +kernel) (Nat.le_of_ble_eq_true rfl) rfl ?_
  refine g_aload_n 0 dX11_most_0 rfl ?_
  refine g_getR fl_RX11_66 rfl dX11_most_1 (fun v1 => ?_)
  refine g_aload_n 0 dX11_most_4 rfl ?_
  refine g_getR fl_RX11_20 rfl dX11_most_5 (fun v2 => ?_)
  refine g_aload_n 0 dX11_most_8 rfl ?_
  refine g_getR fl_RX11_36 rfl dX11_most_9 (fun v3 => ?_)
  refine g_iconst (v := (-1)) dX11_most_12 (by decide) ?_
  refine g_iconst (v := (-1)) dX11_most_13 (by decide) ?_
  refine g_callVv (J := I_X7_begin) (t := 8) (As := [.ref v2, .ref v3, .int (-1), .int (-1)]) (rest := []) mjv_X7_begin ml_RX11_252 ⟨rfl, by decide, by decide⟩ (by decide) rfl rfl (Nat.le_of_ble_eq_true rfl) dX11_most_14 (T_X7_begin F v1 v2 v3 (-1) (-1) h) (fun v4 h5 => ?_)
  refine g_aload_n 0 dX11_most_17 rfl ?_
  refine g_getR fl_RX11_66 rfl dX11_most_18 (fun v6 => ?_)
  refine g_callVi (J := I_X7_findAll) (t := 8) (As := []) (rest := []) mjv_X7_findAll ml_RX11_281 ⟨rfl, by decide, by decide⟩ (by decide) rfl rfl (Nat.le_of_ble_eq_true rfl) dX11_most_21 (T_X7_findAll F v6 h5) (fun v7 h8 => ?_)
  refine g_istore_n (lv' := [(1, .int v7), (0, .ref a0)]) dX11_most_24 (by decide) rfl ?_
  refine g_iconst (v := 0) dX11_most_25 (by decide) ?_
  refine g_istore_n (lv' := [(2, .int 0), (1, .int v7), (0, .ref a0)]) dX11_most_26 (by decide) rfl ?_
  refine g_iconst (v := 0) dX11_most_27 (by decide) ?_
  refine g_istore_n (lv' := [(3, .int 0), (2, .int 0), (1, .int v7), (0, .ref a0)]) dX11_most_28 (by decide) rfl ?_
  refine G_lv [3, 2, 1, 0] rfl ?_
  exact T_X11_most_29 F F a0 v7 0 0 h8
set_option maxRecDepth 100000 in
noncomputable def f_X11_needed_84 (F : Nat) (K35 : Nat → Int32 → Int32 → Int32 → Int32 → Hp → Option (Int32 × Hp)) (l0 : Nat) (l1 : Int32) (l2 : Int32) (l3 : Int32) (l4 : Int32) (h : Hp) : Option (Int32 × Hp) :=
  K35 l0 l1 l2 l3 (l4 + 1) h
set_option maxRecDepth 100000 in
set_option maxHeartbeats 4000000 in
theorem T_X11_needed_84 (F : Nat) {K35 : Nat → Int32 → Int32 → Int32 → Int32 → Hp → Option (Int32 × Hp)} (hK35 : ∀ (l0 : Nat) (l1 : Int32) (l2 : Int32) (l3 : Int32) (l4 : Int32) (h : Hp), G rvI I_X11_needed 7 35 [(0, .ref l0), (1, .int l1), (2, .int l2), (3, .int l3), (4, .int l4)] [] h (K35 l0 l1 l2 l3 l4 h)) (l0 : Nat) (l1 : Int32) (l2 : Int32) (l3 : Int32) (l4 : Int32) (h : Hp) : G rvI I_X11_needed 7 84 [(0, .ref l0), (1, .int l1), (2, .int l2), (3, .int l3), (4, .int l4)] [] h (f_X11_needed_84 F K35 l0 l1 l2 l3 l4 h) := by
  delta f_X11_needed_84
  refine g_iinc (v' := l4 + 1) (lv' := [(4, .int (l4 + 1)), (0, .ref l0), (1, .int l1), (2, .int l2), (3, .int l3)]) 4 dX11_needed_84 rfl rfl (by decide) rfl ?_
  refine g_goto (tgt := 35) dX11_needed_87 (by decide) ?_
  refine G_lv [1, 2, 3, 4, 0] rfl ?_
  exact hK35 l0 l1 l2 l3 (l4 + 1) h
set_option maxRecDepth 100000 in
noncomputable def f_X11_needed_35_b (F : Nat) (K35 : Nat → Int32 → Int32 → Int32 → Int32 → Hp → Option (Int32 × Hp)) (l0 : Nat) (l1 : Int32) (l2 : Int32) (l3 : Int32) (l4 : Int32) (h : Hp) : Option (Int32 × Hp) :=
  gR 12 h l0 3 fun v10 => gI 3 h v10 0 fun v11 => if v11 ≤ l4 then (some (l3, h)) else (gR 12 h l0 12 fun v13 => gR 12 h l0 3 fun v14 => gR 12 h l0 5 fun v15 => cV 8 h v13 (f_X7_begin F v13 v14 v15 (-1) l4 h) fun v16 h17 => gR 12 h17 l0 12 fun v18 => cV 8 h17 v18 (f_X7_firstAtGoal F v18 l1 l2 h17) fun v19 h20 => if 0 ≤ v19 then (f_X11_needed_84 F K35 l0 l1 l2 l3 l4 h20) else (lt (l3 ||| ((1 : Int32) <<< (l4 &&& 31))) fun x22 => f_X11_needed_84 F K35 l0 l1 l2 x22 l4 h20))
set_option maxRecDepth 100000 in
set_option maxHeartbeats 4000000 in
theorem T_X11_needed_35_b (F : Nat) {K35 : Nat → Int32 → Int32 → Int32 → Int32 → Hp → Option (Int32 × Hp)} (hK35 : ∀ (l0 : Nat) (l1 : Int32) (l2 : Int32) (l3 : Int32) (l4 : Int32) (h : Hp), G rvI I_X11_needed 7 35 [(0, .ref l0), (1, .int l1), (2, .int l2), (3, .int l3), (4, .int l4)] [] h (K35 l0 l1 l2 l3 l4 h)) (l0 : Nat) (l1 : Int32) (l2 : Int32) (l3 : Int32) (l4 : Int32) (h : Hp) : G rvI I_X11_needed 7 35 [(0, .ref l0), (1, .int l1), (2, .int l2), (3, .int l3), (4, .int l4)] [] h (f_X11_needed_35_b F K35 l0 l1 l2 l3 l4 h) := by
  delta f_X11_needed_35_b
  refine g_iload 4 dX11_needed_35 rfl ?_
  refine g_aload_n 0 dX11_needed_37 rfl ?_
  refine g_getR fl_RX11_20 rfl dX11_needed_38 (fun v10 => ?_)
  refine g_getI fl_RX11_181 rfl dX11_needed_41 (fun v11 => ?_)
  refine g_icmp_ge (tgt := 90) dX11_needed_44 (by decide) (fun c12 => ?_) (fun c12 => ?_)
  · refine g_iload_n 3 dX11_needed_90 rfl ?_
    exact g_iret rfl dX11_needed_91
  · refine g_aload_n 0 dX11_needed_47 rfl ?_
    refine g_getR fl_RX11_70 rfl dX11_needed_48 (fun v13 => ?_)
    refine g_aload_n 0 dX11_needed_51 rfl ?_
    refine g_getR fl_RX11_20 rfl dX11_needed_52 (fun v14 => ?_)
    refine g_aload_n 0 dX11_needed_55 rfl ?_
    refine g_getR fl_RX11_36 rfl dX11_needed_56 (fun v15 => ?_)
    refine g_iconst (v := (-1)) dX11_needed_59 (by decide) ?_
    refine g_iload 4 dX11_needed_60 rfl ?_
    refine g_callVv (J := I_X7_begin) (t := 8) (As := [.ref v14, .ref v15, .int (-1), .int l4]) (rest := []) mjv_X7_begin ml_RX11_252 ⟨rfl, by decide, by decide⟩ (by decide) rfl rfl (Nat.le_of_ble_eq_true rfl) dX11_needed_62 (T_X7_begin F v13 v14 v15 (-1) l4 h) (fun v16 h17 => ?_)
    refine g_aload_n 0 dX11_needed_65 rfl ?_
    refine g_getR fl_RX11_70 rfl dX11_needed_66 (fun v18 => ?_)
    refine g_iload_n 1 dX11_needed_69 rfl ?_
    refine g_iload_n 2 dX11_needed_70 rfl ?_
    refine g_callVi (J := I_X7_firstAtGoal) (t := 8) (As := [.int l1, .int l2]) (rest := []) mjv_X7_firstAtGoal ml_RX11_256 ⟨rfl, by decide, by decide⟩ (by decide) rfl rfl (Nat.le_of_ble_eq_true rfl) dX11_needed_71 (T_X7_firstAtGoal F v18 l1 l2 h17) (fun v19 h20 => ?_)
    refine g_if_ge (tgt := 84) dX11_needed_74 (by decide) (fun c21 => ?_) (fun c21 => ?_)
    · refine G_lv [0, 1, 2, 3, 4] rfl ?_
      exact T_X11_needed_84 F hK35 l0 l1 l2 l3 l4 h20
    · refine g_iload_n 3 dX11_needed_77 rfl ?_
      refine g_iconst (v := 1) dX11_needed_78 (by decide) ?_
      refine g_iload 4 dX11_needed_79 rfl ?_
      refine g_ishl dX11_needed_81 ?_
      refine g_ior dX11_needed_82 ?_
      refine G_lti (fun x22 => ?_)
      refine g_istore_n (lv' := [(3, .int x22), (0, .ref l0), (1, .int l1), (2, .int l2), (4, .int l4)]) dX11_needed_83 (by decide) rfl ?_
      refine G_lv [1, 2, 3, 0, 4] rfl ?_
      exact T_X11_needed_84 F hK35 l0 l1 l2 x22 l4 h20
set_option maxRecDepth 100000 in
noncomputable def f_X11_needed_35 (F : Nat) : Nat → Nat → Int32 → Int32 → Int32 → Int32 → Hp → Option (Int32 × Hp)
  | 0, _, _, _, _, _, _ => none
  | n + 1, l0, l1, l2, l3, l4, h => f_X11_needed_35_b F (f_X11_needed_35 F n) l0 l1 l2 l3 l4 h
set_option maxRecDepth 100000 in
set_option maxHeartbeats 4000000 in
theorem T_X11_needed_35 (F : Nat) : ∀ (n : Nat) (l0 : Nat) (l1 : Int32) (l2 : Int32) (l3 : Int32) (l4 : Int32) (h : Hp), G rvI I_X11_needed 7 35 [(0, .ref l0), (1, .int l1), (2, .int l2), (3, .int l3), (4, .int l4)] [] h (f_X11_needed_35 F n l0 l1 l2 l3 l4 h) := by
  intro n
  induction n with
  | zero => intros; exact G_none
  | succ n ih => intro l0 l1 l2 l3 l4 h; exact T_X11_needed_35_b F ih l0 l1 l2 l3 l4 h
set_option maxRecDepth 100000 in
noncomputable def f_X11_needed (F : Nat) (a0 : Nat) (a1 : Int32) (a2 : Int32) (h : Hp) : Option (Int32 × Hp) :=
  cV 12 h a0 (f_X11_noSet F a0 a1 h) fun v1 h2 => if v1 = 0 then (cV 12 h2 a0 (f_X11_noSet F a0 a2 h2) fun v4 h5 => if v4 = 0 then (cV 12 h5 a0 (f_X11_endOfComing F a0 a1 a2 h5) fun v7 h8 => if 0 ≤ v7 then (f_X11_needed_35 F F a0 a1 a2 0 0 h8) else (some (0, h8))) else (some ((-3), h5))) else (some ((-3), h2))
set_option maxRecDepth 100000 in
set_option maxHeartbeats 4000000 in
theorem T_X11_needed (F : Nat) (a0 : Nat) (a1 : Int32) (a2 : Int32) (h : Hp) : GM rvI I_X11_needed 7 [.ref a0, .int a1, .int a2] h (f_X11_needed F a0 a1 a2 h) := by
  delta f_X11_needed
  refine GM_of (lv := [(0, .ref a0), (1, .int a1), (2, .int a2)]) (by decide +kernel) (Nat.le_of_ble_eq_true rfl) rfl ?_
  refine g_aload_n 0 dX11_needed_0 rfl ?_
  refine g_iload_n 1 dX11_needed_1 rfl ?_
  refine g_callVi (J := I_X11_noSet) (t := 12) (As := [.int a1]) (rest := []) mjv_X11_noSet ml_RX11_237 ⟨rfl, by decide, by decide⟩ (by decide) rfl rfl (Nat.le_of_ble_eq_true rfl) dX11_needed_2 (T_X11_noSet F a0 a1 h) (fun v1 h2 => ?_)
  refine g_if_ne (tgt := 16) dX11_needed_5 (by decide) (fun c3 => ?_) (fun c3 => ?_)
  · refine g_aload_n 0 dX11_needed_8 rfl ?_
    refine g_iload_n 2 dX11_needed_9 rfl ?_
    refine g_callVi (J := I_X11_noSet) (t := 12) (As := [.int a2]) (rest := []) mjv_X11_noSet ml_RX11_237 ⟨rfl, by decide, by decide⟩ (by decide) rfl rfl (Nat.le_of_ble_eq_true rfl) dX11_needed_10 (T_X11_noSet F a0 a2 h2) (fun v4 h5 => ?_)
    refine g_if_eq (tgt := 19) dX11_needed_13 (by decide) (fun c6 => ?_) (fun c6 => ?_)
    · refine g_aload_n 0 dX11_needed_19 rfl ?_
      refine g_iload_n 1 dX11_needed_20 rfl ?_
      refine g_iload_n 2 dX11_needed_21 rfl ?_
      refine g_callVi (J := I_X11_endOfComing) (t := 12) (As := [.int a1, .int a2]) (rest := []) mjv_X11_endOfComing ml_RX11_240 ⟨rfl, by decide, by decide⟩ (by decide) rfl rfl (Nat.le_of_ble_eq_true rfl) dX11_needed_22 (T_X11_endOfComing F a0 a1 a2 h5) (fun v7 h8 => ?_)
      refine g_if_ge (tgt := 30) dX11_needed_25 (by decide) (fun c9 => ?_) (fun c9 => ?_)
      · refine g_iconst (v := 0) dX11_needed_30 (by decide) ?_
        refine g_istore_n (lv' := [(3, .int 0), (0, .ref a0), (1, .int a1), (2, .int a2)]) dX11_needed_31 (by decide) rfl ?_
        refine g_iconst (v := 0) dX11_needed_32 (by decide) ?_
        refine g_istore (lv' := [(4, .int 0), (3, .int 0), (0, .ref a0), (1, .int a1), (2, .int a2)]) dX11_needed_33 (by decide) rfl ?_
        refine G_lv [2, 3, 4, 1, 0] rfl ?_
        exact T_X11_needed_35 F F a0 a1 a2 0 0 h8
      · refine g_iconst (v := 0) dX11_needed_28 (by decide) ?_
        exact g_iret rfl dX11_needed_29
    · refine g_bipush (v := (-3)) dX11_needed_16 (by decide) ?_
      exact g_iret rfl dX11_needed_18
  · refine g_bipush (v := (-3)) dX11_needed_16 (by decide) ?_
    exact g_iret rfl dX11_needed_18
set_option maxRecDepth 100000 in
noncomputable def f_J7_fill_d0a16_6_b (F : Nat) (K6 : Nat → Int64 → Int32 → Int32 → Hp → Option (Unit × Hp)) (l0 : Nat) (l1 : Int64) (l3 : Int32) (l4 : Int32) (h : Hp) : Option (Unit × Hp) :=
  if l4 ≤ l3 then (some ((), h)) else (wL h l0 l3 l1 fun h3 => K6 l0 l1 (l3 + 1) l4 h3)
set_option maxRecDepth 100000 in
set_option maxHeartbeats 4000000 in
theorem T_J7_fill_d0a16_6_b (F : Nat) {K6 : Nat → Int64 → Int32 → Int32 → Hp → Option (Unit × Hp)} (hK6 : ∀ (l0 : Nat) (l1 : Int64) (l3 : Int32) (l4 : Int32) (h : Hp), G rvV I_J7_fill_d0a16 1 6 [(0, .ref l0), (1, .long l1), (3, .int l3), (4, .int l4)] [] h (K6 l0 l1 l3 l4 h)) (l0 : Nat) (l1 : Int64) (l3 : Int32) (l4 : Int32) (h : Hp) : G rvV I_J7_fill_d0a16 1 6 [(0, .ref l0), (1, .long l1), (3, .int l3), (4, .int l4)] [] h (f_J7_fill_d0a16_6_b F K6 l0 l1 l3 l4 h) := by
  delta f_J7_fill_d0a16_6_b
  refine g_iload_n 2 dJ7_fill_d0a16_6 rfl ?_
  refine g_iload 3 dJ7_fill_d0a16_7 rfl ?_
  refine g_icmp_ge (tgt := 22) dJ7_fill_d0a16_9 (by decide) (fun c2 => ?_) (fun c2 => ?_)
  · exact g_vret rfl dJ7_fill_d0a16_22
  · refine g_aload_n 0 dJ7_fill_d0a16_12 rfl ?_
    refine g_iload_n 2 dJ7_fill_d0a16_13 rfl ?_
    refine g_lload_n 1 dJ7_fill_d0a16_14 rfl ?_
    refine g_last dJ7_fill_d0a16_15 (fun h3 => ?_)
    refine g_iinc (v' := l3 + 1) (lv' := [(3, .int (l3 + 1)), (0, .ref l0), (1, .long l1), (4, .int l4)]) 2 dJ7_fill_d0a16_16 rfl rfl (by decide) rfl ?_
    refine g_goto (tgt := 6) dJ7_fill_d0a16_19 (by decide) ?_
    refine G_lv [1, 2, 0, 3] rfl ?_
    exact hK6 l0 l1 (l3 + 1) l4 h3
set_option maxRecDepth 100000 in
noncomputable def f_J7_fill_d0a16_6 (F : Nat) : Nat → Nat → Int64 → Int32 → Int32 → Hp → Option (Unit × Hp)
  | 0, _, _, _, _, _ => none
  | n + 1, l0, l1, l3, l4, h => f_J7_fill_d0a16_6_b F (f_J7_fill_d0a16_6 F n) l0 l1 l3 l4 h
set_option maxRecDepth 100000 in
set_option maxHeartbeats 4000000 in
theorem T_J7_fill_d0a16_6 (F : Nat) : ∀ (n : Nat) (l0 : Nat) (l1 : Int64) (l3 : Int32) (l4 : Int32) (h : Hp), G rvV I_J7_fill_d0a16 1 6 [(0, .ref l0), (1, .long l1), (3, .int l3), (4, .int l4)] [] h (f_J7_fill_d0a16_6 F n l0 l1 l3 l4 h) := by
  intro n
  induction n with
  | zero => intros; exact G_none
  | succ n ih => intro l0 l1 l3 l4 h; exact T_J7_fill_d0a16_6_b F ih l0 l1 l3 l4 h
set_option maxRecDepth 100000 in
noncomputable def f_J7_fill_d0a16 (F : Nat) (a0 : Nat) (a1 : Int64) (h : Hp) : Option (Unit × Hp) :=
  al 23 h a0 fun v1 => f_J7_fill_d0a16_6 F F a0 a1 0 v1 h
set_option maxRecDepth 100000 in
set_option maxHeartbeats 4000000 in
theorem T_J7_fill_d0a16 (F : Nat) (a0 : Nat) (a1 : Int64) (h : Hp) : GM rvV I_J7_fill_d0a16 1 [.ref a0, .long a1] h (f_J7_fill_d0a16 F a0 a1 h) := by
  delta f_J7_fill_d0a16
  refine GM_of (lv := [(0, .ref a0), (1, .long a1)]) (by decide +kernel) (Nat.le_of_ble_eq_true rfl) rfl ?_
  refine g_iconst (v := 0) dJ7_fill_d0a16_0 (by decide) ?_
  refine g_istore_n (lv' := [(3, .int 0), (0, .ref a0), (1, .long a1)]) dJ7_fill_d0a16_1 (by decide) rfl ?_
  refine g_aload_n 1 dJ7_fill_d0a16_2 rfl ?_
  refine g_alen (by decide) (by decide) dJ7_fill_d0a16_3 (fun v1 => ?_)
  refine g_istore (lv' := [(4, .int v1), (3, .int 0), (0, .ref a0), (1, .long a1)]) dJ7_fill_d0a16_4 (by decide) rfl ?_
  refine G_lv [2, 3, 1, 0] rfl ?_
  exact T_J7_fill_d0a16_6 F F a0 a1 0 v1 h
set_option maxRecDepth 100000 in
noncomputable def f_X9_lay (F : Nat) (a0 : Nat) (a1 : Int32) (a2 : Int32) (h : Hp) : Option (Unit × Hp) :=
  pI 10 h a0 1 a1 fun h1 => pI 10 h1 a0 0 a2 fun h2 => gR 10 h2 a0 2 fun v3 => bd (f_J7_fill_d0a16 F v3 0 h2) fun v4 h5 => some ((), h5)
set_option maxRecDepth 100000 in
set_option maxHeartbeats 4000000 in
theorem T_X9_lay (F : Nat) (a0 : Nat) (a1 : Int32) (a2 : Int32) (h : Hp) : GM rvV I_X9_lay 2 [.ref a0, .int a1, .int a2] h (f_X9_lay F a0 a1 a2 h) := by
  delta f_X9_lay
  refine GM_of (lv := [(0, .ref a0), (1, .int a1), (2, .int a2)]) (by decide +kernel) (Nat.le_of_ble_eq_true rfl) rfl ?_
  refine g_aload_n 0 dX9_lay_0 rfl ?_
  refine g_iload_n 1 dX9_lay_1 rfl ?_
  refine g_putI fl_RX9_19 (Or.inl rfl) dX9_lay_2 (fun h1 => ?_)
  refine g_aload_n 0 dX9_lay_5 rfl ?_
  refine g_iload_n 2 dX9_lay_6 rfl ?_
  refine g_putI fl_RX9_9 (Or.inl rfl) dX9_lay_7 (fun h2 => ?_)
  refine g_aload_n 0 dX9_lay_10 rfl ?_
  refine g_getR fl_RX9_15 rfl dX9_lay_11 (fun v3 => ?_)
  refine g_lconst (v := 0) dX9_lay_14 (by decide) ?_
  refine g_callSv (J := I_J7_fill_d0a16) (As := [.ref v3, .long 0]) (rest := []) mjs_J7_fill_d0a16 ml_RX9_22 (by decide) rfl rfl (Nat.le_of_ble_eq_true rfl) dX9_lay_15 (T_J7_fill_d0a16 F v3 0 h2) (fun v4 h5 => ?_)
  exact g_vret rfl dX9_lay_18
set_option maxRecDepth 100000 in
noncomputable def f_X11_numbers (F : Nat) (a0 : Nat) (a1 : Int32) (a2 : Int32) (a3 : Int32) (h : Hp) : Option (Int32 × Hp) :=
  cV 12 h a0 (f_X11_noTray F a0 a1 h) fun v1 h2 => if v1 = 0 then (if a2 < 0 then (some ((-2), h2)) else (if a2 ≤ 3 then (if a3 < 0 then (some ((-3), h2)) else (if a3 ≤ 40 then (gR 12 h2 a0 8 fun v8 => aR 26 h2 v8 a1 fun v9 => cV 10 h2 v9 (f_X9_lay F v9 a2 a3 h2) fun v10 h11 => some (0, h11)) else (some ((-3), h2)))) else (some ((-2), h2)))) else (some ((-2), h2))
set_option maxRecDepth 100000 in
set_option maxHeartbeats 4000000 in
theorem T_X11_numbers (F : Nat) (a0 : Nat) (a1 : Int32) (a2 : Int32) (a3 : Int32) (h : Hp) : GM rvI I_X11_numbers 3 [.ref a0, .int a1, .int a2, .int a3] h (f_X11_numbers F a0 a1 a2 a3 h) := by
  delta f_X11_numbers
  refine GM_of (lv := [(0, .ref a0), (1, .int a1), (2, .int a2), (3, .int a3)]) (by decide +kernel) (Nat.le_of_ble_eq_true rfl) rfl ?_
  refine g_aload_n 0 dX11_numbers_0 rfl ?_
  refine g_iload_n 1 dX11_numbers_1 rfl ?_
  refine g_callVi (J := I_X11_noTray) (t := 12) (As := [.int a1]) (rest := []) mjv_X11_noTray ml_RX11_220 ⟨rfl, by decide, by decide⟩ (by decide) rfl rfl (Nat.le_of_ble_eq_true rfl) dX11_numbers_2 (T_X11_noTray F a0 a1 h) (fun v1 h2 => ?_)
  refine g_if_ne (tgt := 17) dX11_numbers_5 (by decide) (fun c3 => ?_) (fun c3 => ?_)
  · refine g_iload_n 2 dX11_numbers_8 rfl ?_
    refine g_if_lt (tgt := 17) dX11_numbers_9 (by decide) (fun c4 => ?_) (fun c4 => ?_)
    · refine g_bipush (v := (-2)) dX11_numbers_17 (by decide) ?_
      exact g_iret rfl dX11_numbers_19
    · refine g_iload_n 2 dX11_numbers_12 rfl ?_
      refine g_iconst (v := 3) dX11_numbers_13 (by decide) ?_
      refine g_icmp_le (tgt := 20) dX11_numbers_14 (by decide) (fun c5 => ?_) (fun c5 => ?_)
      · refine g_iload_n 3 dX11_numbers_20 rfl ?_
        refine g_if_lt (tgt := 30) dX11_numbers_21 (by decide) (fun c6 => ?_) (fun c6 => ?_)
        · refine g_bipush (v := (-3)) dX11_numbers_30 (by decide) ?_
          exact g_iret rfl dX11_numbers_32
        · refine g_iload_n 3 dX11_numbers_24 rfl ?_
          refine g_bipush (v := 40) dX11_numbers_25 (by decide) ?_
          refine g_icmp_le (tgt := 33) dX11_numbers_27 (by decide) (fun c7 => ?_) (fun c7 => ?_)
          · refine g_aload_n 0 dX11_numbers_33 rfl ?_
            refine g_getR fl_RX11_52 rfl dX11_numbers_34 (fun v8 => ?_)
            refine g_iload_n 1 dX11_numbers_37 rfl ?_
            refine g_aald (by decide) (by decide) dX11_numbers_38 (fun v9 => ?_)
            refine g_iload_n 2 dX11_numbers_39 rfl ?_
            refine g_iload_n 3 dX11_numbers_40 rfl ?_
            refine g_callVv (J := I_X9_lay) (t := 10) (As := [.int a2, .int a3]) (rest := []) mjv_X9_lay ml_RX11_369 ⟨rfl, by decide, by decide⟩ (by decide) rfl rfl (Nat.le_of_ble_eq_true rfl) dX11_numbers_41 (T_X9_lay F v9 a2 a3 h2) (fun v10 h11 => ?_)
            refine g_iconst (v := 0) dX11_numbers_44 (by decide) ?_
            exact g_iret rfl dX11_numbers_45
          · refine g_bipush (v := (-3)) dX11_numbers_30 (by decide) ?_
            exact g_iret rfl dX11_numbers_32
      · refine g_bipush (v := (-2)) dX11_numbers_17 (by decide) ?_
        exact g_iret rfl dX11_numbers_19
  · refine g_bipush (v := (-2)) dX11_numbers_17 (by decide) ?_
    exact g_iret rfl dX11_numbers_19
set_option maxRecDepth 100000 in
noncomputable def f_X2_knownBits_31 (F : Nat) (K5 : Nat → Int32 → Int32 → Int32 → Int32 → Hp → Option (Int32 × Hp)) (l0 : Nat) (l1 : Int32) (l2 : Int32) (l3 : Int32) (l4 : Int32) (h : Hp) : Option (Int32 × Hp) :=
  K5 l0 l1 l2 l3 (l4 + 1) h
set_option maxRecDepth 100000 in
set_option maxHeartbeats 4000000 in
theorem T_X2_knownBits_31 (F : Nat) {K5 : Nat → Int32 → Int32 → Int32 → Int32 → Hp → Option (Int32 × Hp)} (hK5 : ∀ (l0 : Nat) (l1 : Int32) (l2 : Int32) (l3 : Int32) (l4 : Int32) (h : Hp), G rvI I_X2_knownBits 2 5 [(0, .ref l0), (1, .int l1), (2, .int l2), (3, .int l3), (4, .int l4)] [] h (K5 l0 l1 l2 l3 l4 h)) (l0 : Nat) (l1 : Int32) (l2 : Int32) (l3 : Int32) (l4 : Int32) (h : Hp) : G rvI I_X2_knownBits 2 31 [(0, .ref l0), (1, .int l1), (2, .int l2), (3, .int l3), (4, .int l4)] [] h (f_X2_knownBits_31 F K5 l0 l1 l2 l3 l4 h) := by
  delta f_X2_knownBits_31
  refine g_iinc (v' := l4 + 1) (lv' := [(4, .int (l4 + 1)), (0, .ref l0), (1, .int l1), (2, .int l2), (3, .int l3)]) 4 dX2_knownBits_31 rfl rfl (by decide) rfl ?_
  refine g_goto (tgt := 5) dX2_knownBits_34 (by decide) ?_
  refine G_lv [1, 2, 3, 4, 0] rfl ?_
  exact hK5 l0 l1 l2 l3 (l4 + 1) h
set_option maxRecDepth 100000 in
noncomputable def f_X2_knownBits_5_b (F : Nat) (K5 : Nat → Int32 → Int32 → Int32 → Int32 → Hp → Option (Int32 × Hp)) (l0 : Nat) (l1 : Int32) (l2 : Int32) (l3 : Int32) (l4 : Int32) (h : Hp) : Option (Int32 × Hp) :=
  gI 3 h l0 0 fun v1 => if v1 ≤ l4 then (some (l3, h)) else (bd (f_X2_ageIn F l1 l2 l4 h) fun v3 h4 => if v3 ≤ 0 then (f_X2_knownBits_31 F K5 l0 l1 l2 l3 l4 h4) else (lt (l3 ||| ((1 : Int32) <<< (l4 &&& 31))) fun x6 => f_X2_knownBits_31 F K5 l0 l1 l2 x6 l4 h4))
set_option maxRecDepth 100000 in
set_option maxHeartbeats 4000000 in
theorem T_X2_knownBits_5_b (F : Nat) {K5 : Nat → Int32 → Int32 → Int32 → Int32 → Hp → Option (Int32 × Hp)} (hK5 : ∀ (l0 : Nat) (l1 : Int32) (l2 : Int32) (l3 : Int32) (l4 : Int32) (h : Hp), G rvI I_X2_knownBits 2 5 [(0, .ref l0), (1, .int l1), (2, .int l2), (3, .int l3), (4, .int l4)] [] h (K5 l0 l1 l2 l3 l4 h)) (l0 : Nat) (l1 : Int32) (l2 : Int32) (l3 : Int32) (l4 : Int32) (h : Hp) : G rvI I_X2_knownBits 2 5 [(0, .ref l0), (1, .int l1), (2, .int l2), (3, .int l3), (4, .int l4)] [] h (f_X2_knownBits_5_b F K5 l0 l1 l2 l3 l4 h) := by
  delta f_X2_knownBits_5_b
  refine g_iload 4 dX2_knownBits_5 rfl ?_
  refine g_aload_n 0 dX2_knownBits_7 rfl ?_
  refine g_getI fl_RX2_27 rfl dX2_knownBits_8 (fun v1 => ?_)
  refine g_icmp_ge (tgt := 37) dX2_knownBits_11 (by decide) (fun c2 => ?_) (fun c2 => ?_)
  · refine g_iload_n 3 dX2_knownBits_37 rfl ?_
    exact g_iret rfl dX2_knownBits_38
  · refine g_iload_n 1 dX2_knownBits_14 rfl ?_
    refine g_iload_n 2 dX2_knownBits_15 rfl ?_
    refine g_iload 4 dX2_knownBits_16 rfl ?_
    refine g_callSi (J := I_X2_ageIn) (As := [.int l1, .int l2, .int l4]) (rest := []) mjs_X2_ageIn ml_RX2_71 (by decide) rfl rfl (Nat.le_of_ble_eq_true rfl) dX2_knownBits_18 (T_X2_ageIn F l1 l2 l4 h) (fun v3 h4 => ?_)
    refine g_if_le (tgt := 31) dX2_knownBits_21 (by decide) (fun c5 => ?_) (fun c5 => ?_)
    · refine G_lv [0, 1, 2, 3, 4] rfl ?_
      exact T_X2_knownBits_31 F hK5 l0 l1 l2 l3 l4 h4
    · refine g_iload_n 3 dX2_knownBits_24 rfl ?_
      refine g_iconst (v := 1) dX2_knownBits_25 (by decide) ?_
      refine g_iload 4 dX2_knownBits_26 rfl ?_
      refine g_ishl dX2_knownBits_28 ?_
      refine g_ior dX2_knownBits_29 ?_
      refine G_lti (fun x6 => ?_)
      refine g_istore_n (lv' := [(3, .int x6), (0, .ref l0), (1, .int l1), (2, .int l2), (4, .int l4)]) dX2_knownBits_30 (by decide) rfl ?_
      refine G_lv [1, 2, 3, 0, 4] rfl ?_
      exact T_X2_knownBits_31 F hK5 l0 l1 l2 x6 l4 h4
set_option maxRecDepth 100000 in
noncomputable def f_X2_knownBits_5 (F : Nat) : Nat → Nat → Int32 → Int32 → Int32 → Int32 → Hp → Option (Int32 × Hp)
  | 0, _, _, _, _, _, _ => none
  | n + 1, l0, l1, l2, l3, l4, h => f_X2_knownBits_5_b F (f_X2_knownBits_5 F n) l0 l1 l2 l3 l4 h
set_option maxRecDepth 100000 in
set_option maxHeartbeats 4000000 in
theorem T_X2_knownBits_5 (F : Nat) : ∀ (n : Nat) (l0 : Nat) (l1 : Int32) (l2 : Int32) (l3 : Int32) (l4 : Int32) (h : Hp), G rvI I_X2_knownBits 2 5 [(0, .ref l0), (1, .int l1), (2, .int l2), (3, .int l3), (4, .int l4)] [] h (f_X2_knownBits_5 F n l0 l1 l2 l3 l4 h) := by
  intro n
  induction n with
  | zero => intros; exact G_none
  | succ n ih => intro l0 l1 l2 l3 l4 h; exact T_X2_knownBits_5_b F ih l0 l1 l2 l3 l4 h
set_option maxRecDepth 100000 in
noncomputable def f_X2_knownBits (F : Nat) (a0 : Nat) (a1 : Int32) (a2 : Int32) (h : Hp) : Option (Int32 × Hp) :=
  f_X2_knownBits_5 F F a0 a1 a2 0 0 h
set_option maxRecDepth 100000 in
set_option maxHeartbeats 4000000 in
theorem T_X2_knownBits (F : Nat) (a0 : Nat) (a1 : Int32) (a2 : Int32) (h : Hp) : GM rvI I_X2_knownBits 2 [.ref a0, .int a1, .int a2] h (f_X2_knownBits F a0 a1 a2 h) := by
  delta f_X2_knownBits
  refine GM_of (lv := [(0, .ref a0), (1, .int a1), (2, .int a2)]) (by decide +kernel) (Nat.le_of_ble_eq_true rfl) rfl ?_
  refine g_iconst (v := 0) dX2_knownBits_0 (by decide) ?_
  refine g_istore_n (lv' := [(3, .int 0), (0, .ref a0), (1, .int a1), (2, .int a2)]) dX2_knownBits_1 (by decide) rfl ?_
  refine g_iconst (v := 0) dX2_knownBits_2 (by decide) ?_
  refine g_istore (lv' := [(4, .int 0), (3, .int 0), (0, .ref a0), (1, .int a1), (2, .int a2)]) dX2_knownBits_3 (by decide) rfl ?_
  refine G_lv [2, 3, 4, 1, 0] rfl ?_
  exact T_X2_knownBits_5 F F a0 a1 a2 0 0 h
set_option maxRecDepth 100000 in
noncomputable def f_X11_overhears_41_b (F : Nat) (K41 : Nat → Int32 → Int32 → Int32 → Int32 → Hp → Option (Int32 × Hp)) (l0 : Nat) (l1 : Int32) (l2 : Int32) (l3 : Int32) (l4 : Int32) (h : Hp) : Option (Int32 × Hp) :=
  if l2 ≤ l4 then (gR 12 h l0 3 fun v13 => gR 12 h l0 5 fun v14 => gI 9 h v14 0 fun v15 => cV 3 h v13 (f_X2_knownBits F v13 v15 l1 h) fun v16 h17 => some ((l3 &&& (v16 ^^^ (-1))), h17)) else (gR 12 h l0 3 fun v18 => gR 12 h l0 12 fun v19 => cV 8 h v19 (f_X7_agesOf F v19 l4 h) fun v20 h21 => cV 3 h21 v18 (f_X2_knownBits F v18 v20 l1 h21) fun v22 h23 => lt (l3 ||| v22) fun x24 => K41 l0 l1 l2 x24 (l4 + 1) h23)
set_option maxRecDepth 100000 in
set_option maxHeartbeats 4000000 in
theorem T_X11_overhears_41_b (F : Nat) {K41 : Nat → Int32 → Int32 → Int32 → Int32 → Hp → Option (Int32 × Hp)} (hK41 : ∀ (l0 : Nat) (l1 : Int32) (l2 : Int32) (l3 : Int32) (l4 : Int32) (h : Hp), G rvI I_X11_overhears 6 41 [(0, .ref l0), (1, .int l1), (2, .int l2), (3, .int l3), (4, .int l4)] [] h (K41 l0 l1 l2 l3 l4 h)) (l0 : Nat) (l1 : Int32) (l2 : Int32) (l3 : Int32) (l4 : Int32) (h : Hp) : G rvI I_X11_overhears 6 41 [(0, .ref l0), (1, .int l1), (2, .int l2), (3, .int l3), (4, .int l4)] [] h (f_X11_overhears_41_b F K41 l0 l1 l2 l3 l4 h) := by
  delta f_X11_overhears_41_b
  refine g_iload 4 dX11_overhears_41 rfl ?_
  refine g_iload_n 2 dX11_overhears_43 rfl ?_
  refine g_icmp_ge (tgt := 73) dX11_overhears_44 (by decide) (fun c12 => ?_) (fun c12 => ?_)
  · refine g_iload_n 3 dX11_overhears_73 rfl ?_
    refine g_aload_n 0 dX11_overhears_74 rfl ?_
    refine g_getR fl_RX11_20 rfl dX11_overhears_75 (fun v13 => ?_)
    refine g_aload_n 0 dX11_overhears_78 rfl ?_
    refine g_getR fl_RX11_36 rfl dX11_overhears_79 (fun v14 => ?_)
    refine g_getI fl_RX11_127 rfl dX11_overhears_82 (fun v15 => ?_)
    refine g_iload_n 1 dX11_overhears_85 rfl ?_
    refine g_callVi (J := I_X2_knownBits) (t := 3) (As := [.int v15, .int l1]) (rest := [.int l3]) mjv_X2_knownBits ml_RX11_293 ⟨rfl, by decide, by decide⟩ (by decide) rfl rfl (Nat.le_of_ble_eq_true rfl) dX11_overhears_86 (T_X2_knownBits F v13 v15 l1 h) (fun v16 h17 => ?_)
    refine g_iconst (v := (-1)) dX11_overhears_89 (by decide) ?_
    refine g_ixor dX11_overhears_90 ?_
    refine g_iand dX11_overhears_91 ?_
    exact g_iret rfl dX11_overhears_92
  · refine g_iload_n 3 dX11_overhears_47 rfl ?_
    refine g_aload_n 0 dX11_overhears_48 rfl ?_
    refine g_getR fl_RX11_20 rfl dX11_overhears_49 (fun v18 => ?_)
    refine g_aload_n 0 dX11_overhears_52 rfl ?_
    refine g_getR fl_RX11_70 rfl dX11_overhears_53 (fun v19 => ?_)
    refine g_iload 4 dX11_overhears_56 rfl ?_
    refine g_callVi (J := I_X7_agesOf) (t := 8) (As := [.int l4]) (rest := [.ref v18, .int l3]) mjv_X7_agesOf ml_RX11_285 ⟨rfl, by decide, by decide⟩ (by decide) rfl rfl (Nat.le_of_ble_eq_true rfl) dX11_overhears_58 (T_X7_agesOf F v19 l4 h) (fun v20 h21 => ?_)
    refine g_iload_n 1 dX11_overhears_61 rfl ?_
    refine g_callVi (J := I_X2_knownBits) (t := 3) (As := [.int v20, .int l1]) (rest := [.int l3]) mjv_X2_knownBits ml_RX11_293 ⟨rfl, by decide, by decide⟩ (by decide) rfl rfl (Nat.le_of_ble_eq_true rfl) dX11_overhears_62 (T_X2_knownBits F v18 v20 l1 h21) (fun v22 h23 => ?_)
    refine g_ior dX11_overhears_65 ?_
    refine G_lti (fun x24 => ?_)
    refine g_istore_n (lv' := [(3, .int x24), (0, .ref l0), (1, .int l1), (2, .int l2), (4, .int l4)]) dX11_overhears_66 (by decide) rfl ?_
    refine g_iinc (v' := l4 + 1) (lv' := [(4, .int (l4 + 1)), (3, .int x24), (0, .ref l0), (1, .int l1), (2, .int l2)]) 4 dX11_overhears_67 rfl rfl (by decide) rfl ?_
    refine g_goto (tgt := 41) dX11_overhears_70 (by decide) ?_
    refine G_lv [2, 3, 4, 1, 0] rfl ?_
    exact hK41 l0 l1 l2 x24 (l4 + 1) h23
set_option maxRecDepth 100000 in
noncomputable def f_X11_overhears_41 (F : Nat) : Nat → Nat → Int32 → Int32 → Int32 → Int32 → Hp → Option (Int32 × Hp)
  | 0, _, _, _, _, _, _ => none
  | n + 1, l0, l1, l2, l3, l4, h => f_X11_overhears_41_b F (f_X11_overhears_41 F n) l0 l1 l2 l3 l4 h
set_option maxRecDepth 100000 in
set_option maxHeartbeats 4000000 in
theorem T_X11_overhears_41 (F : Nat) : ∀ (n : Nat) (l0 : Nat) (l1 : Int32) (l2 : Int32) (l3 : Int32) (l4 : Int32) (h : Hp), G rvI I_X11_overhears 6 41 [(0, .ref l0), (1, .int l1), (2, .int l2), (3, .int l3), (4, .int l4)] [] h (f_X11_overhears_41 F n l0 l1 l2 l3 l4 h) := by
  intro n
  induction n with
  | zero => intros; exact G_none
  | succ n ih => intro l0 l1 l2 l3 l4 h; exact T_X11_overhears_41_b F ih l0 l1 l2 l3 l4 h
set_option maxRecDepth 100000 in
noncomputable def f_X11_overhears (F : Nat) (a0 : Nat) (a1 : Int32) (h : Hp) : Option (Int32 × Hp) :=
  cV 12 h a0 (f_X11_noTwin F a0 a1 h) fun v1 h2 => if v1 = 0 then (gR 12 h2 a0 12 fun v4 => gR 12 h2 a0 3 fun v5 => gR 12 h2 a0 5 fun v6 => cV 8 h2 v4 (f_X7_begin F v4 v5 v6 a1 (-1) h2) fun v7 h8 => gR 12 h8 a0 12 fun v9 => cV 8 h8 v9 (f_X7_findAll F v9 h8) fun v10 h11 => f_X11_overhears_41 F F a0 a1 v10 0 0 h11) else (some ((-2), h2))
set_option maxRecDepth 100000 in
set_option maxHeartbeats 4000000 in
theorem T_X11_overhears (F : Nat) (a0 : Nat) (a1 : Int32) (h : Hp) : GM rvI I_X11_overhears 6 [.ref a0, .int a1] h (f_X11_overhears F a0 a1 h) := by
  delta f_X11_overhears
  refine GM_of (lv := [(0, .ref a0), (1, .int a1)]) (by decide +kernel) (Nat.le_of_ble_eq_true rfl) rfl ?_
  refine g_aload_n 0 dX11_overhears_0 rfl ?_
  refine g_iload_n 1 dX11_overhears_1 rfl ?_
  refine g_callVi (J := I_X11_noTwin) (t := 12) (As := [.int a1]) (rest := []) mjv_X11_noTwin ml_RX11_149 ⟨rfl, by decide, by decide⟩ (by decide) rfl rfl (Nat.le_of_ble_eq_true rfl) dX11_overhears_2 (T_X11_noTwin F a0 a1 h) (fun v1 h2 => ?_)
  refine g_if_eq (tgt := 11) dX11_overhears_5 (by decide) (fun c3 => ?_) (fun c3 => ?_)
  · refine g_aload_n 0 dX11_overhears_11 rfl ?_
    refine g_getR fl_RX11_70 rfl dX11_overhears_12 (fun v4 => ?_)
    refine g_aload_n 0 dX11_overhears_15 rfl ?_
    refine g_getR fl_RX11_20 rfl dX11_overhears_16 (fun v5 => ?_)
    refine g_aload_n 0 dX11_overhears_19 rfl ?_
    refine g_getR fl_RX11_36 rfl dX11_overhears_20 (fun v6 => ?_)
    refine g_iload_n 1 dX11_overhears_23 rfl ?_
    refine g_iconst (v := (-1)) dX11_overhears_24 (by decide) ?_
    refine g_callVv (J := I_X7_begin) (t := 8) (As := [.ref v5, .ref v6, .int a1, .int (-1)]) (rest := []) mjv_X7_begin ml_RX11_252 ⟨rfl, by decide, by decide⟩ (by decide) rfl rfl (Nat.le_of_ble_eq_true rfl) dX11_overhears_25 (T_X7_begin F v4 v5 v6 a1 (-1) h2) (fun v7 h8 => ?_)
    refine g_aload_n 0 dX11_overhears_28 rfl ?_
    refine g_getR fl_RX11_70 rfl dX11_overhears_29 (fun v9 => ?_)
    refine g_callVi (J := I_X7_findAll) (t := 8) (As := []) (rest := []) mjv_X7_findAll ml_RX11_281 ⟨rfl, by decide, by decide⟩ (by decide) rfl rfl (Nat.le_of_ble_eq_true rfl) dX11_overhears_32 (T_X7_findAll F v9 h8) (fun v10 h11 => ?_)
    refine g_istore_n (lv' := [(2, .int v10), (0, .ref a0), (1, .int a1)]) dX11_overhears_35 (by decide) rfl ?_
    refine g_iconst (v := 0) dX11_overhears_36 (by decide) ?_
    refine g_istore_n (lv' := [(3, .int 0), (2, .int v10), (0, .ref a0), (1, .int a1)]) dX11_overhears_37 (by decide) rfl ?_
    refine g_iconst (v := 0) dX11_overhears_38 (by decide) ?_
    refine g_istore (lv' := [(4, .int 0), (3, .int 0), (2, .int v10), (0, .ref a0), (1, .int a1)]) dX11_overhears_39 (by decide) rfl ?_
    refine G_lv [3, 4, 2, 1, 0] rfl ?_
    exact T_X11_overhears_41 F F a0 a1 v10 0 0 h11
  · refine g_bipush (v := (-2)) dX11_overhears_8 (by decide) ?_
    exact g_iret rfl dX11_overhears_10
