/-! L2, by program (wip/whole/gen/gen.py) -/
set_option maxRecDepth 100000 in
noncomputable def f_X11_brings (F : Nat) (a0 : Nat) (a1 : Int32) (a2 : Int32) (a3 : Int32) (h : Hp) : Option (Int32 × Hp) :=
  cV 12 h a0 (f_X11_noTwin F a0 a1 h) fun v1 h2 => if v1 = 0 then (cV 12 h2 a0 (f_X11_noFact F a0 a2 h2) fun v4 h5 => if v4 = 0 then (cV 12 h5 a0 (f_X11_noTwin F a0 a3 h5) fun v7 h8 => if v7 = 0 then (gR 12 h8 a0 3 fun v10 => gR 12 h8 a0 5 fun v11 => gI 9 h8 v11 0 fun v12 => gR 12 h8 a0 5 fun v13 => gI 9 h8 v13 1 fun v14 => cV 3 h8 v10 (f_X2_afterTelling F v10 v12 v14 a1 a2 h8) fun v15 h16 => if 0 ≤ v15 then (bd (f_X2_ageIn F v15 a3 a2 h16) fun v18 h19 => some (v18, h19)) else (some ((-5), h16))) else (some ((-2), h8))) else (some ((-2), h5))) else (some ((-2), h2))
set_option maxRecDepth 100000 in
set_option maxHeartbeats 4000000 in
theorem T_X11_brings (F : Nat) (a0 : Nat) (a1 : Int32) (a2 : Int32) (a3 : Int32) (h : Hp) : GM rvI I_X11_brings 4 [.ref a0, .int a1, .int a2, .int a3] h (f_X11_brings F a0 a1 a2 a3 h) := by
  delta f_X11_brings
  refine GM_of (lv := [(0, .ref a0), (1, .int a1), (2, .int a2), (3, .int a3)]) (by decide +kernel) (Nat.le_of_ble_eq_true rfl) rfl ?_
  refine g_aload_n 0 dX11_brings_0 rfl ?_
  refine g_iload_n 1 dX11_brings_1 rfl ?_
  refine g_callVi (J := I_X11_noTwin) (t := 12) (As := [.int a1]) (rest := []) mjv_X11_noTwin ml_RX11_149 ⟨rfl, by decide, by decide⟩ (by decide) rfl rfl (Nat.le_of_ble_eq_true rfl) dX11_brings_2 (T_X11_noTwin F a0 a1 h) (fun v1 h2 => ?_)
  refine g_if_ne (tgt := 24) dX11_brings_5 (by decide) (fun c3 => ?_) (fun c3 => ?_)
  · refine g_aload_n 0 dX11_brings_8 rfl ?_
    refine g_iload_n 2 dX11_brings_9 rfl ?_
    refine g_callVi (J := I_X11_noFact) (t := 12) (As := [.int a2]) (rest := []) mjv_X11_noFact ml_RX11_153 ⟨rfl, by decide, by decide⟩ (by decide) rfl rfl (Nat.le_of_ble_eq_true rfl) dX11_brings_10 (T_X11_noFact F a0 a2 h2) (fun v4 h5 => ?_)
    refine g_if_ne (tgt := 24) dX11_brings_13 (by decide) (fun c6 => ?_) (fun c6 => ?_)
    · refine g_aload_n 0 dX11_brings_16 rfl ?_
      refine g_iload_n 3 dX11_brings_17 rfl ?_
      refine g_callVi (J := I_X11_noTwin) (t := 12) (As := [.int a3]) (rest := []) mjv_X11_noTwin ml_RX11_149 ⟨rfl, by decide, by decide⟩ (by decide) rfl rfl (Nat.le_of_ble_eq_true rfl) dX11_brings_18 (T_X11_noTwin F a0 a3 h5) (fun v7 h8 => ?_)
      refine g_if_eq (tgt := 27) dX11_brings_21 (by decide) (fun c9 => ?_) (fun c9 => ?_)
      · refine g_aload_n 0 dX11_brings_27 rfl ?_
        refine g_getR fl_RX11_20 rfl dX11_brings_28 (fun v10 => ?_)
        refine g_aload_n 0 dX11_brings_31 rfl ?_
        refine g_getR fl_RX11_36 rfl dX11_brings_32 (fun v11 => ?_)
        refine g_getI fl_RX11_127 rfl dX11_brings_35 (fun v12 => ?_)
        refine g_aload_n 0 dX11_brings_38 rfl ?_
        refine g_getR fl_RX11_36 rfl dX11_brings_39 (fun v13 => ?_)
        refine g_getI fl_RX11_133 rfl dX11_brings_42 (fun v14 => ?_)
        refine g_iload_n 1 dX11_brings_45 rfl ?_
        refine g_iload_n 2 dX11_brings_46 rfl ?_
        refine g_callVi (J := I_X2_afterTelling) (t := 3) (As := [.int v12, .int v14, .int a1, .int a2]) (rest := []) mjv_X2_afterTelling ml_RX11_177 ⟨rfl, by decide, by decide⟩ (by decide) rfl rfl (Nat.le_of_ble_eq_true rfl) dX11_brings_47 (T_X2_afterTelling F v10 v12 v14 a1 a2 h8) (fun v15 h16 => ?_)
        refine g_istore (lv' := [(4, .int v15), (0, .ref a0), (1, .int a1), (2, .int a2), (3, .int a3)]) dX11_brings_50 (by decide) rfl ?_
        refine g_iload 0 dX11_brings_52 rfl ?_
        refine g_if_ge (tgt := 62) dX11_brings_54 (by decide) (fun c17 => ?_) (fun c17 => ?_)
        · refine g_iload 0 dX11_brings_62 rfl ?_
          refine g_iload_n 4 dX11_brings_64 rfl ?_
          refine g_iload_n 3 dX11_brings_65 rfl ?_
          refine g_callSi (J := I_X2_ageIn) (As := [.int v15, .int a3, .int a2]) (rest := []) mjs_X2_ageIn ml_RX11_156 (by decide) rfl rfl (Nat.le_of_ble_eq_true rfl) dX11_brings_66 (T_X2_ageIn F v15 a3 a2 h16) (fun v18 h19 => ?_)
          exact g_iret rfl dX11_brings_69
        · refine g_bipush (v := (-5)) dX11_brings_57 (by decide) ?_
          refine g_goto (tgt := 69) dX11_brings_59 (by decide) ?_
          exact g_iret rfl dX11_brings_69
      · refine g_bipush (v := (-2)) dX11_brings_24 (by decide) ?_
        exact g_iret rfl dX11_brings_26
    · refine g_bipush (v := (-2)) dX11_brings_24 (by decide) ?_
      exact g_iret rfl dX11_brings_26
  · refine g_bipush (v := (-2)) dX11_brings_24 (by decide) ?_
    exact g_iret rfl dX11_brings_26
set_option maxRecDepth 100000 in
noncomputable def f_X7_findAll (F : Nat) (a0 : Nat) (h : Hp) : Option (Int32 × Hp) :=
  gR 8 h a0 0 fun v1 => al 20 h v1 fun v2 => cV 8 h a0 (f_X7_finds F a0 v2 h) fun v3 h4 => gI 8 h4 a0 2 fun v5 => some (v5, h4)
set_option maxRecDepth 100000 in
set_option maxHeartbeats 4000000 in
theorem T_X7_findAll (F : Nat) (a0 : Nat) (h : Hp) : GM rvI I_X7_findAll 5 [.ref a0] h (f_X7_findAll F a0 h) := by
  delta f_X7_findAll
  refine GM_of (lv := [(0, .ref a0)]) (by decide +kernel) (Nat.le_of_ble_eq_true rfl) rfl ?_
  refine g_aload_n 0 dX7_findAll_0 rfl ?_
  refine g_aload_n 0 dX7_findAll_1 rfl ?_
  refine g_getR fl_RX7_9 rfl dX7_findAll_2 (fun v1 => ?_)
  refine g_alen (by decide) (by decide) dX7_findAll_5 (fun v2 => ?_)
  refine g_callVi (J := I_X7_finds) (t := 8) (As := [.int v2]) (rest := []) mjv_X7_finds ml_RX7_92 ⟨rfl, by decide, by decide⟩ (by decide) rfl rfl (Nat.le_of_ble_eq_true rfl) dX7_findAll_6 (T_X7_finds F a0 v2 h) (fun v3 h4 => ?_)
  refine g_pop dX7_findAll_9 rfl ?_
  refine g_aload_n 0 dX7_findAll_10 rfl ?_
  refine g_getI fl_RX7_28 rfl dX7_findAll_11 (fun v5 => ?_)
  exact g_iret rfl dX7_findAll_14
set_option maxRecDepth 100000 in
noncomputable def f_X11_can_41_b (F : Nat) (K41 : Nat → Int32 → Int32 → Int32 → Int32 → Hp → Option (Int32 × Hp)) (l0 : Nat) (l1 : Int32) (l2 : Int32) (l3 : Int32) (l4 : Int32) (h : Hp) : Option (Int32 × Hp) :=
  if l2 ≤ l4 then (some (l3, h)) else (gR 12 h l0 3 fun v13 => gR 12 h l0 11 fun v14 => cV 8 h v14 (f_X7_agesOf F v14 l4 h) fun v15 h16 => cV 3 h16 v13 (f_X2_doneBy F v13 v15 l1 h16) fun v17 h18 => lt (l3 ||| v17) fun x19 => K41 l0 l1 l2 x19 (l4 + 1) h18)
set_option maxRecDepth 100000 in
set_option maxHeartbeats 4000000 in
theorem T_X11_can_41_b (F : Nat) {K41 : Nat → Int32 → Int32 → Int32 → Int32 → Hp → Option (Int32 × Hp)} (hK41 : ∀ (l0 : Nat) (l1 : Int32) (l2 : Int32) (l3 : Int32) (l4 : Int32) (h : Hp), G rvI I_X11_can 6 41 [(0, .ref l0), (1, .int l1), (2, .int l2), (3, .int l3), (4, .int l4)] [] h (K41 l0 l1 l2 l3 l4 h)) (l0 : Nat) (l1 : Int32) (l2 : Int32) (l3 : Int32) (l4 : Int32) (h : Hp) : G rvI I_X11_can 6 41 [(0, .ref l0), (1, .int l1), (2, .int l2), (3, .int l3), (4, .int l4)] [] h (f_X11_can_41_b F K41 l0 l1 l2 l3 l4 h) := by
  delta f_X11_can_41_b
  refine g_iload 4 dX11_can_41 rfl ?_
  refine g_iload_n 2 dX11_can_43 rfl ?_
  refine g_icmp_ge (tgt := 73) dX11_can_44 (by decide) (fun c12 => ?_) (fun c12 => ?_)
  · refine g_iload_n 3 dX11_can_73 rfl ?_
    exact g_iret rfl dX11_can_74
  · refine g_iload_n 3 dX11_can_47 rfl ?_
    refine g_aload_n 0 dX11_can_48 rfl ?_
    refine g_getR fl_RX11_20 rfl dX11_can_49 (fun v13 => ?_)
    refine g_aload_n 0 dX11_can_52 rfl ?_
    refine g_getR fl_RX11_66 rfl dX11_can_53 (fun v14 => ?_)
    refine g_iload 4 dX11_can_56 rfl ?_
    refine g_callVi (J := I_X7_agesOf) (t := 8) (As := [.int l4]) (rest := [.ref v13, .int l3]) mjv_X7_agesOf ml_RX11_285 ⟨rfl, by decide, by decide⟩ (by decide) rfl rfl (Nat.le_of_ble_eq_true rfl) dX11_can_58 (T_X7_agesOf F v14 l4 h) (fun v15 h16 => ?_)
    refine g_iload_n 1 dX11_can_61 rfl ?_
    refine g_callVi (J := I_X2_doneBy) (t := 3) (As := [.int v15, .int l1]) (rest := [.int l3]) mjv_X2_doneBy ml_RX11_170 ⟨rfl, by decide, by decide⟩ (by decide) rfl rfl (Nat.le_of_ble_eq_true rfl) dX11_can_62 (T_X2_doneBy F v13 v15 l1 h16) (fun v17 h18 => ?_)
    refine g_ior dX11_can_65 ?_
    refine G_lti (fun x19 => ?_)
    refine g_istore_n (lv' := [(3, .int x19), (0, .ref l0), (1, .int l1), (2, .int l2), (4, .int l4)]) dX11_can_66 (by decide) rfl ?_
    refine g_iinc (v' := l4 + 1) (lv' := [(4, .int (l4 + 1)), (3, .int x19), (0, .ref l0), (1, .int l1), (2, .int l2)]) 4 dX11_can_67 rfl rfl (by decide) rfl ?_
    refine g_goto (tgt := 41) dX11_can_70 (by decide) ?_
    refine G_lv [2, 3, 4, 1, 0] rfl ?_
    exact hK41 l0 l1 l2 x19 (l4 + 1) h18
set_option maxRecDepth 100000 in
noncomputable def f_X11_can_41 (F : Nat) : Nat → Nat → Int32 → Int32 → Int32 → Int32 → Hp → Option (Int32 × Hp)
  | 0, _, _, _, _, _, _ => none
  | n + 1, l0, l1, l2, l3, l4, h => f_X11_can_41_b F (f_X11_can_41 F n) l0 l1 l2 l3 l4 h
set_option maxRecDepth 100000 in
set_option maxHeartbeats 4000000 in
theorem T_X11_can_41 (F : Nat) : ∀ (n : Nat) (l0 : Nat) (l1 : Int32) (l2 : Int32) (l3 : Int32) (l4 : Int32) (h : Hp), G rvI I_X11_can 6 41 [(0, .ref l0), (1, .int l1), (2, .int l2), (3, .int l3), (4, .int l4)] [] h (f_X11_can_41 F n l0 l1 l2 l3 l4 h) := by
  intro n
  induction n with
  | zero => intros; exact G_none
  | succ n ih => intro l0 l1 l2 l3 l4 h; exact T_X11_can_41_b F ih l0 l1 l2 l3 l4 h
set_option maxRecDepth 100000 in
noncomputable def f_X11_can (F : Nat) (a0 : Nat) (a1 : Int32) (h : Hp) : Option (Int32 × Hp) :=
  cV 12 h a0 (f_X11_noTwin F a0 a1 h) fun v1 h2 => if v1 = 0 then (gR 12 h2 a0 11 fun v4 => gR 12 h2 a0 3 fun v5 => gR 12 h2 a0 5 fun v6 => cV 8 h2 v4 (f_X7_begin F v4 v5 v6 (-1) (-1) h2) fun v7 h8 => gR 12 h8 a0 11 fun v9 => cV 8 h8 v9 (f_X7_findAll F v9 h8) fun v10 h11 => f_X11_can_41 F F a0 a1 v10 0 0 h11) else (some ((-2), h2))
set_option maxRecDepth 100000 in
set_option maxHeartbeats 4000000 in
theorem T_X11_can (F : Nat) (a0 : Nat) (a1 : Int32) (h : Hp) : GM rvI I_X11_can 6 [.ref a0, .int a1] h (f_X11_can F a0 a1 h) := by
  delta f_X11_can
  refine GM_of (lv := [(0, .ref a0), (1, .int a1)]) (by decide +kernel) (Nat.le_of_ble_eq_true rfl) rfl ?_
  refine g_aload_n 0 dX11_can_0 rfl ?_
  refine g_iload_n 1 dX11_can_1 rfl ?_
  refine g_callVi (J := I_X11_noTwin) (t := 12) (As := [.int a1]) (rest := []) mjv_X11_noTwin ml_RX11_149 ⟨rfl, by decide, by decide⟩ (by decide) rfl rfl (Nat.le_of_ble_eq_true rfl) dX11_can_2 (T_X11_noTwin F a0 a1 h) (fun v1 h2 => ?_)
  refine g_if_eq (tgt := 11) dX11_can_5 (by decide) (fun c3 => ?_) (fun c3 => ?_)
  · refine g_aload_n 0 dX11_can_11 rfl ?_
    refine g_getR fl_RX11_66 rfl dX11_can_12 (fun v4 => ?_)
    refine g_aload_n 0 dX11_can_15 rfl ?_
    refine g_getR fl_RX11_20 rfl dX11_can_16 (fun v5 => ?_)
    refine g_aload_n 0 dX11_can_19 rfl ?_
    refine g_getR fl_RX11_36 rfl dX11_can_20 (fun v6 => ?_)
    refine g_iconst (v := (-1)) dX11_can_23 (by decide) ?_
    refine g_iconst (v := (-1)) dX11_can_24 (by decide) ?_
    refine g_callVv (J := I_X7_begin) (t := 8) (As := [.ref v5, .ref v6, .int (-1), .int (-1)]) (rest := []) mjv_X7_begin ml_RX11_252 ⟨rfl, by decide, by decide⟩ (by decide) rfl rfl (Nat.le_of_ble_eq_true rfl) dX11_can_25 (T_X7_begin F v4 v5 v6 (-1) (-1) h2) (fun v7 h8 => ?_)
    refine g_aload_n 0 dX11_can_28 rfl ?_
    refine g_getR fl_RX11_66 rfl dX11_can_29 (fun v9 => ?_)
    refine g_callVi (J := I_X7_findAll) (t := 8) (As := []) (rest := []) mjv_X7_findAll ml_RX11_281 ⟨rfl, by decide, by decide⟩ (by decide) rfl rfl (Nat.le_of_ble_eq_true rfl) dX11_can_32 (T_X7_findAll F v9 h8) (fun v10 h11 => ?_)
    refine g_istore_n (lv' := [(2, .int v10), (0, .ref a0), (1, .int a1)]) dX11_can_35 (by decide) rfl ?_
    refine g_iconst (v := 0) dX11_can_36 (by decide) ?_
    refine g_istore_n (lv' := [(3, .int 0), (2, .int v10), (0, .ref a0), (1, .int a1)]) dX11_can_37 (by decide) rfl ?_
    refine g_iconst (v := 0) dX11_can_38 (by decide) ?_
    refine g_istore (lv' := [(4, .int 0), (3, .int 0), (2, .int v10), (0, .ref a0), (1, .int a1)]) dX11_can_39 (by decide) rfl ?_
    refine G_lv [3, 4, 2, 1, 0] rfl ?_
    exact T_X11_can_41 F F a0 a1 v10 0 0 h11
  · refine g_bipush (v := (-2)) dX11_can_8 (by decide) ?_
    exact g_iret rfl dX11_can_10
set_option maxRecDepth 100000 in
noncomputable def f_X0_tally_12_b (F : Nat) (K12 : Nat → Int32 → Int32 → Hp → Option (Unit × Hp)) (l0 : Nat) (l1 : Int32) (l2 : Int32) (h : Hp) : Option (Unit × Hp) :=
  gR 1 h l0 1 fun v3 => al 20 h v3 fun v4 => if v4 ≤ l2 then (some ((), h)) else (gR 1 h l0 1 fun v6 => aI 20 h v6 l2 fun v7 => wI h v6 l2 (v7 + ((l1 >>> (l2 &&& 31)) &&& 1)) fun h8 => K12 l0 l1 (l2 + 1) h8)
set_option maxRecDepth 100000 in
set_option maxHeartbeats 4000000 in
theorem T_X0_tally_12_b (F : Nat) {K12 : Nat → Int32 → Int32 → Hp → Option (Unit × Hp)} (hK12 : ∀ (l0 : Nat) (l1 : Int32) (l2 : Int32) (h : Hp), G rvV I_X0_tally 1 12 [(0, .ref l0), (1, .int l1), (2, .int l2)] [] h (K12 l0 l1 l2 h)) (l0 : Nat) (l1 : Int32) (l2 : Int32) (h : Hp) : G rvV I_X0_tally 1 12 [(0, .ref l0), (1, .int l1), (2, .int l2)] [] h (f_X0_tally_12_b F K12 l0 l1 l2 h) := by
  delta f_X0_tally_12_b
  refine g_iload_n 2 dX0_tally_12 rfl ?_
  refine g_aload_n 0 dX0_tally_13 rfl ?_
  refine g_getR fl_RX0_9 rfl dX0_tally_14 (fun v3 => ?_)
  refine g_alen (by decide) (by decide) dX0_tally_17 (fun v4 => ?_)
  refine g_icmp_ge (tgt := 41) dX0_tally_18 (by decide) (fun c5 => ?_) (fun c5 => ?_)
  · exact g_vret rfl dX0_tally_41
  · refine g_aload_n 0 dX0_tally_21 rfl ?_
    refine g_getR fl_RX0_9 rfl dX0_tally_22 (fun v6 => ?_)
    refine g_iload_n 2 dX0_tally_25 rfl ?_
    refine g_dup2 dX0_tally_26 rfl rfl ?_
    refine g_iald dX0_tally_27 (fun v7 => ?_)
    refine g_iload_n 1 dX0_tally_28 rfl ?_
    refine g_iload_n 2 dX0_tally_29 rfl ?_
    refine g_ishr dX0_tally_30 ?_
    refine g_iconst (v := 1) dX0_tally_31 (by decide) ?_
    refine g_iand dX0_tally_32 ?_
    refine g_iadd dX0_tally_33 ?_
    refine g_iast dX0_tally_34 (fun h8 => ?_)
    refine g_iinc (v' := l2 + 1) (lv' := [(2, .int (l2 + 1)), (0, .ref l0), (1, .int l1)]) 2 dX0_tally_35 rfl rfl (by decide) rfl ?_
    refine g_goto (tgt := 12) dX0_tally_38 (by decide) ?_
    refine G_lv [1, 2, 0] rfl ?_
    exact hK12 l0 l1 (l2 + 1) h8
set_option maxRecDepth 100000 in
noncomputable def f_X0_tally_12 (F : Nat) : Nat → Nat → Int32 → Int32 → Hp → Option (Unit × Hp)
  | 0, _, _, _, _ => none
  | n + 1, l0, l1, l2, h => f_X0_tally_12_b F (f_X0_tally_12 F n) l0 l1 l2 h
set_option maxRecDepth 100000 in
set_option maxHeartbeats 4000000 in
theorem T_X0_tally_12 (F : Nat) : ∀ (n : Nat) (l0 : Nat) (l1 : Int32) (l2 : Int32) (h : Hp), G rvV I_X0_tally 1 12 [(0, .ref l0), (1, .int l1), (2, .int l2)] [] h (f_X0_tally_12 F n l0 l1 l2 h) := by
  intro n
  induction n with
  | zero => intros; exact G_none
  | succ n ih => intro l0 l1 l2 h; exact T_X0_tally_12_b F ih l0 l1 l2 h
set_option maxRecDepth 100000 in
noncomputable def f_X0_tally (F : Nat) (a0 : Nat) (a1 : Int32) (h : Hp) : Option (Unit × Hp) :=
  gI 1 h a0 0 fun v1 => pI 1 h a0 0 (v1 + 1) fun h2 => f_X0_tally_12 F F a0 a1 0 h2
set_option maxRecDepth 100000 in
set_option maxHeartbeats 4000000 in
theorem T_X0_tally (F : Nat) (a0 : Nat) (a1 : Int32) (h : Hp) : GM rvV I_X0_tally 1 [.ref a0, .int a1] h (f_X0_tally F a0 a1 h) := by
  delta f_X0_tally
  refine GM_of (lv := [(0, .ref a0), (1, .int a1)]) (by decide +kernel) (Nat.le_of_ble_eq_true rfl) rfl ?_
  refine g_aload_n 0 dX0_tally_0 rfl ?_
  refine g_dup dX0_tally_1 rfl ?_
  refine g_getI fl_RX0_29 rfl dX0_tally_2 (fun v1 => ?_)
  refine g_iconst (v := 1) dX0_tally_5 (by decide) ?_
  refine g_iadd dX0_tally_6 ?_
  refine g_putI fl_RX0_29 (Or.inl rfl) dX0_tally_7 (fun h2 => ?_)
  refine g_iconst (v := 0) dX0_tally_10 (by decide) ?_
  refine g_istore_n (lv' := [(2, .int 0), (0, .ref a0), (1, .int a1)]) dX0_tally_11 (by decide) rfl ?_
  refine G_lv [1, 2, 0] rfl ?_
  exact T_X0_tally_12 F F a0 a1 0 h2
set_option maxRecDepth 100000 in
noncomputable def f_X0_go_14 (F : Nat) (Rc : Nat → Nat → Int32 → Int32 → Hp → Option (Unit × Hp)) (l0 : Nat) (l1 : Int32) (h : Hp) : Option (Unit × Hp) :=
  gR 1 h l0 2 fun v2 => gI 1 h l0 4 fun v3 => cV 3 h v2 (f_X2_doneBy F v2 l1 v3 h) fun v4 h5 => cV 1 h5 l0 (f_X0_tally F l0 v4 h5) fun v6 h7 => some ((), h7)
set_option maxRecDepth 100000 in
set_option maxHeartbeats 4000000 in
theorem T_X0_go_14 (F : Nat) {d dR : Nat} (hd1 : 4 ≤ d) (hdR : dR + 1 ≤ d) {Rc : Nat → Nat → Int32 → Int32 → Hp → Option (Unit × Hp)} (hR : ∀ (w : Nat) (a0 : Nat) (a1 : Int32) (a2 : Int32) (h : Hp), GM rvV (I_grp_X0_go w) dR [.ref a0, .int a1, .int a2] h (Rc w a0 a1 a2 h)) (l0 : Nat) (l1 : Int32) (h : Hp) : G rvV I_X0_go d 14 [(0, .ref l0), (1, .int l1)] [] h (f_X0_go_14 F Rc l0 l1 h) := by
  delta f_X0_go_14
  refine g_aload_n 0 dX0_go_14 rfl ?_
  refine g_aload_n 0 dX0_go_15 rfl ?_
  refine g_getR fl_RX0_15 rfl dX0_go_16 (fun v2 => ?_)
  refine g_iload_n 1 dX0_go_19 rfl ?_
  refine g_aload_n 0 dX0_go_20 rfl ?_
  refine g_getI fl_RX0_26 rfl dX0_go_21 (fun v3 => ?_)
  refine g_callVi (J := I_X2_doneBy) (t := 3) (As := [.int l1, .int v3]) (rest := [.ref l0]) mjv_X2_doneBy ml_RX0_50 ⟨rfl, by decide, by decide⟩ (Nat.le_trans (by decide) hd1) rfl rfl (Nat.le_of_ble_eq_true rfl) dX0_go_24 (T_X2_doneBy F v2 l1 v3 h) (fun v4 h5 => ?_)
  refine g_callVv (J := I_X0_tally) (t := 1) (As := [.int v4]) (rest := []) mjv_X0_tally ml_RX0_54 ⟨rfl, by decide, by decide⟩ (Nat.le_trans (by decide) hd1) rfl rfl (Nat.le_of_ble_eq_true rfl) dX0_go_27 (T_X0_tally F l0 v4 h5) (fun v6 h7 => ?_)
  exact g_vret rfl dX0_go_30
set_option maxRecDepth 100000 in
noncomputable def f_X0_go_82 (F : Nat) (Rc : Nat → Nat → Int32 → Int32 → Hp → Option (Unit × Hp)) (K33 : Nat → Int32 → Int32 → Int32 → Hp → Option (Unit × Hp)) (K41 : Nat → Int32 → Int32 → Int32 → Int32 → Hp → Option (Unit × Hp)) (l0 : Nat) (l1 : Int32) (l2 : Int32) (l3 : Int32) (l4 : Int32) (s0 : Int32) (s1 : Nat) (h : Hp) : Option (Unit × Hp) :=
  bd (f_X2_afterDay F s0 h) fun v20 h21 => cV 1 h21 s1 (Rc 0 s1 v20 (l2 - 1) h21) fun v22 h23 => K41 l0 l1 l2 l3 (l4 + 1) h23
set_option maxRecDepth 100000 in
set_option maxHeartbeats 4000000 in
theorem T_X0_go_82 (F : Nat) {d dR : Nat} (hd1 : 4 ≤ d) (hdR : dR + 1 ≤ d) {Rc : Nat → Nat → Int32 → Int32 → Hp → Option (Unit × Hp)} (hR : ∀ (w : Nat) (a0 : Nat) (a1 : Int32) (a2 : Int32) (h : Hp), GM rvV (I_grp_X0_go w) dR [.ref a0, .int a1, .int a2] h (Rc w a0 a1 a2 h)) {K33 : Nat → Int32 → Int32 → Int32 → Hp → Option (Unit × Hp)} (hK33 : ∀ (l0 : Nat) (l1 : Int32) (l2 : Int32) (l3 : Int32) (h : Hp), G rvV I_X0_go d 33 [(0, .ref l0), (1, .int l1), (2, .int l2), (3, .int l3)] [] h (K33 l0 l1 l2 l3 h)) {K41 : Nat → Int32 → Int32 → Int32 → Int32 → Hp → Option (Unit × Hp)} (hK41 : ∀ (l0 : Nat) (l1 : Int32) (l2 : Int32) (l3 : Int32) (l4 : Int32) (h : Hp), G rvV I_X0_go d 41 [(0, .ref l0), (1, .int l1), (2, .int l2), (3, .int l3), (4, .int l4)] [] h (K41 l0 l1 l2 l3 l4 h)) (l0 : Nat) (l1 : Int32) (l2 : Int32) (l3 : Int32) (l4 : Int32) (s0 : Int32) (s1 : Nat) (h : Hp) : G rvV I_X0_go d 82 [(0, .ref l0), (1, .int l1), (2, .int l2), (3, .int l3), (4, .int l4)] [.int s0, .ref s1] h (f_X0_go_82 F Rc K33 K41 l0 l1 l2 l3 l4 s0 s1 h) := by
  delta f_X0_go_82
  refine g_callSi (J := I_X2_afterDay) (As := [.int s0]) (rest := [.ref s1]) mjs_X2_afterDay ml_RX0_62 (Nat.le_trans (by decide) hd1) rfl rfl (Nat.le_of_ble_eq_true rfl) dX0_go_82 (T_X2_afterDay F s0 h) (fun v20 h21 => ?_)
  refine g_iload_n 2 dX0_go_85 rfl ?_
  refine g_iconst (v := 1) dX0_go_86 (by decide) ?_
  refine g_isub dX0_go_87 ?_
  refine g_callVv (J := I_X0_go) (t := 1) (As := [.int v20, .int (l2 - 1)]) (rest := []) mjv_X0_go ml_RX0_41 ⟨rfl, by decide, by decide⟩ hdR rfl rfl (Nat.le_of_ble_eq_true rfl) dX0_go_88 (hR 0 s1 v20 (l2 - 1) h21) (fun v22 h23 => ?_)
  refine g_iinc (v' := l4 + 1) (lv' := [(4, .int (l4 + 1)), (0, .ref l0), (1, .int l1), (2, .int l2), (3, .int l3)]) 4 dX0_go_91 rfl rfl (by decide) rfl ?_
  refine g_goto (tgt := 41) dX0_go_94 (by decide) ?_
  refine G_lv [1, 2, 3, 4, 0] rfl ?_
  exact hK41 l0 l1 l2 l3 (l4 + 1) h23
set_option maxRecDepth 100000 in
noncomputable def f_X0_go_41_b (F : Nat) (Rc : Nat → Nat → Int32 → Int32 → Hp → Option (Unit × Hp)) (K33 : Nat → Int32 → Int32 → Int32 → Hp → Option (Unit × Hp)) (K41 : Nat → Int32 → Int32 → Int32 → Int32 → Hp → Option (Unit × Hp)) (l0 : Nat) (l1 : Int32) (l2 : Int32) (l3 : Int32) (l4 : Int32) (h : Hp) : Option (Unit × Hp) :=
  gR 1 h l0 2 fun v12 => gI 3 h v12 0 fun v13 => if v13 ≤ l4 then (K33 l0 l1 l2 (l3 + 1) h) else (gR 1 h l0 2 fun v15 => gI 1 h l0 3 fun v16 => cV 3 h v15 (f_X2_afterTelling F v15 l1 v16 l3 l4 h) fun v17 h18 => if 0 ≤ v17 then (f_X0_go_82 F Rc K33 K41 l0 l1 l2 l3 l4 v17 l0 h18) else (f_X0_go_82 F Rc K33 K41 l0 l1 l2 l3 l4 l1 l0 h18))
set_option maxRecDepth 100000 in
set_option maxHeartbeats 4000000 in
theorem T_X0_go_41_b (F : Nat) {d dR : Nat} (hd1 : 4 ≤ d) (hdR : dR + 1 ≤ d) {Rc : Nat → Nat → Int32 → Int32 → Hp → Option (Unit × Hp)} (hR : ∀ (w : Nat) (a0 : Nat) (a1 : Int32) (a2 : Int32) (h : Hp), GM rvV (I_grp_X0_go w) dR [.ref a0, .int a1, .int a2] h (Rc w a0 a1 a2 h)) {K33 : Nat → Int32 → Int32 → Int32 → Hp → Option (Unit × Hp)} (hK33 : ∀ (l0 : Nat) (l1 : Int32) (l2 : Int32) (l3 : Int32) (h : Hp), G rvV I_X0_go d 33 [(0, .ref l0), (1, .int l1), (2, .int l2), (3, .int l3)] [] h (K33 l0 l1 l2 l3 h)) {K41 : Nat → Int32 → Int32 → Int32 → Int32 → Hp → Option (Unit × Hp)} (hK41 : ∀ (l0 : Nat) (l1 : Int32) (l2 : Int32) (l3 : Int32) (l4 : Int32) (h : Hp), G rvV I_X0_go d 41 [(0, .ref l0), (1, .int l1), (2, .int l2), (3, .int l3), (4, .int l4)] [] h (K41 l0 l1 l2 l3 l4 h)) (l0 : Nat) (l1 : Int32) (l2 : Int32) (l3 : Int32) (l4 : Int32) (h : Hp) : G rvV I_X0_go d 41 [(0, .ref l0), (1, .int l1), (2, .int l2), (3, .int l3), (4, .int l4)] [] h (f_X0_go_41_b F Rc K33 K41 l0 l1 l2 l3 l4 h) := by
  delta f_X0_go_41_b
  refine g_iload 4 dX0_go_41 rfl ?_
  refine g_aload_n 0 dX0_go_43 rfl ?_
  refine g_getR fl_RX0_15 rfl dX0_go_44 (fun v12 => ?_)
  refine g_getI fl_RX0_45 rfl dX0_go_47 (fun v13 => ?_)
  refine g_icmp_ge (tgt := 97) dX0_go_50 (by decide) (fun c14 => ?_) (fun c14 => ?_)
  · refine g_iinc (v' := l3 + 1) (lv' := [(3, .int (l3 + 1)), (0, .ref l0), (1, .int l1), (2, .int l2), (4, .int l4)]) 3 dX0_go_97 rfl rfl (by decide) rfl ?_
    refine g_goto (tgt := 33) dX0_go_100 (by decide) ?_
    refine G_lv [1, 2, 3, 0] rfl ?_
    exact hK33 l0 l1 l2 (l3 + 1) h
  · refine g_aload_n 0 dX0_go_53 rfl ?_
    refine g_getR fl_RX0_15 rfl dX0_go_54 (fun v15 => ?_)
    refine g_iload_n 1 dX0_go_57 rfl ?_
    refine g_aload_n 0 dX0_go_58 rfl ?_
    refine g_getI fl_RX0_25 rfl dX0_go_59 (fun v16 => ?_)
    refine g_iload_n 3 dX0_go_62 rfl ?_
    refine g_iload 4 dX0_go_63 rfl ?_
    refine g_callVi (J := I_X2_afterTelling) (t := 3) (As := [.int l1, .int v16, .int l3, .int l4]) (rest := []) mjv_X2_afterTelling ml_RX0_58 ⟨rfl, by decide, by decide⟩ (Nat.le_trans (by decide) hd1) rfl rfl (Nat.le_of_ble_eq_true rfl) dX0_go_65 (T_X2_afterTelling F v15 l1 v16 l3 l4 h) (fun v17 h18 => ?_)
    refine g_istore (lv' := [(5, .int v17), (0, .ref l0), (1, .int l1), (2, .int l2), (3, .int l3), (4, .int l4)]) dX0_go_68 (by decide) rfl ?_
    refine g_aload_n 1 dX0_go_70 rfl ?_
    refine g_iload 0 dX0_go_71 rfl ?_
    refine g_if_ge (tgt := 80) dX0_go_73 (by decide) (fun c19 => ?_) (fun c19 => ?_)
    · refine g_iload 0 dX0_go_80 rfl ?_
      refine G_lv [1, 2, 3, 4, 5] rfl ?_
      exact T_X0_go_82 F hd1 hdR hR hK33 hK41 l0 l1 l2 l3 l4 v17 l0 h18
    · refine g_iload_n 2 dX0_go_76 rfl ?_
      refine g_goto (tgt := 82) dX0_go_77 (by decide) ?_
      refine G_lv [1, 2, 3, 4, 5] rfl ?_
      exact T_X0_go_82 F hd1 hdR hR hK33 hK41 l0 l1 l2 l3 l4 l1 l0 h18
set_option maxRecDepth 100000 in
noncomputable def f_X0_go_41 (F : Nat) (Rc : Nat → Nat → Int32 → Int32 → Hp → Option (Unit × Hp)) (K33 : Nat → Int32 → Int32 → Int32 → Hp → Option (Unit × Hp)) : Nat → Nat → Int32 → Int32 → Int32 → Int32 → Hp → Option (Unit × Hp)
  | 0, _, _, _, _, _, _ => none
  | n + 1, l0, l1, l2, l3, l4, h => f_X0_go_41_b F Rc K33 (f_X0_go_41 F Rc K33 n) l0 l1 l2 l3 l4 h
set_option maxRecDepth 100000 in
set_option maxHeartbeats 4000000 in
theorem T_X0_go_41 (F : Nat) {d dR : Nat} (hd1 : 4 ≤ d) (hdR : dR + 1 ≤ d) {Rc : Nat → Nat → Int32 → Int32 → Hp → Option (Unit × Hp)} (hR : ∀ (w : Nat) (a0 : Nat) (a1 : Int32) (a2 : Int32) (h : Hp), GM rvV (I_grp_X0_go w) dR [.ref a0, .int a1, .int a2] h (Rc w a0 a1 a2 h)) {K33 : Nat → Int32 → Int32 → Int32 → Hp → Option (Unit × Hp)} (hK33 : ∀ (l0 : Nat) (l1 : Int32) (l2 : Int32) (l3 : Int32) (h : Hp), G rvV I_X0_go d 33 [(0, .ref l0), (1, .int l1), (2, .int l2), (3, .int l3)] [] h (K33 l0 l1 l2 l3 h)) : ∀ (n : Nat) (l0 : Nat) (l1 : Int32) (l2 : Int32) (l3 : Int32) (l4 : Int32) (h : Hp), G rvV I_X0_go d 41 [(0, .ref l0), (1, .int l1), (2, .int l2), (3, .int l3), (4, .int l4)] [] h (f_X0_go_41 F Rc K33 n l0 l1 l2 l3 l4 h) := by
  intro n
  induction n with
  | zero => intros; exact G_none
  | succ n ih => intro l0 l1 l2 l3 l4 h; exact T_X0_go_41_b F hd1 hdR hR hK33 ih l0 l1 l2 l3 l4 h
set_option maxRecDepth 100000 in
noncomputable def f_X0_go_33_b (F : Nat) (Rc : Nat → Nat → Int32 → Int32 → Hp → Option (Unit × Hp)) (K33 : Nat → Int32 → Int32 → Int32 → Hp → Option (Unit × Hp)) (l0 : Nat) (l1 : Int32) (l2 : Int32) (l3 : Int32) (h : Hp) : Option (Unit × Hp) :=
  if 2 ≤ l3 then (some ((), h)) else (f_X0_go_41 F Rc K33 F l0 l1 l2 l3 0 h)
set_option maxRecDepth 100000 in
set_option maxHeartbeats 4000000 in
theorem T_X0_go_33_b (F : Nat) {d dR : Nat} (hd1 : 4 ≤ d) (hdR : dR + 1 ≤ d) {Rc : Nat → Nat → Int32 → Int32 → Hp → Option (Unit × Hp)} (hR : ∀ (w : Nat) (a0 : Nat) (a1 : Int32) (a2 : Int32) (h : Hp), GM rvV (I_grp_X0_go w) dR [.ref a0, .int a1, .int a2] h (Rc w a0 a1 a2 h)) {K33 : Nat → Int32 → Int32 → Int32 → Hp → Option (Unit × Hp)} (hK33 : ∀ (l0 : Nat) (l1 : Int32) (l2 : Int32) (l3 : Int32) (h : Hp), G rvV I_X0_go d 33 [(0, .ref l0), (1, .int l1), (2, .int l2), (3, .int l3)] [] h (K33 l0 l1 l2 l3 h)) (l0 : Nat) (l1 : Int32) (l2 : Int32) (l3 : Int32) (h : Hp) : G rvV I_X0_go d 33 [(0, .ref l0), (1, .int l1), (2, .int l2), (3, .int l3)] [] h (f_X0_go_33_b F Rc K33 l0 l1 l2 l3 h) := by
  delta f_X0_go_33_b
  refine g_iload_n 3 dX0_go_33 rfl ?_
  refine g_iconst (v := 2) dX0_go_34 (by decide) ?_
  refine g_icmp_ge (tgt := 103) dX0_go_35 (by decide) (fun c11 => ?_) (fun c11 => ?_)
  · exact g_vret rfl dX0_go_103
  · refine g_iconst (v := 0) dX0_go_38 (by decide) ?_
    refine g_istore (lv' := [(4, .int 0), (0, .ref l0), (1, .int l1), (2, .int l2), (3, .int l3)]) dX0_go_39 (by decide) rfl ?_
    refine G_lv [1, 2, 3, 4, 0] rfl ?_
    exact T_X0_go_41 F hd1 hdR hR hK33 F l0 l1 l2 l3 0 h
set_option maxRecDepth 100000 in
noncomputable def f_X0_go_33 (F : Nat) (Rc : Nat → Nat → Int32 → Int32 → Hp → Option (Unit × Hp)) : Nat → Nat → Int32 → Int32 → Int32 → Hp → Option (Unit × Hp)
  | 0, _, _, _, _, _ => none
  | n + 1, l0, l1, l2, l3, h => f_X0_go_33_b F Rc (f_X0_go_33 F Rc n) l0 l1 l2 l3 h
set_option maxRecDepth 100000 in
set_option maxHeartbeats 4000000 in
theorem T_X0_go_33 (F : Nat) {d dR : Nat} (hd1 : 4 ≤ d) (hdR : dR + 1 ≤ d) {Rc : Nat → Nat → Int32 → Int32 → Hp → Option (Unit × Hp)} (hR : ∀ (w : Nat) (a0 : Nat) (a1 : Int32) (a2 : Int32) (h : Hp), GM rvV (I_grp_X0_go w) dR [.ref a0, .int a1, .int a2] h (Rc w a0 a1 a2 h)) : ∀ (n : Nat) (l0 : Nat) (l1 : Int32) (l2 : Int32) (l3 : Int32) (h : Hp), G rvV I_X0_go d 33 [(0, .ref l0), (1, .int l1), (2, .int l2), (3, .int l3)] [] h (f_X0_go_33 F Rc n l0 l1 l2 l3 h) := by
  intro n
  induction n with
  | zero => intros; exact G_none
  | succ n ih => intro l0 l1 l2 l3 h; exact T_X0_go_33_b F hd1 hdR hR ih l0 l1 l2 l3 h
set_option maxRecDepth 100000 in
noncomputable def f_X0_go_w (F : Nat) (Rc : Nat → Nat → Int32 → Int32 → Hp → Option (Unit × Hp)) (a0 : Nat) (a1 : Int32) (a2 : Int32) (h : Hp) : Option (Unit × Hp) :=
  if a2 ≤ 0 then (f_X0_go_14 F Rc a0 a1 h) else (gR 1 h a0 2 fun v8 => gI 3 h v8 0 fun v9 => if v9 = 0 then (f_X0_go_14 F Rc a0 a1 h) else (f_X0_go_33 F Rc F a0 a1 a2 0 h))
set_option maxRecDepth 100000 in
set_option maxHeartbeats 4000000 in
theorem T_X0_go_w (F : Nat) {d dR : Nat} (hd1 : 4 ≤ d) (hdR : dR + 1 ≤ d) {Rc : Nat → Nat → Int32 → Int32 → Hp → Option (Unit × Hp)} (hR : ∀ (w : Nat) (a0 : Nat) (a1 : Int32) (a2 : Int32) (h : Hp), GM rvV (I_grp_X0_go w) dR [.ref a0, .int a1, .int a2] h (Rc w a0 a1 a2 h)) (a0 : Nat) (a1 : Int32) (a2 : Int32) (h : Hp) : GM rvV I_X0_go d [.ref a0, .int a1, .int a2] h (f_X0_go_w F Rc a0 a1 a2 h) := by
  delta f_X0_go_w
  refine GM_of (lv := [(0, .ref a0), (1, .int a1), (2, .int a2)]) (by decide +kernel) (Nat.le_of_ble_eq_true rfl) rfl ?_
  refine g_iload_n 2 dX0_go_0 rfl ?_
  refine g_if_le (tgt := 14) dX0_go_1 (by decide) (fun c1 => ?_) (fun c1 => ?_)
  · refine G_lv [0, 1] rfl ?_
    exact T_X0_go_14 F hd1 hdR hR a0 a1 h
  · refine g_aload_n 0 dX0_go_4 rfl ?_
    refine g_getR fl_RX0_15 rfl dX0_go_5 (fun v8 => ?_)
    refine g_getI fl_RX0_45 rfl dX0_go_8 (fun v9 => ?_)
    refine g_if_ne (tgt := 31) dX0_go_11 (by decide) (fun c10 => ?_) (fun c10 => ?_)
    · refine G_lv [0, 1] rfl ?_
      exact T_X0_go_14 F hd1 hdR hR a0 a1 h
    · refine g_iconst (v := 0) dX0_go_31 (by decide) ?_
      refine g_istore_n (lv' := [(3, .int 0), (0, .ref a0), (1, .int a1), (2, .int a2)]) dX0_go_32 (by decide) rfl ?_
      refine G_lv [1, 2, 3, 0] rfl ?_
      exact T_X0_go_33 F hd1 hdR hR F a0 a1 a2 0 h
set_option maxRecDepth 100000 in
noncomputable def f_grp_X0_go (F : Nat) : Nat → Nat → Nat → Int32 → Int32 → Hp → Option (Unit × Hp)
  | 0, _, _, _, _, _ => none
  | D + 1, w, a0, a1, a2, h => f_X0_go_w F (f_grp_X0_go F D) a0 a1 a2 h
set_option maxRecDepth 100000 in
set_option maxHeartbeats 4000000 in
theorem T_grp_X0_go (F : Nat) : ∀ (D w : Nat) (a0 : Nat) (a1 : Int32) (a2 : Int32) (h : Hp), GM rvV (I_grp_X0_go w) (4 + D) [.ref a0, .int a1, .int a2] h (f_grp_X0_go F D w a0 a1 a2 h) := by
  intro D
  induction D with
  | zero => intros; exact fun x hx => by cases hx
  | succ D ih =>
    intro w a0 a1 a2 h
    show GM _ (I_grp_X0_go w) _ _ _ (f_X0_go_w F (f_grp_X0_go F D) a0 a1 a2 h)
    unfold I_grp_X0_go
    exact T_X0_go_w F (by omega) (by omega) ih a0 a1 a2 h
set_option maxRecDepth 100000 in
noncomputable def f_X0_go (F : Nat) (a0 : Nat) (a1 : Int32) (a2 : Int32) (h : Hp) : Option (Unit × Hp) := f_grp_X0_go F 16 0 a0 a1 a2 h
set_option maxRecDepth 100000 in
set_option maxHeartbeats 4000000 in
theorem T_X0_go (F : Nat) (a0 : Nat) (a1 : Int32) (a2 : Int32) (h : Hp) : GM rvV I_X0_go 20 [.ref a0, .int a1, .int a2] h (f_X0_go F a0 a1 a2 h) := T_grp_X0_go F 16 0 a0 a1 a2 h
set_option maxRecDepth 100000 in
noncomputable def f_X0_ask (F : Nat) (a0 : Nat) (a1 : Nat) (a2 : Nat) (a3 : Int32) (a4 : Int32) (h : Hp) : Option (Unit × Hp) :=
  pR 1 h a0 2 a1 fun h1 => gI 9 h1 a2 1 fun v2 => pI 1 h1 a0 3 v2 fun h3 => pI 1 h3 a0 4 a3 fun h4 => pI 1 h4 a0 0 0 fun h5 => gR 1 h5 a0 1 fun v6 => bd (f_J7_fill_53178 F v6 0 h5) fun v7 h8 => gI 9 h8 a2 0 fun v9 => cV 1 h8 a0 (f_X0_go F a0 v9 a4 h8) fun v10 h11 => some ((), h11)
set_option maxRecDepth 100000 in
set_option maxHeartbeats 4000000 in
theorem T_X0_ask (F : Nat) (a0 : Nat) (a1 : Nat) (a2 : Nat) (a3 : Int32) (a4 : Int32) (h : Hp) : GM rvV I_X0_ask 21 [.ref a0, .ref a1, .ref a2, .int a3, .int a4] h (f_X0_ask F a0 a1 a2 a3 a4 h) := by
  delta f_X0_ask
  refine GM_of (lv := [(0, .ref a0), (1, .ref a1), (2, .ref a2), (3, .int a3), (4, .int a4)]) (by decide +kernel) (Nat.le_of_ble_eq_true rfl) rfl ?_
  refine g_aload_n 0 dX0_ask_0 rfl ?_
  refine g_aload_n 1 dX0_ask_1 rfl ?_
  refine g_putR fl_RX0_15 rfl (Or.inl rfl) dX0_ask_2 (fun h1 => ?_)
  refine g_aload_n 0 dX0_ask_5 rfl ?_
  refine g_aload_n 2 dX0_ask_6 rfl ?_
  refine g_getI fl_RX0_19 rfl dX0_ask_7 (fun v2 => ?_)
  refine g_putI fl_RX0_25 (Or.inl rfl) dX0_ask_10 (fun h3 => ?_)
  refine g_aload_n 0 dX0_ask_13 rfl ?_
  refine g_iload_n 3 dX0_ask_14 rfl ?_
  refine g_putI fl_RX0_26 (Or.inl rfl) dX0_ask_15 (fun h4 => ?_)
  refine g_aload_n 0 dX0_ask_18 rfl ?_
  refine g_iconst (v := 0) dX0_ask_19 (by decide) ?_
  refine g_putI fl_RX0_29 (Or.inl rfl) dX0_ask_20 (fun h5 => ?_)
  refine g_aload_n 0 dX0_ask_23 rfl ?_
  refine g_getR fl_RX0_9 rfl dX0_ask_24 (fun v6 => ?_)
  refine g_iconst (v := 0) dX0_ask_27 (by decide) ?_
  refine g_callSv (J := I_J7_fill_53178) (As := [.ref v6, .int 0]) (rest := []) mjs_J7_fill_53178 ml_RX0_32 (by decide) rfl rfl (Nat.le_of_ble_eq_true rfl) dX0_ask_28 (T_J7_fill_53178 F v6 0 h5) (fun v7 h8 => ?_)
  refine g_aload_n 0 dX0_ask_31 rfl ?_
  refine g_aload_n 2 dX0_ask_32 rfl ?_
  refine g_getI fl_RX0_38 rfl dX0_ask_33 (fun v9 => ?_)
  refine g_iload 4 dX0_ask_36 rfl ?_
  refine g_callVv (J := I_X0_go) (t := 1) (As := [.int v9, .int a4]) (rest := []) mjv_X0_go ml_RX0_41 ⟨rfl, by decide, by decide⟩ (by decide) rfl rfl (Nat.le_of_ble_eq_true rfl) dX0_ask_38 (T_X0_go F a0 v9 a4 h8) (fun v10 h11 => ?_)
  exact g_vret rfl dX0_ask_41
set_option maxRecDepth 100000 in
noncomputable def f_X0_hitsOf (F : Nat) (a0 : Nat) (a1 : Int32) (h : Hp) : Option (Int32 × Hp) :=
  if a1 < 0 then (some (0, h)) else (gR 1 h a0 1 fun v2 => al 20 h v2 fun v3 => if v3 ≤ a1 then (some (0, h)) else (gR 1 h a0 1 fun v5 => aI 20 h v5 a1 fun v6 => some (v6, h)))
set_option maxRecDepth 100000 in
set_option maxHeartbeats 4000000 in
theorem T_X0_hitsOf (F : Nat) (a0 : Nat) (a1 : Int32) (h : Hp) : GM rvI I_X0_hitsOf 1 [.ref a0, .int a1] h (f_X0_hitsOf F a0 a1 h) := by
  delta f_X0_hitsOf
  refine GM_of (lv := [(0, .ref a0), (1, .int a1)]) (by decide +kernel) (Nat.le_of_ble_eq_true rfl) rfl ?_
  refine g_iload_n 1 dX0_hitsOf_0 rfl ?_
  refine g_if_lt (tgt := 22) dX0_hitsOf_1 (by decide) (fun c1 => ?_) (fun c1 => ?_)
  · refine g_iconst (v := 0) dX0_hitsOf_22 (by decide) ?_
    exact g_iret rfl dX0_hitsOf_23
  · refine g_iload_n 1 dX0_hitsOf_4 rfl ?_
    refine g_aload_n 0 dX0_hitsOf_5 rfl ?_
    refine g_getR fl_RX0_9 rfl dX0_hitsOf_6 (fun v2 => ?_)
    refine g_alen (by decide) (by decide) dX0_hitsOf_9 (fun v3 => ?_)
    refine g_icmp_ge (tgt := 22) dX0_hitsOf_10 (by decide) (fun c4 => ?_) (fun c4 => ?_)
    · refine g_iconst (v := 0) dX0_hitsOf_22 (by decide) ?_
      exact g_iret rfl dX0_hitsOf_23
    · refine g_aload_n 0 dX0_hitsOf_13 rfl ?_
      refine g_getR fl_RX0_9 rfl dX0_hitsOf_14 (fun v5 => ?_)
      refine g_iload_n 1 dX0_hitsOf_17 rfl ?_
      refine g_iald dX0_hitsOf_18 (fun v6 => ?_)
      refine g_goto (tgt := 23) dX0_hitsOf_19 (by decide) ?_
      exact g_iret rfl dX0_hitsOf_23
set_option maxRecDepth 100000 in
noncomputable def f_X11_greatestDivisor_7_b (F : Nat) (K7 : Int32 → Int32 → Int32 → Hp → Option (Int32 × Hp)) (l2 : Int32) (l3 : Int32) (l4 : Int32) (h : Hp) : Option (Int32 × Hp) :=
  if 100 ≤ l4 then (some (l2, h)) else (if l3 = 0 then (some (l2, h)) else (gd (¬ l3 = 0) <| lt (l2 - l2 / l3 * l3) fun x4 => K7 l3 x4 (l4 + 1) h))
set_option maxRecDepth 100000 in
set_option maxHeartbeats 4000000 in
theorem T_X11_greatestDivisor_7_b (F : Nat) {K7 : Int32 → Int32 → Int32 → Hp → Option (Int32 × Hp)} (hK7 : ∀ (l2 : Int32) (l3 : Int32) (l4 : Int32) (h : Hp), G rvI I_X11_greatestDivisor 1 7 [(2, .int l2), (3, .int l3), (4, .int l4)] [] h (K7 l2 l3 l4 h)) (l2 : Int32) (l3 : Int32) (l4 : Int32) (h : Hp) : G rvI I_X11_greatestDivisor 1 7 [(2, .int l2), (3, .int l3), (4, .int l4)] [] h (f_X11_greatestDivisor_7_b F K7 l2 l3 l4 h) := by
  delta f_X11_greatestDivisor_7_b
  refine g_iload 2 dX11_greatestDivisor_7 rfl ?_
  refine g_bipush (v := 100) dX11_greatestDivisor_9 (by decide) ?_
  refine g_icmp_ge (tgt := 34) dX11_greatestDivisor_11 (by decide) (fun c1 => ?_) (fun c1 => ?_)
  · refine g_iload_n 0 dX11_greatestDivisor_34 rfl ?_
    exact g_iret rfl dX11_greatestDivisor_35
  · refine g_iload_n 1 dX11_greatestDivisor_14 rfl ?_
    refine g_if_eq (tgt := 34) dX11_greatestDivisor_15 (by decide) (fun c2 => ?_) (fun c2 => ?_)
    · refine g_iload_n 0 dX11_greatestDivisor_34 rfl ?_
      exact g_iret rfl dX11_greatestDivisor_35
    · refine g_iload_n 0 dX11_greatestDivisor_18 rfl ?_
      refine g_iload_n 1 dX11_greatestDivisor_19 rfl ?_
      refine G_gd (fun z3 => ?_)
      refine g_irem z3 dX11_greatestDivisor_20 ?_
      refine G_lti (fun x4 => ?_)
      refine g_istore (lv' := [(5, .int x4), (2, .int l2), (3, .int l3), (4, .int l4)]) dX11_greatestDivisor_21 (by decide) rfl ?_
      refine g_iload_n 2 dX11_greatestDivisor_23 rfl ?_
      refine g_istore_n (lv' := [(2, .int l3), (5, .int x4), (3, .int l3), (4, .int l4)]) dX11_greatestDivisor_24 (by decide) rfl ?_
      refine g_iload 1 dX11_greatestDivisor_25 rfl ?_
      refine g_istore_n (lv' := [(3, .int x4), (2, .int l3), (5, .int x4), (4, .int l4)]) dX11_greatestDivisor_27 (by decide) rfl ?_
      refine g_iinc (v' := l4 + 1) (lv' := [(4, .int (l4 + 1)), (3, .int x4), (2, .int l3), (5, .int x4)]) 3 dX11_greatestDivisor_28 rfl rfl (by decide) rfl ?_
      refine g_goto (tgt := 7) dX11_greatestDivisor_31 (by decide) ?_
      refine G_lv [2, 1, 0] rfl ?_
      exact hK7 l3 x4 (l4 + 1) h
set_option maxRecDepth 100000 in
noncomputable def f_X11_greatestDivisor_7 (F : Nat) : Nat → Int32 → Int32 → Int32 → Hp → Option (Int32 × Hp)
  | 0, _, _, _, _ => none
  | n + 1, l2, l3, l4, h => f_X11_greatestDivisor_7_b F (f_X11_greatestDivisor_7 F n) l2 l3 l4 h
set_option maxRecDepth 100000 in
set_option maxHeartbeats 4000000 in
theorem T_X11_greatestDivisor_7 (F : Nat) : ∀ (n : Nat) (l2 : Int32) (l3 : Int32) (l4 : Int32) (h : Hp), G rvI I_X11_greatestDivisor 1 7 [(2, .int l2), (3, .int l3), (4, .int l4)] [] h (f_X11_greatestDivisor_7 F n l2 l3 l4 h) := by
  intro n
  induction n with
  | zero => intros; exact G_none
  | succ n ih => intro l2 l3 l4 h; exact T_X11_greatestDivisor_7_b F ih l2 l3 l4 h
set_option maxRecDepth 100000 in
noncomputable def f_X11_greatestDivisor (F : Nat) (a0 : Int32) (a1 : Int32) (h : Hp) : Option (Int32 × Hp) :=
  f_X11_greatestDivisor_7 F F a0 a1 0 h
set_option maxRecDepth 100000 in
set_option maxHeartbeats 4000000 in
theorem T_X11_greatestDivisor (F : Nat) (a0 : Int32) (a1 : Int32) (h : Hp) : GM rvI I_X11_greatestDivisor 1 [.int a0, .int a1] h (f_X11_greatestDivisor F a0 a1 h) := by
  delta f_X11_greatestDivisor
  refine GM_of (lv := [(0, .int a0), (1, .int a1)]) (by decide +kernel) (Nat.le_of_ble_eq_true rfl) rfl ?_
  refine g_iload_n 0 dX11_greatestDivisor_0 rfl ?_
  refine g_istore_n (lv' := [(2, .int a0), (0, .int a0), (1, .int a1)]) dX11_greatestDivisor_1 (by decide) rfl ?_
  refine g_iload_n 2 dX11_greatestDivisor_2 rfl ?_
  refine g_istore_n (lv' := [(3, .int a1), (2, .int a0), (0, .int a0), (1, .int a1)]) dX11_greatestDivisor_3 (by decide) rfl ?_
  refine g_iconst (v := 0) dX11_greatestDivisor_4 (by decide) ?_
  refine g_istore (lv' := [(4, .int 0), (3, .int a1), (2, .int a0), (0, .int a0), (1, .int a1)]) dX11_greatestDivisor_5 (by decide) rfl ?_
  refine G_lv [2, 1, 0] rfl ?_
  exact T_X11_greatestDivisor_7 F F a0 a1 0 h
set_option maxRecDepth 100000 in
noncomputable def f_X11_chance (F : Nat) (a0 : Nat) (a1 : Int32) (a2 : Int32) (a3 : Int32) (a4 : Int32) (h : Hp) : Option (Int32 × Hp) :=
  cV 12 h a0 (f_X11_noTwin F a0 a1 h) fun v1 h2 => if v1 = 0 then (cV 12 h2 a0 (f_X11_noDoing F a0 a2 h2) fun v4 h5 => if v4 = 0 then (if a4 < 0 then (some ((-2), h5)) else (if a4 ≤ 1 then (if a3 < 0 then (some ((-3), h5)) else (if a3 ≤ 4 then (gR 12 h5 a0 15 fun v11 => gR 12 h5 a0 3 fun v12 => gR 12 h5 a0 5 fun v13 => cV 1 h5 v11 (f_X0_ask F v11 v12 v13 a1 a3 h5) fun v14 h15 => gR 12 h15 a0 15 fun v16 => cV 1 h15 v16 (f_X0_hitsOf F v16 a2 h15) fun v17 h18 => gR 12 h18 a0 15 fun v19 => gI 1 h18 v19 0 fun v20 => bd (f_X11_greatestDivisor F v17 v20 h18) fun v21 h22 => if v21 = 0 then (some ((-1), h22)) else (if a4 = 0 then (gR 12 h22 a0 15 fun v25 => cV 1 h22 v25 (f_X0_hitsOf F v25 a2 h22) fun v26 h27 => gd (¬ v21 = 0) <| some ((v26 / v21), h27)) else (gR 12 h22 a0 15 fun v29 => gI 1 h22 v29 0 fun v30 => gd (¬ v21 = 0) <| some ((v30 / v21), h22)))) else (some ((-3), h5)))) else (some ((-2), h5)))) else (some ((-2), h5))) else (some ((-2), h2))
set_option maxRecDepth 100000 in
set_option maxHeartbeats 4000000 in
theorem T_X11_chance (F : Nat) (a0 : Nat) (a1 : Int32) (a2 : Int32) (a3 : Int32) (a4 : Int32) (h : Hp) : GM rvI I_X11_chance 22 [.ref a0, .int a1, .int a2, .int a3, .int a4] h (f_X11_chance F a0 a1 a2 a3 a4 h) := by
  delta f_X11_chance
  refine GM_of (lv := [(0, .ref a0), (1, .int a1), (2, .int a2), (3, .int a3), (4, .int a4)]) (by decide +kernel) (Nat.le_of_ble_eq_true rfl) rfl ?_
  refine g_aload_n 0 dX11_chance_0 rfl ?_
  refine g_iload_n 1 dX11_chance_1 rfl ?_
  refine g_callVi (J := I_X11_noTwin) (t := 12) (As := [.int a1]) (rest := []) mjv_X11_noTwin ml_RX11_149 ⟨rfl, by decide, by decide⟩ (by decide) rfl rfl (Nat.le_of_ble_eq_true rfl) dX11_chance_2 (T_X11_noTwin F a0 a1 h) (fun v1 h2 => ?_)
  refine g_if_ne (tgt := 27) dX11_chance_5 (by decide) (fun c3 => ?_) (fun c3 => ?_)
  · refine g_aload_n 0 dX11_chance_8 rfl ?_
    refine g_iload_n 2 dX11_chance_9 rfl ?_
    refine g_callVi (J := I_X11_noDoing) (t := 12) (As := [.int a2]) (rest := []) mjv_X11_noDoing ml_RX11_160 ⟨rfl, by decide, by decide⟩ (by decide) rfl rfl (Nat.le_of_ble_eq_true rfl) dX11_chance_10 (T_X11_noDoing F a0 a2 h2) (fun v4 h5 => ?_)
    refine g_if_ne (tgt := 27) dX11_chance_13 (by decide) (fun c6 => ?_) (fun c6 => ?_)
    · refine g_iload 4 dX11_chance_16 rfl ?_
      refine g_if_lt (tgt := 27) dX11_chance_18 (by decide) (fun c7 => ?_) (fun c7 => ?_)
      · refine g_bipush (v := (-2)) dX11_chance_27 (by decide) ?_
        exact g_iret rfl dX11_chance_29
      · refine g_iload 4 dX11_chance_21 rfl ?_
        refine g_iconst (v := 1) dX11_chance_23 (by decide) ?_
        refine g_icmp_le (tgt := 30) dX11_chance_24 (by decide) (fun c8 => ?_) (fun c8 => ?_)
        · refine g_iload_n 3 dX11_chance_30 rfl ?_
          refine g_if_lt (tgt := 39) dX11_chance_31 (by decide) (fun c9 => ?_) (fun c9 => ?_)
          · refine g_bipush (v := (-3)) dX11_chance_39 (by decide) ?_
            exact g_iret rfl dX11_chance_41
          · refine g_iload_n 3 dX11_chance_34 rfl ?_
            refine g_iconst (v := 4) dX11_chance_35 (by decide) ?_
            refine g_icmp_le (tgt := 42) dX11_chance_36 (by decide) (fun c10 => ?_) (fun c10 => ?_)
            · refine g_aload_n 0 dX11_chance_42 rfl ?_
              refine g_getR fl_RX11_90 rfl dX11_chance_43 (fun v11 => ?_)
              refine g_aload_n 0 dX11_chance_46 rfl ?_
              refine g_getR fl_RX11_20 rfl dX11_chance_47 (fun v12 => ?_)
              refine g_aload_n 0 dX11_chance_50 rfl ?_
              refine g_getR fl_RX11_36 rfl dX11_chance_51 (fun v13 => ?_)
              refine g_iload_n 1 dX11_chance_54 rfl ?_
              refine g_iload_n 3 dX11_chance_55 rfl ?_
              refine g_callVv (J := I_X0_ask) (t := 1) (As := [.ref v12, .ref v13, .int a1, .int a3]) (rest := []) mjv_X0_ask ml_RX11_358 ⟨rfl, by decide, by decide⟩ (by decide) rfl rfl (Nat.le_of_ble_eq_true rfl) dX11_chance_56 (T_X0_ask F v11 v12 v13 a1 a3 h5) (fun v14 h15 => ?_)
              refine g_aload_n 0 dX11_chance_59 rfl ?_
              refine g_getR fl_RX11_90 rfl dX11_chance_60 (fun v16 => ?_)
              refine g_iload_n 2 dX11_chance_63 rfl ?_
              refine g_callVi (J := I_X0_hitsOf) (t := 1) (As := [.int a2]) (rest := []) mjv_X0_hitsOf ml_RX11_360 ⟨rfl, by decide, by decide⟩ (by decide) rfl rfl (Nat.le_of_ble_eq_true rfl) dX11_chance_64 (T_X0_hitsOf F v16 a2 h15) (fun v17 h18 => ?_)
              refine g_aload_n 0 dX11_chance_67 rfl ?_
              refine g_getR fl_RX11_90 rfl dX11_chance_68 (fun v19 => ?_)
              refine g_getI fl_RX11_363 rfl dX11_chance_71 (fun v20 => ?_)
              refine g_callSi (J := I_X11_greatestDivisor) (As := [.int v17, .int v20]) (rest := []) mjs_X11_greatestDivisor ml_RX11_366 (by decide) rfl rfl (Nat.le_of_ble_eq_true rfl) dX11_chance_74 (T_X11_greatestDivisor F v17 v20 h18) (fun v21 h22 => ?_)
              refine g_istore (lv' := [(5, .int v21), (0, .ref a0), (1, .int a1), (2, .int a2), (3, .int a3), (4, .int a4)]) dX11_chance_77 (by decide) rfl ?_
              refine g_iload 0 dX11_chance_79 rfl ?_
              refine g_if_ne (tgt := 86) dX11_chance_81 (by decide) (fun c23 => ?_) (fun c23 => ?_)
              · refine g_iconst (v := (-1)) dX11_chance_84 (by decide) ?_
                exact g_iret rfl dX11_chance_85
              · refine g_iload 5 dX11_chance_86 rfl ?_
                refine g_if_ne (tgt := 102) dX11_chance_88 (by decide) (fun c24 => ?_) (fun c24 => ?_)
                · refine g_aload_n 1 dX11_chance_91 rfl ?_
                  refine g_getR fl_RX11_90 rfl dX11_chance_92 (fun v25 => ?_)
                  refine g_iload_n 3 dX11_chance_95 rfl ?_
                  refine g_callVi (J := I_X0_hitsOf) (t := 1) (As := [.int a2]) (rest := []) mjv_X0_hitsOf ml_RX11_360 ⟨rfl, by decide, by decide⟩ (by decide) rfl rfl (Nat.le_of_ble_eq_true rfl) dX11_chance_96 (T_X0_hitsOf F v25 a2 h22) (fun v26 h27 => ?_)
                  refine g_goto (tgt := 109) dX11_chance_99 (by decide) ?_
                  refine g_iload 0 dX11_chance_109 rfl ?_
                  refine G_gd (fun z28 => ?_)
                  refine g_idiv z28 dX11_chance_111 ?_
                  exact g_iret rfl dX11_chance_112
                · refine g_aload_n 1 dX11_chance_102 rfl ?_
                  refine g_getR fl_RX11_90 rfl dX11_chance_103 (fun v29 => ?_)
                  refine g_getI fl_RX11_363 rfl dX11_chance_106 (fun v30 => ?_)
                  refine g_iload 0 dX11_chance_109 rfl ?_
                  refine G_gd (fun z31 => ?_)
                  refine g_idiv z31 dX11_chance_111 ?_
                  exact g_iret rfl dX11_chance_112
            · refine g_bipush (v := (-3)) dX11_chance_39 (by decide) ?_
              exact g_iret rfl dX11_chance_41
        · refine g_bipush (v := (-2)) dX11_chance_27 (by decide) ?_
          exact g_iret rfl dX11_chance_29
    · refine g_bipush (v := (-2)) dX11_chance_27 (by decide) ?_
      exact g_iret rfl dX11_chance_29
  · refine g_bipush (v := (-2)) dX11_chance_27 (by decide) ?_
    exact g_iret rfl dX11_chance_29
set_option maxRecDepth 100000 in
noncomputable def f_J6_bitCount_0f7a4 (F : Nat) (a0 : Int32) (h : Hp) : Option (Int32 × Hp) :=
  lt (a0 - ((ju a0 1) &&& 1431655765)) fun x1 => lt ((x1 &&& 858993459) + ((ju x1 2) &&& 858993459)) fun x2 => lt ((x2 + (ju x2 4)) &&& 252645135) fun x3 => lt (x3 + (ju x3 8)) fun x4 => lt (x4 + (ju x4 16)) fun x5 => some ((x5 &&& 63), h)
set_option maxRecDepth 100000 in
set_option maxHeartbeats 4000000 in
theorem T_J6_bitCount_0f7a4 (F : Nat) (a0 : Int32) (h : Hp) : GM rvI I_J6_bitCount_0f7a4 1 [.int a0] h (f_J6_bitCount_0f7a4 F a0 h) := by
  delta f_J6_bitCount_0f7a4
  refine GM_of (lv := [(0, .int a0)]) (by decide +kernel) (Nat.le_of_ble_eq_true rfl) rfl ?_
  refine g_iload_n 0 dJ6_bitCount_0f7a4_0 rfl ?_
  refine g_iload_n 0 dJ6_bitCount_0f7a4_1 rfl ?_
  refine g_iconst (v := 1) dJ6_bitCount_0f7a4_2 (by decide) ?_
  refine g_iushr dJ6_bitCount_0f7a4_3 ?_
  refine g_ldcw (v := 1431655765) dJ6_bitCount_0f7a4_4 co_RJ6_265 ?_
  refine g_iand dJ6_bitCount_0f7a4_7 ?_
  refine g_isub dJ6_bitCount_0f7a4_8 ?_
  refine G_lti (fun x1 => ?_)
  refine g_istore_n (lv' := [(0, .int x1)]) dJ6_bitCount_0f7a4_9 (by decide) rfl ?_
  refine g_iload_n 0 dJ6_bitCount_0f7a4_10 rfl ?_
  refine g_ldcw (v := 858993459) dJ6_bitCount_0f7a4_11 co_RJ6_266 ?_
  refine g_iand dJ6_bitCount_0f7a4_14 ?_
  refine g_iload_n 0 dJ6_bitCount_0f7a4_15 rfl ?_
  refine g_iconst (v := 2) dJ6_bitCount_0f7a4_16 (by decide) ?_
  refine g_iushr dJ6_bitCount_0f7a4_17 ?_
  refine g_ldcw (v := 858993459) dJ6_bitCount_0f7a4_18 co_RJ6_266 ?_
  refine g_iand dJ6_bitCount_0f7a4_21 ?_
  refine g_iadd dJ6_bitCount_0f7a4_22 ?_
  refine G_lti (fun x2 => ?_)
  refine g_istore_n (lv' := [(0, .int x2)]) dJ6_bitCount_0f7a4_23 (by decide) rfl ?_
  refine g_iload_n 0 dJ6_bitCount_0f7a4_24 rfl ?_
  refine g_iload_n 0 dJ6_bitCount_0f7a4_25 rfl ?_
  refine g_iconst (v := 4) dJ6_bitCount_0f7a4_26 (by decide) ?_
  refine g_iushr dJ6_bitCount_0f7a4_27 ?_
  refine g_iadd dJ6_bitCount_0f7a4_28 ?_
  refine g_ldcw (v := 252645135) dJ6_bitCount_0f7a4_29 co_RJ6_267 ?_
  refine g_iand dJ6_bitCount_0f7a4_32 ?_
  refine G_lti (fun x3 => ?_)
  refine g_istore_n (lv' := [(0, .int x3)]) dJ6_bitCount_0f7a4_33 (by decide) rfl ?_
  refine g_iload_n 0 dJ6_bitCount_0f7a4_34 rfl ?_
  refine g_iload_n 0 dJ6_bitCount_0f7a4_35 rfl ?_
  refine g_bipush (v := 8) dJ6_bitCount_0f7a4_36 (by decide) ?_
  refine g_iushr dJ6_bitCount_0f7a4_38 ?_
  refine g_iadd dJ6_bitCount_0f7a4_39 ?_
  refine G_lti (fun x4 => ?_)
  refine g_istore_n (lv' := [(0, .int x4)]) dJ6_bitCount_0f7a4_40 (by decide) rfl ?_
  refine g_iload_n 0 dJ6_bitCount_0f7a4_41 rfl ?_
  refine g_iload_n 0 dJ6_bitCount_0f7a4_42 rfl ?_
  refine g_bipush (v := 16) dJ6_bitCount_0f7a4_43 (by decide) ?_
  refine g_iushr dJ6_bitCount_0f7a4_45 ?_
  refine g_iadd dJ6_bitCount_0f7a4_46 ?_
  refine G_lti (fun x5 => ?_)
  refine g_istore_n (lv' := [(0, .int x5)]) dJ6_bitCount_0f7a4_47 (by decide) rfl ?_
  refine g_iload_n 0 dJ6_bitCount_0f7a4_48 rfl ?_
  refine g_bipush (v := 63) dJ6_bitCount_0f7a4_49 (by decide) ?_
  refine g_iand dJ6_bitCount_0f7a4_51 ?_
  exact g_iret rfl dJ6_bitCount_0f7a4_52
set_option maxRecDepth 100000 in
noncomputable def f_X2_doneByBoth (F : Nat) (a0 : Nat) (a1 : Int32) (h : Hp) : Option (Int32 × Hp) :=
  cV 3 h a0 (f_X2_doneBy F a0 a1 0 h) fun v1 h2 => bd (f_J6_bitCount_0f7a4 F v1 h2) fun v3 h4 => cV 3 h4 a0 (f_X2_doneBy F a0 a1 1 h4) fun v5 h6 => bd (f_J6_bitCount_0f7a4 F v5 h6) fun v7 h8 => some ((v3 + v7), h8)
set_option maxRecDepth 100000 in
set_option maxHeartbeats 4000000 in
theorem T_X2_doneByBoth (F : Nat) (a0 : Nat) (a1 : Int32) (h : Hp) : GM rvI I_X2_doneByBoth 2 [.ref a0, .int a1] h (f_X2_doneByBoth F a0 a1 h) := by
  delta f_X2_doneByBoth
  refine GM_of (lv := [(0, .ref a0), (1, .int a1)]) (by decide +kernel) (Nat.le_of_ble_eq_true rfl) rfl ?_
  refine g_aload_n 0 dX2_doneByBoth_0 rfl ?_
  refine g_iload_n 1 dX2_doneByBoth_1 rfl ?_
  refine g_iconst (v := 0) dX2_doneByBoth_2 (by decide) ?_
  refine g_callVi (J := I_X2_doneBy) (t := 3) (As := [.int a1, .int 0]) (rest := []) mjv_X2_doneBy ml_RX2_75 ⟨rfl, by decide, by decide⟩ (by decide) rfl rfl (Nat.le_of_ble_eq_true rfl) dX2_doneByBoth_3 (T_X2_doneBy F a0 a1 0 h) (fun v1 h2 => ?_)
  refine g_callSi (J := I_J6_bitCount_0f7a4) (As := [.int v1]) (rest := []) mjs_J6_bitCount_0f7a4 ml_RX2_78 (by decide) rfl rfl (Nat.le_of_ble_eq_true rfl) dX2_doneByBoth_6 (T_J6_bitCount_0f7a4 F v1 h2) (fun v3 h4 => ?_)
  refine g_aload_n 0 dX2_doneByBoth_9 rfl ?_
  refine g_iload_n 1 dX2_doneByBoth_10 rfl ?_
  refine g_iconst (v := 1) dX2_doneByBoth_11 (by decide) ?_
  refine g_callVi (J := I_X2_doneBy) (t := 3) (As := [.int a1, .int 1]) (rest := [.int v3]) mjv_X2_doneBy ml_RX2_75 ⟨rfl, by decide, by decide⟩ (by decide) rfl rfl (Nat.le_of_ble_eq_true rfl) dX2_doneByBoth_12 (T_X2_doneBy F a0 a1 1 h4) (fun v5 h6 => ?_)
  refine g_callSi (J := I_J6_bitCount_0f7a4) (As := [.int v5]) (rest := [.int v3]) mjs_J6_bitCount_0f7a4 ml_RX2_78 (by decide) rfl rfl (Nat.le_of_ble_eq_true rfl) dX2_doneByBoth_15 (T_J6_bitCount_0f7a4 F v5 h6) (fun v7 h8 => ?_)
  refine g_iadd dX2_doneByBoth_18 ?_
  exact g_iret rfl dX2_doneByBoth_19
set_option maxRecDepth 100000 in
noncomputable def f_X11_count (F : Nat) (a0 : Nat) (a1 : Int32) (h : Hp) : Option (Int32 × Hp) :=
  if a1 = 0 then (gR 12 h a0 3 fun v2 => gI 3 h v2 0 fun v3 => some (v3, h)) else (if a1 = 1 then (gR 12 h a0 3 fun v5 => gI 3 h v5 1 fun v6 => some (v6, h)) else (if a1 = 2 then (gR 12 h a0 5 fun v8 => gI 9 h v8 0 fun v9 => bd (f_X2_knownTo F v9 0 h) fun v10 h11 => some (v10, h11)) else (if a1 = 3 then (gR 12 h a0 5 fun v13 => gI 9 h v13 0 fun v14 => bd (f_X2_knownTo F v14 1 h) fun v15 h16 => some (v15, h16)) else (if a1 = 4 then (gR 12 h a0 5 fun v18 => gI 9 h v18 1 fun v19 => some (v19, h)) else (if a1 = 5 then (gR 12 h a0 3 fun v21 => gR 12 h a0 5 fun v22 => gI 9 h v22 0 fun v23 => cV 3 h v21 (f_X2_doneByBoth F v21 v23 h) fun v24 h25 => some (v24, h25)) else (if a1 = 6 then (gR 12 h a0 7 fun v27 => gI 5 h v27 0 fun v28 => some (v28, h)) else (if a1 = 7 then (gI 12 h a0 1 fun v30 => some (v30, h)) else (if a1 = 8 then (gR 12 h a0 3 fun v32 => gI 3 h v32 2 fun v33 => some (v33, h)) else (some ((-1), h))))))))))
set_option maxRecDepth 100000 in
set_option maxHeartbeats 4000000 in
theorem T_X11_count (F : Nat) (a0 : Nat) (a1 : Int32) (h : Hp) : GM rvI I_X11_count 3 [.ref a0, .int a1] h (f_X11_count F a0 a1 h) := by
  delta f_X11_count
  refine GM_of (lv := [(0, .ref a0), (1, .int a1)]) (by decide +kernel) (Nat.le_of_ble_eq_true rfl) rfl ?_
  refine g_iload_n 1 dX11_count_0 rfl ?_
  refine G_ite (fun c1 => ?_) (fun c1 => ?_)
  · refine g_tin 0 (51) dX11_count_1 c1 (by decide) (by decide) (by decide) (by decide) (tgt := 52) ?_
    refine g_aload_n 0 dX11_count_52 rfl ?_
    refine g_getR fl_RX11_20 rfl dX11_count_53 (fun v2 => ?_)
    refine g_getI fl_RX11_181 rfl dX11_count_56 (fun v3 => ?_)
    exact g_iret rfl dX11_count_59
  · refine G_ite (fun c4 => ?_) (fun c4 => ?_)
    · refine g_tin 1 (59) dX11_count_1 c4 (by decide) (by decide) (by decide) (by decide) (tgt := 60) ?_
      refine g_aload_n 0 dX11_count_60 rfl ?_
      refine g_getR fl_RX11_20 rfl dX11_count_61 (fun v5 => ?_)
      refine g_getI fl_RX11_184 rfl dX11_count_64 (fun v6 => ?_)
      exact g_iret rfl dX11_count_67
    · refine G_ite (fun c7 => ?_) (fun c7 => ?_)
      · refine g_tin 2 (67) dX11_count_1 c7 (by decide) (by decide) (by decide) (by decide) (tgt := 68) ?_
        refine g_aload_n 0 dX11_count_68 rfl ?_
        refine g_getR fl_RX11_36 rfl dX11_count_69 (fun v8 => ?_)
        refine g_getI fl_RX11_127 rfl dX11_count_72 (fun v9 => ?_)
        refine g_iconst (v := 0) dX11_count_75 (by decide) ?_
        refine g_callSi (J := I_X2_knownTo) (As := [.int v9, .int 0]) (rest := []) mjs_X2_knownTo ml_RX11_389 (by decide) rfl rfl (Nat.le_of_ble_eq_true rfl) dX11_count_76 (T_X2_knownTo F v9 0 h) (fun v10 h11 => ?_)
        exact g_iret rfl dX11_count_79
      · refine G_ite (fun c12 => ?_) (fun c12 => ?_)
        · refine g_tin 3 (79) dX11_count_1 c12 (by decide) (by decide) (by decide) (by decide) (tgt := 80) ?_
          refine g_aload_n 0 dX11_count_80 rfl ?_
          refine g_getR fl_RX11_36 rfl dX11_count_81 (fun v13 => ?_)
          refine g_getI fl_RX11_127 rfl dX11_count_84 (fun v14 => ?_)
          refine g_iconst (v := 1) dX11_count_87 (by decide) ?_
          refine g_callSi (J := I_X2_knownTo) (As := [.int v14, .int 1]) (rest := []) mjs_X2_knownTo ml_RX11_389 (by decide) rfl rfl (Nat.le_of_ble_eq_true rfl) dX11_count_88 (T_X2_knownTo F v14 1 h) (fun v15 h16 => ?_)
          exact g_iret rfl dX11_count_91
        · refine G_ite (fun c17 => ?_) (fun c17 => ?_)
          · refine g_tin 4 (91) dX11_count_1 c17 (by decide) (by decide) (by decide) (by decide) (tgt := 92) ?_
            refine g_aload_n 0 dX11_count_92 rfl ?_
            refine g_getR fl_RX11_36 rfl dX11_count_93 (fun v18 => ?_)
            refine g_getI fl_RX11_133 rfl dX11_count_96 (fun v19 => ?_)
            exact g_iret rfl dX11_count_99
          · refine G_ite (fun c20 => ?_) (fun c20 => ?_)
            · refine g_tin 5 (99) dX11_count_1 c20 (by decide) (by decide) (by decide) (by decide) (tgt := 100) ?_
              refine g_aload_n 0 dX11_count_100 rfl ?_
              refine g_getR fl_RX11_20 rfl dX11_count_101 (fun v21 => ?_)
              refine g_aload_n 0 dX11_count_104 rfl ?_
              refine g_getR fl_RX11_36 rfl dX11_count_105 (fun v22 => ?_)
              refine g_getI fl_RX11_127 rfl dX11_count_108 (fun v23 => ?_)
              refine g_callVi (J := I_X2_doneByBoth) (t := 3) (As := [.int v23]) (rest := []) mjv_X2_doneByBoth ml_RX11_201 ⟨rfl, by decide, by decide⟩ (by decide) rfl rfl (Nat.le_of_ble_eq_true rfl) dX11_count_111 (T_X2_doneByBoth F v21 v23 h) (fun v24 h25 => ?_)
              exact g_iret rfl dX11_count_114
            · refine G_ite (fun c26 => ?_) (fun c26 => ?_)
              · refine g_tin 6 (114) dX11_count_1 c26 (by decide) (by decide) (by decide) (by decide) (tgt := 115) ?_
                refine g_aload_n 0 dX11_count_115 rfl ?_
                refine g_getR fl_RX11_46 rfl dX11_count_116 (fun v27 => ?_)
                refine g_getI fl_RX11_213 rfl dX11_count_119 (fun v28 => ?_)
                exact g_iret rfl dX11_count_122
              · refine G_ite (fun c29 => ?_) (fun c29 => ?_)
                · refine g_tin 7 (122) dX11_count_1 c29 (by decide) (by decide) (by decide) (by decide) (tgt := 123) ?_
                  refine g_aload_n 0 dX11_count_123 rfl ?_
                  refine g_getI fl_RX11_102 rfl dX11_count_124 (fun v30 => ?_)
                  exact g_iret rfl dX11_count_127
                · refine G_ite (fun c31 => ?_) (fun c31 => ?_)
                  · refine g_tin 8 (127) dX11_count_1 c31 (by decide) (by decide) (by decide) (by decide) (tgt := 128) ?_
                    refine g_aload_n 0 dX11_count_128 rfl ?_
                    refine g_getR fl_RX11_20 rfl dX11_count_129 (fun v32 => ?_)
                    refine g_getI fl_RX11_139 rfl dX11_count_132 (fun v33 => ?_)
                    exact g_iret rfl dX11_count_135
                  · refine g_tout (tgt := 136) dX11_count_1 (by have z0 := lv_neT c1 (show (0 : Int32).toInt = 0 by decide); have z1 := lv_neT c4 (show (1 : Int32).toInt = 1 by decide); have z2 := lv_neT c7 (show (2 : Int32).toInt = 2 by decide); have z3 := lv_neT c12 (show (3 : Int32).toInt = 3 by decide); have z4 := lv_neT c17 (show (4 : Int32).toInt = 4 by decide); have z5 := lv_neT c20 (show (5 : Int32).toInt = 5 by decide); have z6 := lv_neT c26 (show (6 : Int32).toInt = 6 by decide); have z7 := lv_neT c29 (show (7 : Int32).toInt = 7 by decide); have z8 := lv_neT c31 (show (8 : Int32).toInt = 8 by decide); omega) (by decide) ?_
                    refine g_iconst (v := (-1)) dX11_count_136 (by decide) ?_
                    exact g_iret rfl dX11_count_137
