/-! L2, by program (wip/whole/gen/gen.py) -/
set_option maxRecDepth 100000 in
noncomputable def f_X11_noFact (F : Nat) (a0 : Nat) (a1 : Int32) (h : Hp) : Option (Int32 × Hp) :=
  if a1 < 0 then (some (1, h)) else (gR 12 h a0 3 fun v2 => gI 3 h v2 0 fun v3 => if a1 < v3 then (some (0, h)) else (some (1, h)))
set_option maxRecDepth 100000 in
set_option maxHeartbeats 4000000 in
theorem T_X11_noFact (F : Nat) (a0 : Nat) (a1 : Int32) (h : Hp) : GM rvI I_X11_noFact 1 [.ref a0, .int a1] h (f_X11_noFact F a0 a1 h) := by
  delta f_X11_noFact
  refine GM_of (lv := [(0, .ref a0), (1, .int a1)]) (by decide +kernel) (Nat.le_of_ble_eq_true rfl) rfl ?_
  refine g_iload_n 1 dX11_noFact_0 rfl ?_
  refine g_if_lt (tgt := 15) dX11_noFact_1 (by decide) (fun c1 => ?_) (fun c1 => ?_)
  · refine g_iconst (v := 1) dX11_noFact_15 (by decide) ?_
    refine g_goto (tgt := 20) dX11_noFact_16 (by decide) ?_
    exact g_zret (ty := .boolean) rfl rfl dX11_noFact_20
  · refine g_iload_n 1 dX11_noFact_4 rfl ?_
    refine g_aload_n 0 dX11_noFact_5 rfl ?_
    refine g_getR fl_RX11_20 rfl dX11_noFact_6 (fun v2 => ?_)
    refine g_getI fl_RX11_181 rfl dX11_noFact_9 (fun v3 => ?_)
    refine g_icmp_lt (tgt := 19) dX11_noFact_12 (by decide) (fun c4 => ?_) (fun c4 => ?_)
    · refine g_iconst (v := 0) dX11_noFact_19 (by decide) ?_
      exact g_zret (ty := .boolean) rfl rfl dX11_noFact_20
    · refine g_iconst (v := 1) dX11_noFact_15 (by decide) ?_
      refine g_goto (tgt := 20) dX11_noFact_16 (by decide) ?_
      exact g_zret (ty := .boolean) rfl rfl dX11_noFact_20
set_option maxRecDepth 100000 in
noncomputable def f_X11_noTwin (F : Nat) (a0 : Nat) (a1 : Int32) (h : Hp) : Option (Int32 × Hp) :=
  if a1 < 0 then (some (1, h)) else (if a1 < 2 then (some (0, h)) else (some (1, h)))
set_option maxRecDepth 100000 in
set_option maxHeartbeats 4000000 in
theorem T_X11_noTwin (F : Nat) (a0 : Nat) (a1 : Int32) (h : Hp) : GM rvI I_X11_noTwin 1 [.ref a0, .int a1] h (f_X11_noTwin F a0 a1 h) := by
  delta f_X11_noTwin
  refine GM_of (lv := [(0, .ref a0), (1, .int a1)]) (by decide +kernel) (Nat.le_of_ble_eq_true rfl) rfl ?_
  refine g_iload_n 1 dX11_noTwin_0 rfl ?_
  refine g_if_lt (tgt := 9) dX11_noTwin_1 (by decide) (fun c1 => ?_) (fun c1 => ?_)
  · refine g_iconst (v := 1) dX11_noTwin_9 (by decide) ?_
    refine g_goto (tgt := 14) dX11_noTwin_10 (by decide) ?_
    exact g_zret (ty := .boolean) rfl rfl dX11_noTwin_14
  · refine g_iload_n 1 dX11_noTwin_4 rfl ?_
    refine g_iconst (v := 2) dX11_noTwin_5 (by decide) ?_
    refine g_icmp_lt (tgt := 13) dX11_noTwin_6 (by decide) (fun c2 => ?_) (fun c2 => ?_)
    · refine g_iconst (v := 0) dX11_noTwin_13 (by decide) ?_
      exact g_zret (ty := .boolean) rfl rfl dX11_noTwin_14
    · refine g_iconst (v := 1) dX11_noTwin_9 (by decide) ?_
      refine g_goto (tgt := 14) dX11_noTwin_10 (by decide) ?_
      exact g_zret (ty := .boolean) rfl rfl dX11_noTwin_14
set_option maxRecDepth 100000 in
noncomputable def f_X2_ageIn (F : Nat) (a0 : Int32) (a1 : Int32) (a2 : Int32) (h : Hp) : Option (Int32 × Hp) :=
  some (((a0 >>> (((4 * a2) + (2 * a1)) &&& 31)) &&& 3), h)
set_option maxRecDepth 100000 in
set_option maxHeartbeats 4000000 in
theorem T_X2_ageIn (F : Nat) (a0 : Int32) (a1 : Int32) (a2 : Int32) (h : Hp) : GM rvI I_X2_ageIn 1 [.int a0, .int a1, .int a2] h (f_X2_ageIn F a0 a1 a2 h) := by
  delta f_X2_ageIn
  refine GM_of (lv := [(0, .int a0), (1, .int a1), (2, .int a2)]) (by decide +kernel) (Nat.le_of_ble_eq_true rfl) rfl ?_
  refine g_iload_n 0 dX2_ageIn_0 rfl ?_
  refine g_iconst (v := 4) dX2_ageIn_1 (by decide) ?_
  refine g_iload_n 2 dX2_ageIn_2 rfl ?_
  refine g_imul dX2_ageIn_3 ?_
  refine g_iconst (v := 2) dX2_ageIn_4 (by decide) ?_
  refine g_iload_n 1 dX2_ageIn_5 rfl ?_
  refine g_imul dX2_ageIn_6 ?_
  refine g_iadd dX2_ageIn_7 ?_
  refine g_ishr dX2_ageIn_8 ?_
  refine g_iconst (v := 3) dX2_ageIn_9 (by decide) ?_
  refine g_iand dX2_ageIn_10 ?_
  exact g_iret rfl dX2_ageIn_11
set_option maxRecDepth 100000 in
noncomputable def f_X11_age (F : Nat) (a0 : Nat) (a1 : Int32) (a2 : Int32) (h : Hp) : Option (Int32 × Hp) :=
  cV 12 h a0 (f_X11_noTwin F a0 a1 h) fun v1 h2 => if v1 = 0 then (cV 12 h2 a0 (f_X11_noFact F a0 a2 h2) fun v4 h5 => if v4 = 0 then (gR 12 h5 a0 5 fun v7 => gI 9 h5 v7 0 fun v8 => bd (f_X2_ageIn F v8 a1 a2 h5) fun v9 h10 => some (v9, h10)) else (some ((-2), h5))) else (some ((-2), h2))
set_option maxRecDepth 100000 in
set_option maxHeartbeats 4000000 in
theorem T_X11_age (F : Nat) (a0 : Nat) (a1 : Int32) (a2 : Int32) (h : Hp) : GM rvI I_X11_age 2 [.ref a0, .int a1, .int a2] h (f_X11_age F a0 a1 a2 h) := by
  delta f_X11_age
  refine GM_of (lv := [(0, .ref a0), (1, .int a1), (2, .int a2)]) (by decide +kernel) (Nat.le_of_ble_eq_true rfl) rfl ?_
  refine g_aload_n 0 dX11_age_0 rfl ?_
  refine g_iload_n 1 dX11_age_1 rfl ?_
  refine g_callVi (J := I_X11_noTwin) (t := 12) (As := [.int a1]) (rest := []) mjv_X11_noTwin ml_RX11_149 ⟨rfl, by decide, by decide⟩ (by decide) rfl rfl (Nat.le_of_ble_eq_true rfl) dX11_age_2 (T_X11_noTwin F a0 a1 h) (fun v1 h2 => ?_)
  refine g_if_ne (tgt := 16) dX11_age_5 (by decide) (fun c3 => ?_) (fun c3 => ?_)
  · refine g_aload_n 0 dX11_age_8 rfl ?_
    refine g_iload_n 2 dX11_age_9 rfl ?_
    refine g_callVi (J := I_X11_noFact) (t := 12) (As := [.int a2]) (rest := []) mjv_X11_noFact ml_RX11_153 ⟨rfl, by decide, by decide⟩ (by decide) rfl rfl (Nat.le_of_ble_eq_true rfl) dX11_age_10 (T_X11_noFact F a0 a2 h2) (fun v4 h5 => ?_)
    refine g_if_eq (tgt := 19) dX11_age_13 (by decide) (fun c6 => ?_) (fun c6 => ?_)
    · refine g_aload_n 0 dX11_age_19 rfl ?_
      refine g_getR fl_RX11_36 rfl dX11_age_20 (fun v7 => ?_)
      refine g_getI fl_RX11_127 rfl dX11_age_23 (fun v8 => ?_)
      refine g_iload_n 1 dX11_age_26 rfl ?_
      refine g_iload_n 2 dX11_age_27 rfl ?_
      refine g_callSi (J := I_X2_ageIn) (As := [.int v8, .int a1, .int a2]) (rest := []) mjs_X2_ageIn ml_RX11_156 (by decide) rfl rfl (Nat.le_of_ble_eq_true rfl) dX11_age_28 (T_X2_ageIn F v8 a1 a2 h5) (fun v9 h10 => ?_)
      exact g_iret rfl dX11_age_31
    · refine g_bipush (v := (-2)) dX11_age_16 (by decide) ?_
      exact g_iret rfl dX11_age_18
  · refine g_bipush (v := (-2)) dX11_age_16 (by decide) ?_
    exact g_iret rfl dX11_age_18
set_option maxRecDepth 100000 in
noncomputable def f_X7_add (F : Nat) (a0 : Nat) (a1 : Int32) (a2 : Int32) (h : Hp) : Option (Unit × Hp) :=
  lt (a2 >>> ((5 : Int32) &&& 31)) fun x1 => if a2 < 0 then (some ((), h)) else (gR 8 h a0 1 fun v3 => al 20 h v3 fun v4 => if v4 ≤ x1 then (some ((), h)) else (gI 8 h a0 2 fun v6 => gR 8 h a0 0 fun v7 => al 20 h v7 fun v8 => if v6 < v8 then (lt ((1 : Int32) <<< ((a2 &&& 31) &&& 31)) fun x10 => gR 8 h a0 1 fun v11 => aI 20 h v11 x1 fun v12 => if (v12 &&& x10) = 0 then (gR 8 h a0 1 fun v14 => aI 20 h v14 x1 fun v15 => wI h v14 x1 (v15 ||| x10) fun h16 => gR 8 h16 a0 0 fun v17 => gI 8 h16 a0 2 fun v18 => wI h16 v17 v18 ((a1 <<< ((16 : Int32) &&& 31)) ||| a2) fun h19 => gI 8 h19 a0 2 fun v20 => pI 8 h19 a0 2 (v20 + 1) fun h21 => some ((), h21)) else (some ((), h))) else (some ((), h))))
set_option maxRecDepth 100000 in
set_option maxHeartbeats 4000000 in
theorem T_X7_add (F : Nat) (a0 : Nat) (a1 : Int32) (a2 : Int32) (h : Hp) : GM rvV I_X7_add 1 [.ref a0, .int a1, .int a2] h (f_X7_add F a0 a1 a2 h) := by
  delta f_X7_add
  refine GM_of (lv := [(0, .ref a0), (1, .int a1), (2, .int a2)]) (by decide +kernel) (Nat.le_of_ble_eq_true rfl) rfl ?_
  refine g_iload_n 2 dX7_add_0 rfl ?_
  refine g_iconst (v := 5) dX7_add_1 (by decide) ?_
  refine g_ishr dX7_add_2 ?_
  refine G_lti (fun x1 => ?_)
  refine g_istore_n (lv' := [(3, .int x1), (0, .ref a0), (1, .int a1), (2, .int a2)]) dX7_add_3 (by decide) rfl ?_
  refine g_iload_n 3 dX7_add_4 rfl ?_
  refine g_if_lt (tgt := 29) dX7_add_5 (by decide) (fun c2 => ?_) (fun c2 => ?_)
  · exact g_vret rfl dX7_add_29
  · refine g_iload_n 0 dX7_add_8 rfl ?_
    refine g_aload_n 1 dX7_add_9 rfl ?_
    refine g_getR fl_RX7_15 rfl dX7_add_10 (fun v3 => ?_)
    refine g_alen (by decide) (by decide) dX7_add_13 (fun v4 => ?_)
    refine g_icmp_ge (tgt := 29) dX7_add_14 (by decide) (fun c5 => ?_) (fun c5 => ?_)
    · exact g_vret rfl dX7_add_29
    · refine g_aload_n 1 dX7_add_17 rfl ?_
      refine g_getI fl_RX7_28 rfl dX7_add_18 (fun v6 => ?_)
      refine g_aload_n 1 dX7_add_21 rfl ?_
      refine g_getR fl_RX7_9 rfl dX7_add_22 (fun v7 => ?_)
      refine g_alen (by decide) (by decide) dX7_add_25 (fun v8 => ?_)
      refine g_icmp_lt (tgt := 30) dX7_add_26 (by decide) (fun c9 => ?_) (fun c9 => ?_)
      · refine g_iconst (v := 1) dX7_add_30 (by decide) ?_
        refine g_iload_n 3 dX7_add_31 rfl ?_
        refine g_bipush (v := 31) dX7_add_32 (by decide) ?_
        refine g_iand dX7_add_34 ?_
        refine g_ishl dX7_add_35 ?_
        refine G_lti (fun x10 => ?_)
        refine g_istore (lv' := [(4, .int x10), (3, .int x1), (0, .ref a0), (1, .int a1), (2, .int a2)]) dX7_add_36 (by decide) rfl ?_
        refine g_aload_n 2 dX7_add_38 rfl ?_
        refine g_getR fl_RX7_15 rfl dX7_add_39 (fun v11 => ?_)
        refine g_iload_n 1 dX7_add_42 rfl ?_
        refine g_iald dX7_add_43 (fun v12 => ?_)
        refine g_iload 0 dX7_add_44 rfl ?_
        refine g_iand dX7_add_46 ?_
        refine g_if_ne (tgt := 86) dX7_add_47 (by decide) (fun c13 => ?_) (fun c13 => ?_)
        · refine g_aload_n 2 dX7_add_50 rfl ?_
          refine g_getR fl_RX7_15 rfl dX7_add_51 (fun v14 => ?_)
          refine g_iload_n 1 dX7_add_54 rfl ?_
          refine g_dup2 dX7_add_55 rfl rfl ?_
          refine g_iald dX7_add_56 (fun v15 => ?_)
          refine g_iload 0 dX7_add_57 rfl ?_
          refine g_ior dX7_add_59 ?_
          refine g_iast dX7_add_60 (fun h16 => ?_)
          refine g_aload_n 2 dX7_add_61 rfl ?_
          refine g_getR fl_RX7_9 rfl dX7_add_62 (fun v17 => ?_)
          refine g_aload_n 2 dX7_add_65 rfl ?_
          refine g_getI fl_RX7_28 rfl dX7_add_66 (fun v18 => ?_)
          refine g_iload_n 3 dX7_add_69 rfl ?_
          refine g_bipush (v := 16) dX7_add_70 (by decide) ?_
          refine g_ishl dX7_add_72 ?_
          refine g_iload_n 4 dX7_add_73 rfl ?_
          refine g_ior dX7_add_74 ?_
          refine g_iast dX7_add_75 (fun h19 => ?_)
          refine g_aload_n 2 dX7_add_76 rfl ?_
          refine g_dup dX7_add_77 rfl ?_
          refine g_getI fl_RX7_28 rfl dX7_add_78 (fun v20 => ?_)
          refine g_iconst (v := 1) dX7_add_81 (by decide) ?_
          refine g_iadd dX7_add_82 ?_
          refine g_putI fl_RX7_28 (Or.inl rfl) dX7_add_83 (fun h21 => ?_)
          exact g_vret rfl dX7_add_86
        · exact g_vret rfl dX7_add_86
      · exact g_vret rfl dX7_add_29
set_option maxRecDepth 100000 in
noncomputable def f_X2_room (F : Nat) (a0 : Nat) (h : Hp) : Option (Int32 × Hp) :=
  gI 3 h a0 0 fun v1 => some (((1 : Int32) <<< ((4 * v1) &&& 31)), h)
set_option maxRecDepth 100000 in
set_option maxHeartbeats 4000000 in
theorem T_X2_room (F : Nat) (a0 : Nat) (h : Hp) : GM rvI I_X2_room 1 [.ref a0] h (f_X2_room F a0 h) := by
  delta f_X2_room
  refine GM_of (lv := [(0, .ref a0)]) (by decide +kernel) (Nat.le_of_ble_eq_true rfl) rfl ?_
  refine g_iconst (v := 1) dX2_room_0 (by decide) ?_
  refine g_iconst (v := 4) dX2_room_1 (by decide) ?_
  refine g_aload_n 0 dX2_room_2 rfl ?_
  refine g_getI fl_RX2_27 rfl dX2_room_3 (fun v1 => ?_)
  refine g_imul dX2_room_6 ?_
  refine g_ishl dX2_room_7 ?_
  exact g_iret rfl dX2_room_8
set_option maxRecDepth 100000 in
noncomputable def f_J7_fill_53178_5_b (F : Nat) (K5 : Nat → Int32 → Int32 → Int32 → Hp → Option (Unit × Hp)) (l0 : Nat) (l1 : Int32) (l2 : Int32) (l3 : Int32) (h : Hp) : Option (Unit × Hp) :=
  if l3 ≤ l2 then (some ((), h)) else (wI h l0 l2 l1 fun h3 => K5 l0 l1 (l2 + 1) l3 h3)
set_option maxRecDepth 100000 in
set_option maxHeartbeats 4000000 in
theorem T_J7_fill_53178_5_b (F : Nat) {K5 : Nat → Int32 → Int32 → Int32 → Hp → Option (Unit × Hp)} (hK5 : ∀ (l0 : Nat) (l1 : Int32) (l2 : Int32) (l3 : Int32) (h : Hp), G rvV I_J7_fill_53178 1 5 [(0, .ref l0), (1, .int l1), (2, .int l2), (3, .int l3)] [] h (K5 l0 l1 l2 l3 h)) (l0 : Nat) (l1 : Int32) (l2 : Int32) (l3 : Int32) (h : Hp) : G rvV I_J7_fill_53178 1 5 [(0, .ref l0), (1, .int l1), (2, .int l2), (3, .int l3)] [] h (f_J7_fill_53178_5_b F K5 l0 l1 l2 l3 h) := by
  delta f_J7_fill_53178_5_b
  refine g_iload_n 2 dJ7_fill_53178_5 rfl ?_
  refine g_iload_n 3 dJ7_fill_53178_6 rfl ?_
  refine g_icmp_ge (tgt := 20) dJ7_fill_53178_7 (by decide) (fun c2 => ?_) (fun c2 => ?_)
  · exact g_vret rfl dJ7_fill_53178_20
  · refine g_aload_n 0 dJ7_fill_53178_10 rfl ?_
    refine g_iload_n 2 dJ7_fill_53178_11 rfl ?_
    refine g_iload_n 1 dJ7_fill_53178_12 rfl ?_
    refine g_iast dJ7_fill_53178_13 (fun h3 => ?_)
    refine g_iinc (v' := l2 + 1) (lv' := [(2, .int (l2 + 1)), (0, .ref l0), (1, .int l1), (3, .int l3)]) 2 dJ7_fill_53178_14 rfl rfl (by decide) rfl ?_
    refine g_goto (tgt := 5) dJ7_fill_53178_17 (by decide) ?_
    refine G_lv [1, 2, 0, 3] rfl ?_
    exact hK5 l0 l1 (l2 + 1) l3 h3
set_option maxRecDepth 100000 in
noncomputable def f_J7_fill_53178_5 (F : Nat) : Nat → Nat → Int32 → Int32 → Int32 → Hp → Option (Unit × Hp)
  | 0, _, _, _, _, _ => none
  | n + 1, l0, l1, l2, l3, h => f_J7_fill_53178_5_b F (f_J7_fill_53178_5 F n) l0 l1 l2 l3 h
set_option maxRecDepth 100000 in
set_option maxHeartbeats 4000000 in
theorem T_J7_fill_53178_5 (F : Nat) : ∀ (n : Nat) (l0 : Nat) (l1 : Int32) (l2 : Int32) (l3 : Int32) (h : Hp), G rvV I_J7_fill_53178 1 5 [(0, .ref l0), (1, .int l1), (2, .int l2), (3, .int l3)] [] h (f_J7_fill_53178_5 F n l0 l1 l2 l3 h) := by
  intro n
  induction n with
  | zero => intros; exact G_none
  | succ n ih => intro l0 l1 l2 l3 h; exact T_J7_fill_53178_5_b F ih l0 l1 l2 l3 h
set_option maxRecDepth 100000 in
noncomputable def f_J7_fill_53178 (F : Nat) (a0 : Nat) (a1 : Int32) (h : Hp) : Option (Unit × Hp) :=
  al 20 h a0 fun v1 => f_J7_fill_53178_5 F F a0 a1 0 v1 h
set_option maxRecDepth 100000 in
set_option maxHeartbeats 4000000 in
theorem T_J7_fill_53178 (F : Nat) (a0 : Nat) (a1 : Int32) (h : Hp) : GM rvV I_J7_fill_53178 1 [.ref a0, .int a1] h (f_J7_fill_53178 F a0 a1 h) := by
  delta f_J7_fill_53178
  refine GM_of (lv := [(0, .ref a0), (1, .int a1)]) (by decide +kernel) (Nat.le_of_ble_eq_true rfl) rfl ?_
  refine g_iconst (v := 0) dJ7_fill_53178_0 (by decide) ?_
  refine g_istore_n (lv' := [(2, .int 0), (0, .ref a0), (1, .int a1)]) dJ7_fill_53178_1 (by decide) rfl ?_
  refine g_aload_n 1 dJ7_fill_53178_2 rfl ?_
  refine g_alen (by decide) (by decide) dJ7_fill_53178_3 (fun v1 => ?_)
  refine g_istore_n (lv' := [(3, .int v1), (2, .int 0), (0, .ref a0), (1, .int a1)]) dJ7_fill_53178_4 (by decide) rfl ?_
  refine G_lv [2, 3, 1, 0] rfl ?_
  exact T_J7_fill_53178_5 F F a0 a1 0 v1 h
set_option maxRecDepth 100000 in
noncomputable def f_X7_drop (F : Nat) (a0 : Nat) (h : Hp) : Option (Unit × Hp) :=
  gR 8 h a0 1 fun v1 => bd (f_J7_fill_53178 F v1 0 h) fun v2 h3 => pI 8 h3 a0 2 0 fun h4 => pI 8 h4 a0 3 0 fun h5 => some ((), h5)
set_option maxRecDepth 100000 in
set_option maxHeartbeats 4000000 in
theorem T_X7_drop (F : Nat) (a0 : Nat) (h : Hp) : GM rvV I_X7_drop 2 [.ref a0] h (f_X7_drop F a0 h) := by
  delta f_X7_drop
  refine GM_of (lv := [(0, .ref a0)]) (by decide +kernel) (Nat.le_of_ble_eq_true rfl) rfl ?_
  refine g_aload_n 0 dX7_drop_0 rfl ?_
  refine g_getR fl_RX7_15 rfl dX7_drop_1 (fun v1 => ?_)
  refine g_iconst (v := 0) dX7_drop_4 (by decide) ?_
  refine g_callSv (J := I_J7_fill_53178) (As := [.ref v1, .int 0]) (rest := []) mjs_J7_fill_53178 ml_RX7_22 (by decide) rfl rfl (Nat.le_of_ble_eq_true rfl) dX7_drop_5 (T_J7_fill_53178 F v1 0 h) (fun v2 h3 => ?_)
  refine g_aload_n 0 dX7_drop_8 rfl ?_
  refine g_iconst (v := 0) dX7_drop_9 (by decide) ?_
  refine g_putI fl_RX7_28 (Or.inl rfl) dX7_drop_10 (fun h4 => ?_)
  refine g_aload_n 0 dX7_drop_13 rfl ?_
  refine g_iconst (v := 0) dX7_drop_14 (by decide) ?_
  refine g_putI fl_RX7_32 (Or.inl rfl) dX7_drop_15 (fun h5 => ?_)
  exact g_vret rfl dX7_drop_18
set_option maxRecDepth 100000 in
noncomputable def f_X7_settle (F : Nat) (a0 : Nat) (a1 : Nat) (a2 : Nat) (h : Hp) : Option (Unit × Hp) :=
  cV 8 h a0 (f_X7_drop F a0 h) fun v1 h2 => pR 8 h2 a0 4 a1 fun h3 => gI 9 h3 a2 0 fun v4 => pI 8 h3 a0 5 v4 fun h5 => gI 9 h5 a2 1 fun v6 => pI 8 h5 a0 6 v6 fun h7 => cV 3 h7 a1 (f_X2_room F a1 h7) fun v8 h9 => gR 8 h9 a0 0 fun v10 => al 20 h9 v10 fun v11 => if v8 ≤ v11 then (some ((), h9)) else (nA 20 h9 v8 fun b13 h14 => pR 8 h14 a0 0 b13 fun h15 => nA 20 h15 ((v8 >>> ((5 : Int32) &&& 31)) + 1) fun b16 h17 => pR 8 h17 a0 1 b16 fun h18 => some ((), h18))
set_option maxRecDepth 100000 in
set_option maxHeartbeats 4000000 in
theorem T_X7_settle (F : Nat) (a0 : Nat) (a1 : Nat) (a2 : Nat) (h : Hp) : GM rvV I_X7_settle 3 [.ref a0, .ref a1, .ref a2] h (f_X7_settle F a0 a1 a2 h) := by
  delta f_X7_settle
  refine GM_of (lv := [(0, .ref a0), (1, .ref a1), (2, .ref a2)]) (by decide +kernel) (Nat.le_of_ble_eq_true rfl) rfl ?_
  refine g_aload_n 0 dX7_settle_0 rfl ?_
  refine g_callVv (J := I_X7_drop) (t := 8) (As := []) (rest := []) mjv_X7_drop ml_RX7_61 ⟨rfl, by decide, by decide⟩ (by decide) rfl rfl (Nat.le_of_ble_eq_true rfl) dX7_settle_1 (T_X7_drop F a0 h) (fun v1 h2 => ?_)
  refine g_aload_n 0 dX7_settle_4 rfl ?_
  refine g_aload_n 1 dX7_settle_5 rfl ?_
  refine g_putR fl_RX7_18 rfl (Or.inl rfl) dX7_settle_6 (fun h3 => ?_)
  refine g_aload_n 0 dX7_settle_9 rfl ?_
  refine g_aload_n 2 dX7_settle_10 rfl ?_
  refine g_getI fl_RX7_38 rfl dX7_settle_11 (fun v4 => ?_)
  refine g_putI fl_RX7_35 (Or.inl rfl) dX7_settle_14 (fun h5 => ?_)
  refine g_aload_n 0 dX7_settle_17 rfl ?_
  refine g_aload_n 2 dX7_settle_18 rfl ?_
  refine g_getI fl_RX7_46 rfl dX7_settle_19 (fun v6 => ?_)
  refine g_putI fl_RX7_43 (Or.inl rfl) dX7_settle_22 (fun h7 => ?_)
  refine g_aload_n 1 dX7_settle_25 rfl ?_
  refine g_callVi (J := I_X2_room) (t := 3) (As := []) (rest := []) mjv_X2_room ml_RX7_64 ⟨rfl, by decide, by decide⟩ (by decide) rfl rfl (Nat.le_of_ble_eq_true rfl) dX7_settle_26 (T_X2_room F a1 h7) (fun v8 h9 => ?_)
  refine g_istore_n (lv' := [(3, .int v8), (0, .ref a0), (1, .ref a1), (2, .ref a2)]) dX7_settle_29 (by decide) rfl ?_
  refine g_aload_n 1 dX7_settle_30 rfl ?_
  refine g_getR fl_RX7_9 rfl dX7_settle_31 (fun v10 => ?_)
  refine g_alen (by decide) (by decide) dX7_settle_34 (fun v11 => ?_)
  refine g_iload_n 0 dX7_settle_35 rfl ?_
  refine g_icmp_ge (tgt := 57) dX7_settle_36 (by decide) (fun c12 => ?_) (fun c12 => ?_)
  · exact g_vret rfl dX7_settle_57
  · refine g_aload_n 1 dX7_settle_39 rfl ?_
    refine g_iload_n 0 dX7_settle_40 rfl ?_
    refine g_newa (t := 20) (by decide) (by decide) rfl ac_int dX7_settle_41 (fun b13 h14 => ?_)
    refine g_putR fl_RX7_9 rfl (Or.inl rfl) dX7_settle_43 (fun h15 => ?_)
    refine g_aload_n 1 dX7_settle_46 rfl ?_
    refine g_iload_n 0 dX7_settle_47 rfl ?_
    refine g_iconst (v := 5) dX7_settle_48 (by decide) ?_
    refine g_ishr dX7_settle_49 ?_
    refine g_iconst (v := 1) dX7_settle_50 (by decide) ?_
    refine g_iadd dX7_settle_51 ?_
    refine g_newa (t := 20) (by decide) (by decide) rfl ac_int dX7_settle_52 (fun b16 h17 => ?_)
    refine g_putR fl_RX7_15 rfl (Or.inl rfl) dX7_settle_54 (fun h18 => ?_)
    exact g_vret rfl dX7_settle_57
set_option maxRecDepth 100000 in
noncomputable def f_X7_begin_55 (F : Nat) (l0 : Nat) (l1 : Nat) (l2 : Nat) (l3 : Int32) (l4 : Int32) (h : Hp) : Option (Unit × Hp) :=
  pI 8 h l0 7 l3 fun h3 => pI 8 h3 l0 8 l4 fun h4 => cV 8 h4 l0 (f_X7_settle F l0 l1 l2 h4) fun v5 h6 => gI 8 h6 l0 5 fun v7 => cV 8 h6 l0 (f_X7_add F l0 0 v7 h6) fun v8 h9 => some ((), h9)
set_option maxRecDepth 100000 in
set_option maxHeartbeats 4000000 in
theorem T_X7_begin_55 (F : Nat) (l0 : Nat) (l1 : Nat) (l2 : Nat) (l3 : Int32) (l4 : Int32) (h : Hp) : G rvV I_X7_begin 4 55 [(0, .ref l0), (1, .ref l1), (2, .ref l2), (3, .int l3), (4, .int l4)] [] h (f_X7_begin_55 F l0 l1 l2 l3 l4 h) := by
  delta f_X7_begin_55
  refine g_aload_n 0 dX7_begin_55 rfl ?_
  refine g_iload_n 3 dX7_begin_56 rfl ?_
  refine g_putI fl_RX7_47 (Or.inl rfl) dX7_begin_57 (fun h3 => ?_)
  refine g_aload_n 0 dX7_begin_60 rfl ?_
  refine g_iload 4 dX7_begin_61 rfl ?_
  refine g_putI fl_RX7_50 (Or.inl rfl) dX7_begin_63 (fun h4 => ?_)
  refine g_aload_n 0 dX7_begin_66 rfl ?_
  refine g_aload_n 1 dX7_begin_67 rfl ?_
  refine g_aload_n 2 dX7_begin_68 rfl ?_
  refine g_callVv (J := I_X7_settle) (t := 8) (As := [.ref l1, .ref l2]) (rest := []) mjv_X7_settle ml_RX7_53 ⟨rfl, by decide, by decide⟩ (by decide) rfl rfl (Nat.le_of_ble_eq_true rfl) dX7_begin_69 (T_X7_settle F l0 l1 l2 h4) (fun v5 h6 => ?_)
  refine g_aload_n 0 dX7_begin_72 rfl ?_
  refine g_iconst (v := 0) dX7_begin_73 (by decide) ?_
  refine g_aload_n 0 dX7_begin_74 rfl ?_
  refine g_getI fl_RX7_35 rfl dX7_begin_75 (fun v7 => ?_)
  refine g_callVv (J := I_X7_add) (t := 8) (As := [.int 0, .int v7]) (rest := []) mjv_X7_add ml_RX7_57 ⟨rfl, by decide, by decide⟩ (by decide) rfl rfl (Nat.le_of_ble_eq_true rfl) dX7_begin_78 (T_X7_add F l0 0 v7 h6) (fun v8 h9 => ?_)
  exact g_vret rfl dX7_begin_81
set_option maxRecDepth 100000 in
noncomputable def f_X7_begin (F : Nat) (a0 : Nat) (a1 : Nat) (a2 : Nat) (a3 : Int32) (a4 : Int32) (h : Hp) : Option (Unit × Hp) :=
  gI 8 h a0 2 fun v1 => if v1 ≤ 0 then (f_X7_begin_55 F a0 a1 a2 a3 a4 h) else (gR 8 h a0 4 fun v10 => if v10 = a1 then (gI 8 h a0 5 fun v12 => gI 9 h a2 0 fun v13 => if v12 = v13 then (gI 8 h a0 6 fun v15 => gI 9 h a2 1 fun v16 => if v15 = v16 then (gI 8 h a0 7 fun v18 => if v18 = a3 then (gI 8 h a0 8 fun v20 => if v20 = a4 then (some ((), h)) else (f_X7_begin_55 F a0 a1 a2 a3 a4 h)) else (f_X7_begin_55 F a0 a1 a2 a3 a4 h)) else (f_X7_begin_55 F a0 a1 a2 a3 a4 h)) else (f_X7_begin_55 F a0 a1 a2 a3 a4 h)) else (f_X7_begin_55 F a0 a1 a2 a3 a4 h))
set_option maxRecDepth 100000 in
set_option maxHeartbeats 4000000 in
theorem T_X7_begin (F : Nat) (a0 : Nat) (a1 : Nat) (a2 : Nat) (a3 : Int32) (a4 : Int32) (h : Hp) : GM rvV I_X7_begin 4 [.ref a0, .ref a1, .ref a2, .int a3, .int a4] h (f_X7_begin F a0 a1 a2 a3 a4 h) := by
  delta f_X7_begin
  refine GM_of (lv := [(0, .ref a0), (1, .ref a1), (2, .ref a2), (3, .int a3), (4, .int a4)]) (by decide +kernel) (Nat.le_of_ble_eq_true rfl) rfl ?_
  refine g_aload_n 0 dX7_begin_0 rfl ?_
  refine g_getI fl_RX7_28 rfl dX7_begin_1 (fun v1 => ?_)
  refine g_if_le (tgt := 55) dX7_begin_4 (by decide) (fun c2 => ?_) (fun c2 => ?_)
  · refine G_lv [0, 1, 2, 3, 4] rfl ?_
    exact T_X7_begin_55 F a0 a1 a2 a3 a4 h
  · refine g_aload_n 0 dX7_begin_7 rfl ?_
    refine g_getR fl_RX7_18 rfl dX7_begin_8 (fun v10 => ?_)
    refine g_aload_n 1 dX7_begin_11 rfl ?_
    refine g_acmp_ne (tgt := 55) dX7_begin_12 (by decide) (fun c11 => ?_) (fun c11 => ?_)
    · refine g_aload_n 0 dX7_begin_15 rfl ?_
      refine g_getI fl_RX7_35 rfl dX7_begin_16 (fun v12 => ?_)
      refine g_aload_n 2 dX7_begin_19 rfl ?_
      refine g_getI fl_RX7_38 rfl dX7_begin_20 (fun v13 => ?_)
      refine g_icmp_ne (tgt := 55) dX7_begin_23 (by decide) (fun c14 => ?_) (fun c14 => ?_)
      · refine g_aload_n 0 dX7_begin_26 rfl ?_
        refine g_getI fl_RX7_43 rfl dX7_begin_27 (fun v15 => ?_)
        refine g_aload_n 2 dX7_begin_30 rfl ?_
        refine g_getI fl_RX7_46 rfl dX7_begin_31 (fun v16 => ?_)
        refine g_icmp_ne (tgt := 55) dX7_begin_34 (by decide) (fun c17 => ?_) (fun c17 => ?_)
        · refine g_aload_n 0 dX7_begin_37 rfl ?_
          refine g_getI fl_RX7_47 rfl dX7_begin_38 (fun v18 => ?_)
          refine g_iload_n 3 dX7_begin_41 rfl ?_
          refine g_icmp_ne (tgt := 55) dX7_begin_42 (by decide) (fun c19 => ?_) (fun c19 => ?_)
          · refine g_aload_n 0 dX7_begin_45 rfl ?_
            refine g_getI fl_RX7_50 rfl dX7_begin_46 (fun v20 => ?_)
            refine g_iload 4 dX7_begin_49 rfl ?_
            refine g_icmp_ne (tgt := 55) dX7_begin_51 (by decide) (fun c21 => ?_) (fun c21 => ?_)
            · exact g_vret rfl dX7_begin_54
            · refine G_lv [0, 1, 2, 3, 4] rfl ?_
              exact T_X7_begin_55 F a0 a1 a2 a3 a4 h
          · refine G_lv [0, 1, 2, 3, 4] rfl ?_
            exact T_X7_begin_55 F a0 a1 a2 a3 a4 h
        · refine G_lv [0, 1, 2, 3, 4] rfl ?_
          exact T_X7_begin_55 F a0 a1 a2 a3 a4 h
      · refine G_lv [0, 1, 2, 3, 4] rfl ?_
        exact T_X7_begin_55 F a0 a1 a2 a3 a4 h
    · refine G_lv [0, 1, 2, 3, 4] rfl ?_
      exact T_X7_begin_55 F a0 a1 a2 a3 a4 h
set_option maxRecDepth 100000 in
noncomputable def f_X2_doneBy (F : Nat) (a0 : Nat) (a1 : Int32) (a2 : Int32) (h : Hp) : Option (Int32 × Hp) :=
  lt ((a1 >>> ((2 * a2) &&& 31)) &&& 13107) fun x1 => lt ((x1 ||| (x1 >>> ((2 : Int32) &&& 31))) &&& 3855) fun x2 => lt ((x2 ||| (x2 >>> ((4 : Int32) &&& 31))) &&& 255) fun x3 => gR 3 h a0 8 fun v4 => al 20 h v4 fun v5 => if v5 ≤ x3 then (some (0, h)) else (gR 3 h a0 8 fun v7 => aI 20 h v7 x3 fun v8 => some (v8, h))
set_option maxRecDepth 100000 in
set_option maxHeartbeats 4000000 in
theorem T_X2_doneBy (F : Nat) (a0 : Nat) (a1 : Int32) (a2 : Int32) (h : Hp) : GM rvI I_X2_doneBy 1 [.ref a0, .int a1, .int a2] h (f_X2_doneBy F a0 a1 a2 h) := by
  delta f_X2_doneBy
  refine GM_of (lv := [(0, .ref a0), (1, .int a1), (2, .int a2)]) (by decide +kernel) (Nat.le_of_ble_eq_true rfl) rfl ?_
  refine g_iload_n 1 dX2_doneBy_0 rfl ?_
  refine g_iconst (v := 2) dX2_doneBy_1 (by decide) ?_
  refine g_iload_n 2 dX2_doneBy_2 rfl ?_
  refine g_imul dX2_doneBy_3 ?_
  refine g_ishr dX2_doneBy_4 ?_
  refine g_sipush (v := 13107) dX2_doneBy_5 (by decide) ?_
  refine g_iand dX2_doneBy_8 ?_
  refine G_lti (fun x1 => ?_)
  refine g_istore_n (lv' := [(3, .int x1), (0, .ref a0), (1, .int a1), (2, .int a2)]) dX2_doneBy_9 (by decide) rfl ?_
  refine g_iload_n 0 dX2_doneBy_10 rfl ?_
  refine g_iload_n 0 dX2_doneBy_11 rfl ?_
  refine g_iconst (v := 2) dX2_doneBy_12 (by decide) ?_
  refine g_ishr dX2_doneBy_13 ?_
  refine g_ior dX2_doneBy_14 ?_
  refine g_sipush (v := 3855) dX2_doneBy_15 (by decide) ?_
  refine g_iand dX2_doneBy_18 ?_
  refine G_lti (fun x2 => ?_)
  refine g_istore_n (lv' := [(3, .int x2), (0, .ref a0), (1, .int a1), (2, .int a2)]) dX2_doneBy_19 (by decide) rfl ?_
  refine g_iload_n 0 dX2_doneBy_20 rfl ?_
  refine g_iload_n 0 dX2_doneBy_21 rfl ?_
  refine g_iconst (v := 4) dX2_doneBy_22 (by decide) ?_
  refine g_ishr dX2_doneBy_23 ?_
  refine g_ior dX2_doneBy_24 ?_
  refine g_sipush (v := 255) dX2_doneBy_25 (by decide) ?_
  refine g_iand dX2_doneBy_28 ?_
  refine G_lti (fun x3 => ?_)
  refine g_istore_n (lv' := [(3, .int x3), (0, .ref a0), (1, .int a1), (2, .int a2)]) dX2_doneBy_29 (by decide) rfl ?_
  refine g_iload_n 0 dX2_doneBy_30 rfl ?_
  refine g_aload_n 1 dX2_doneBy_31 rfl ?_
  refine g_getR fl_RX2_21 rfl dX2_doneBy_32 (fun v4 => ?_)
  refine g_alen (by decide) (by decide) dX2_doneBy_35 (fun v5 => ?_)
  refine g_icmp_ge (tgt := 48) dX2_doneBy_36 (by decide) (fun c6 => ?_) (fun c6 => ?_)
  · refine g_iconst (v := 0) dX2_doneBy_48 (by decide) ?_
    exact g_iret rfl dX2_doneBy_49
  · refine g_aload_n 1 dX2_doneBy_39 rfl ?_
    refine g_getR fl_RX2_21 rfl dX2_doneBy_40 (fun v7 => ?_)
    refine g_iload_n 0 dX2_doneBy_43 rfl ?_
    refine g_iald dX2_doneBy_44 (fun v8 => ?_)
    refine g_goto (tgt := 49) dX2_doneBy_45 (by decide) ?_
    exact g_iret rfl dX2_doneBy_49
set_option maxRecDepth 100000 in
noncomputable def f_X7_agesOf (F : Nat) (a0 : Nat) (a1 : Int32) (h : Hp) : Option (Int32 × Hp) :=
  if a1 < 0 then (some (0, h)) else (gI 8 h a0 2 fun v2 => if v2 ≤ a1 then (some (0, h)) else (gR 8 h a0 0 fun v4 => al 20 h v4 fun v5 => if v5 ≤ a1 then (some (0, h)) else (gR 8 h a0 0 fun v7 => aI 20 h v7 a1 fun v8 => some ((v8 &&& 65535), h))))
set_option maxRecDepth 100000 in
set_option maxHeartbeats 4000000 in
theorem T_X7_agesOf (F : Nat) (a0 : Nat) (a1 : Int32) (h : Hp) : GM rvI I_X7_agesOf 1 [.ref a0, .int a1] h (f_X7_agesOf F a0 a1 h) := by
  delta f_X7_agesOf
  refine GM_of (lv := [(0, .ref a0), (1, .int a1)]) (by decide +kernel) (Nat.le_of_ble_eq_true rfl) rfl ?_
  refine g_iload_n 1 dX7_agesOf_0 rfl ?_
  refine g_if_lt (tgt := 33) dX7_agesOf_1 (by decide) (fun c1 => ?_) (fun c1 => ?_)
  · refine g_iconst (v := 0) dX7_agesOf_33 (by decide) ?_
    exact g_iret rfl dX7_agesOf_34
  · refine g_iload_n 1 dX7_agesOf_4 rfl ?_
    refine g_aload_n 0 dX7_agesOf_5 rfl ?_
    refine g_getI fl_RX7_28 rfl dX7_agesOf_6 (fun v2 => ?_)
    refine g_icmp_ge (tgt := 33) dX7_agesOf_9 (by decide) (fun c3 => ?_) (fun c3 => ?_)
    · refine g_iconst (v := 0) dX7_agesOf_33 (by decide) ?_
      exact g_iret rfl dX7_agesOf_34
    · refine g_iload_n 1 dX7_agesOf_12 rfl ?_
      refine g_aload_n 0 dX7_agesOf_13 rfl ?_
      refine g_getR fl_RX7_9 rfl dX7_agesOf_14 (fun v4 => ?_)
      refine g_alen (by decide) (by decide) dX7_agesOf_17 (fun v5 => ?_)
      refine g_icmp_ge (tgt := 33) dX7_agesOf_18 (by decide) (fun c6 => ?_) (fun c6 => ?_)
      · refine g_iconst (v := 0) dX7_agesOf_33 (by decide) ?_
        exact g_iret rfl dX7_agesOf_34
      · refine g_aload_n 0 dX7_agesOf_21 rfl ?_
        refine g_getR fl_RX7_9 rfl dX7_agesOf_22 (fun v7 => ?_)
        refine g_iload_n 1 dX7_agesOf_25 rfl ?_
        refine g_iald dX7_agesOf_26 (fun v8 => ?_)
        refine g_ldc (v := 65535) dX7_agesOf_27 co_RX7_96 ?_
        refine g_iand dX7_agesOf_29 ?_
        refine g_goto (tgt := 34) dX7_agesOf_30 (by decide) ?_
        exact g_iret rfl dX7_agesOf_34
set_option maxRecDepth 100000 in
noncomputable def f_X2_afterCase_69 (F : Nat) (l1 : Int32) (l3 : Int32) (l4 : Int32) (l6 : Int32) (l7 : Int32) (h : Hp) : Option (Int32 × Hp) :=
  bd (f_X2_ageIn F l1 (1 - l3) l4 h) fun v8 h9 => lt (l6 - v8) fun x10 => if x10 ≤ 0 then (some (l7, h9)) else (some ((l7 + (x10 <<< (((4 * l4) + (2 * (1 - l3))) &&& 31))), h9))
set_option maxRecDepth 100000 in
set_option maxHeartbeats 4000000 in
theorem T_X2_afterCase_69 (F : Nat) (l1 : Int32) (l3 : Int32) (l4 : Int32) (l6 : Int32) (l7 : Int32) (h : Hp) : G rvI I_X2_afterCase 2 69 [(1, .int l1), (3, .int l3), (4, .int l4), (6, .int l6), (7, .int l7)] [] h (f_X2_afterCase_69 F l1 l3 l4 l6 l7 h) := by
  delta f_X2_afterCase_69
  refine g_iload 3 dX2_afterCase_69 rfl ?_
  refine g_iload_n 0 dX2_afterCase_71 rfl ?_
  refine g_iconst (v := 1) dX2_afterCase_72 (by decide) ?_
  refine g_iload_n 1 dX2_afterCase_73 rfl ?_
  refine g_isub dX2_afterCase_74 ?_
  refine g_iload 2 dX2_afterCase_75 rfl ?_
  refine g_callSi (J := I_X2_ageIn) (As := [.int l1, .int (1 - l3), .int l4]) (rest := [.int l6]) mjs_X2_ageIn ml_RX2_71 (by decide) rfl rfl (Nat.le_of_ble_eq_true rfl) dX2_afterCase_77 (T_X2_ageIn F l1 (1 - l3) l4 h) (fun v8 h9 => ?_)
  refine g_isub dX2_afterCase_80 ?_
  refine G_lti (fun x10 => ?_)
  refine g_istore (lv' := [(8, .int x10), (1, .int l1), (3, .int l3), (4, .int l4), (6, .int l6), (7, .int l7)]) dX2_afterCase_81 (by decide) rfl ?_
  refine g_iload 0 dX2_afterCase_83 rfl ?_
  refine g_if_le (tgt := 107) dX2_afterCase_85 (by decide) (fun c11 => ?_) (fun c11 => ?_)
  · refine g_iload 5 dX2_afterCase_107 rfl ?_
    exact g_iret rfl dX2_afterCase_109
  · refine g_iload 5 dX2_afterCase_88 rfl ?_
    refine g_iload 0 dX2_afterCase_90 rfl ?_
    refine g_iconst (v := 4) dX2_afterCase_92 (by decide) ?_
    refine g_iload 3 dX2_afterCase_93 rfl ?_
    refine g_imul dX2_afterCase_95 ?_
    refine g_iconst (v := 2) dX2_afterCase_96 (by decide) ?_
    refine g_iconst (v := 1) dX2_afterCase_97 (by decide) ?_
    refine g_iload_n 2 dX2_afterCase_98 rfl ?_
    refine g_isub dX2_afterCase_99 ?_
    refine g_imul dX2_afterCase_100 ?_
    refine g_iadd dX2_afterCase_101 ?_
    refine g_ishl dX2_afterCase_102 ?_
    refine g_iadd dX2_afterCase_103 ?_
    refine g_goto (tgt := 109) dX2_afterCase_104 (by decide) ?_
    exact g_iret rfl dX2_afterCase_109
set_option maxRecDepth 100000 in
noncomputable def f_X2_afterCase_32 (F : Nat) (l1 : Int32) (l3 : Int32) (l4 : Int32) (s0 : Int32) (h : Hp) : Option (Int32 × Hp) :=
  if 0 ≤ s0 then (bd (f_X2_ageIn F l1 l3 l4 h) fun v4 h5 => if v4 = 0 then (lt (l1 ||| ((1 : Int32) <<< (((4 * l4) + (2 * l3)) &&& 31))) fun x7 => f_X2_afterCase_69 F l1 l3 l4 s0 x7 h5) else (f_X2_afterCase_69 F l1 l3 l4 s0 l1 h5)) else (some ((-1), h))
set_option maxRecDepth 100000 in
set_option maxHeartbeats 4000000 in
theorem T_X2_afterCase_32 (F : Nat) (l1 : Int32) (l3 : Int32) (l4 : Int32) (s0 : Int32) (h : Hp) : G rvI I_X2_afterCase 2 32 [(1, .int l1), (3, .int l3), (4, .int l4)] [.int s0] h (f_X2_afterCase_32 F l1 l3 l4 s0 h) := by
  delta f_X2_afterCase_32
  refine g_istore (lv' := [(6, .int s0), (1, .int l1), (3, .int l3), (4, .int l4)]) dX2_afterCase_32 (by decide) rfl ?_
  refine g_iload 0 dX2_afterCase_34 rfl ?_
  refine g_if_ge (tgt := 41) dX2_afterCase_36 (by decide) (fun c3 => ?_) (fun c3 => ?_)
  · refine g_iload_n 1 dX2_afterCase_41 rfl ?_
    refine g_istore (lv' := [(7, .int l1), (6, .int s0), (1, .int l1), (3, .int l3), (4, .int l4)]) dX2_afterCase_42 (by decide) rfl ?_
    refine g_iload_n 2 dX2_afterCase_44 rfl ?_
    refine g_iload_n 3 dX2_afterCase_45 rfl ?_
    refine g_iload 4 dX2_afterCase_46 rfl ?_
    refine g_callSi (J := I_X2_ageIn) (As := [.int l1, .int l3, .int l4]) (rest := []) mjs_X2_ageIn ml_RX2_71 (by decide) rfl rfl (Nat.le_of_ble_eq_true rfl) dX2_afterCase_48 (T_X2_ageIn F l1 l3 l4 h) (fun v4 h5 => ?_)
    refine g_if_ne (tgt := 69) dX2_afterCase_51 (by decide) (fun c6 => ?_) (fun c6 => ?_)
    · refine g_iload 0 dX2_afterCase_54 rfl ?_
      refine g_iconst (v := 1) dX2_afterCase_56 (by decide) ?_
      refine g_iconst (v := 4) dX2_afterCase_57 (by decide) ?_
      refine g_iload 4 dX2_afterCase_58 rfl ?_
      refine g_imul dX2_afterCase_60 ?_
      refine g_iconst (v := 2) dX2_afterCase_61 (by decide) ?_
      refine g_iload_n 3 dX2_afterCase_62 rfl ?_
      refine g_imul dX2_afterCase_63 ?_
      refine g_iadd dX2_afterCase_64 ?_
      refine g_ishl dX2_afterCase_65 ?_
      refine g_ior dX2_afterCase_66 ?_
      refine G_lti (fun x7 => ?_)
      refine g_istore (lv' := [(7, .int x7), (6, .int s0), (1, .int l1), (3, .int l3), (4, .int l4)]) dX2_afterCase_67 (by decide) rfl ?_
      refine G_lv [2, 3, 4, 1, 0] rfl ?_
      exact T_X2_afterCase_69 F l1 l3 l4 s0 x7 h5
    · refine G_lv [2, 3, 4, 1, 0] rfl ?_
      exact T_X2_afterCase_69 F l1 l3 l4 s0 l1 h5
  · refine g_iconst (v := (-1)) dX2_afterCase_39 (by decide) ?_
    exact g_iret rfl dX2_afterCase_40
set_option maxRecDepth 100000 in
noncomputable def f_X2_afterCase_31 (F : Nat) (l1 : Int32) (l3 : Int32) (l4 : Int32) (h : Hp) : Option (Int32 × Hp) :=
  f_X2_afterCase_32 F l1 l3 l4 (-1) h
set_option maxRecDepth 100000 in
set_option maxHeartbeats 4000000 in
theorem T_X2_afterCase_31 (F : Nat) (l1 : Int32) (l3 : Int32) (l4 : Int32) (h : Hp) : G rvI I_X2_afterCase 2 31 [(1, .int l1), (3, .int l3), (4, .int l4)] [] h (f_X2_afterCase_31 F l1 l3 l4 h) := by
  delta f_X2_afterCase_31
  refine g_iconst (v := (-1)) dX2_afterCase_31 (by decide) ?_
  refine G_lv [0, 1, 2] rfl ?_
  exact T_X2_afterCase_32 F l1 l3 l4 (-1) h
set_option maxRecDepth 100000 in
noncomputable def f_X2_afterCase (F : Nat) (a0 : Nat) (a1 : Int32) (a2 : Int32) (a3 : Int32) (a4 : Int32) (h : Hp) : Option (Int32 × Hp) :=
  lt (a2 + a4) fun x1 => if x1 < 0 then (f_X2_afterCase_31 F a1 a3 a4 h) else (gR 3 h a0 9 fun v12 => al 20 h v12 fun v13 => if v13 ≤ x1 then (f_X2_afterCase_31 F a1 a3 a4 h) else (gR 3 h a0 9 fun v15 => aI 20 h v15 x1 fun v16 => f_X2_afterCase_32 F a1 a3 a4 v16 h))
set_option maxRecDepth 100000 in
set_option maxHeartbeats 4000000 in
theorem T_X2_afterCase (F : Nat) (a0 : Nat) (a1 : Int32) (a2 : Int32) (a3 : Int32) (a4 : Int32) (h : Hp) : GM rvI I_X2_afterCase 2 [.ref a0, .int a1, .int a2, .int a3, .int a4] h (f_X2_afterCase F a0 a1 a2 a3 a4 h) := by
  delta f_X2_afterCase
  refine GM_of (lv := [(0, .ref a0), (1, .int a1), (2, .int a2), (3, .int a3), (4, .int a4)]) (by decide +kernel) (Nat.le_of_ble_eq_true rfl) rfl ?_
  refine g_iload_n 2 dX2_afterCase_0 rfl ?_
  refine g_iload 4 dX2_afterCase_1 rfl ?_
  refine g_iadd dX2_afterCase_3 ?_
  refine G_lti (fun x1 => ?_)
  refine g_istore (lv' := [(5, .int x1), (0, .ref a0), (1, .int a1), (2, .int a2), (3, .int a3), (4, .int a4)]) dX2_afterCase_4 (by decide) rfl ?_
  refine g_iload 0 dX2_afterCase_6 rfl ?_
  refine g_if_lt (tgt := 31) dX2_afterCase_8 (by decide) (fun c2 => ?_) (fun c2 => ?_)
  · refine G_lv [2, 4, 5] rfl ?_
    exact T_X2_afterCase_31 F a1 a3 a4 h
  · refine g_iload 0 dX2_afterCase_11 rfl ?_
    refine g_aload_n 1 dX2_afterCase_13 rfl ?_
    refine g_getR fl_RX2_24 rfl dX2_afterCase_14 (fun v12 => ?_)
    refine g_alen (by decide) (by decide) dX2_afterCase_17 (fun v13 => ?_)
    refine g_icmp_ge (tgt := 31) dX2_afterCase_18 (by decide) (fun c14 => ?_) (fun c14 => ?_)
    · refine G_lv [2, 4, 5] rfl ?_
      exact T_X2_afterCase_31 F a1 a3 a4 h
    · refine g_aload_n 1 dX2_afterCase_21 rfl ?_
      refine g_getR fl_RX2_24 rfl dX2_afterCase_22 (fun v15 => ?_)
      refine g_iload 0 dX2_afterCase_25 rfl ?_
      refine g_iald dX2_afterCase_27 (fun v16 => ?_)
      refine g_goto (tgt := 32) dX2_afterCase_28 (by decide) ?_
      refine G_lv [2, 4, 5] rfl ?_
      exact T_X2_afterCase_32 F a1 a3 a4 v16 h
set_option maxRecDepth 100000 in
noncomputable def f_X2_afterDay (F : Nat) (a0 : Int32) (h : Hp) : Option (Int32 × Hp) :=
  lt (a0 &&& 21845) fun x1 => lt ((a0 >>> ((1 : Int32) &&& 31)) &&& 21845) fun x2 => some ((x2 ||| ((x1 ||| x2) <<< ((1 : Int32) &&& 31))), h)
set_option maxRecDepth 100000 in
set_option maxHeartbeats 4000000 in
theorem T_X2_afterDay (F : Nat) (a0 : Int32) (h : Hp) : GM rvI I_X2_afterDay 1 [.int a0] h (f_X2_afterDay F a0 h) := by
  delta f_X2_afterDay
  refine GM_of (lv := [(0, .int a0)]) (by decide +kernel) (Nat.le_of_ble_eq_true rfl) rfl ?_
  refine g_iload_n 0 dX2_afterDay_0 rfl ?_
  refine g_sipush (v := 21845) dX2_afterDay_1 (by decide) ?_
  refine g_iand dX2_afterDay_4 ?_
  refine G_lti (fun x1 => ?_)
  refine g_istore_n (lv' := [(1, .int x1), (0, .int a0)]) dX2_afterDay_5 (by decide) rfl ?_
  refine g_iload_n 1 dX2_afterDay_6 rfl ?_
  refine g_iconst (v := 1) dX2_afterDay_7 (by decide) ?_
  refine g_ishr dX2_afterDay_8 ?_
  refine g_sipush (v := 21845) dX2_afterDay_9 (by decide) ?_
  refine g_iand dX2_afterDay_12 ?_
  refine G_lti (fun x2 => ?_)
  refine g_istore_n (lv' := [(2, .int x2), (1, .int x1), (0, .int a0)]) dX2_afterDay_13 (by decide) rfl ?_
  refine g_iload_n 0 dX2_afterDay_14 rfl ?_
  refine g_iload_n 1 dX2_afterDay_15 rfl ?_
  refine g_iload_n 0 dX2_afterDay_16 rfl ?_
  refine g_ior dX2_afterDay_17 ?_
  refine g_iconst (v := 1) dX2_afterDay_18 (by decide) ?_
  refine g_ishl dX2_afterDay_19 ?_
  refine g_ior dX2_afterDay_20 ?_
  exact g_iret rfl dX2_afterDay_21
set_option maxRecDepth 100000 in
noncomputable def f_X2_caseOf (F : Nat) (a0 : Int32) (a1 : Int32) (a2 : Int32) (a3 : Int32) (h : Hp) : Option (Int32 × Hp) :=
  some (((a0 * 200) + (((((a1 * 5) + a2) * 5) + a3) * 4)), h)
set_option maxRecDepth 100000 in
set_option maxHeartbeats 4000000 in
theorem T_X2_caseOf (F : Nat) (a0 : Int32) (a1 : Int32) (a2 : Int32) (a3 : Int32) (h : Hp) : GM rvI I_X2_caseOf 1 [.int a0, .int a1, .int a2, .int a3] h (f_X2_caseOf F a0 a1 a2 a3 h) := by
  delta f_X2_caseOf
  refine GM_of (lv := [(0, .int a0), (1, .int a1), (2, .int a2), (3, .int a3)]) (by decide +kernel) (Nat.le_of_ble_eq_true rfl) rfl ?_
  refine g_iload_n 0 dX2_caseOf_0 rfl ?_
  refine g_sipush (v := 200) dX2_caseOf_1 (by decide) ?_
  refine g_imul dX2_caseOf_4 ?_
  refine g_iload_n 1 dX2_caseOf_5 rfl ?_
  refine g_iconst (v := 5) dX2_caseOf_6 (by decide) ?_
  refine g_imul dX2_caseOf_7 ?_
  refine g_iload_n 2 dX2_caseOf_8 rfl ?_
  refine g_iadd dX2_caseOf_9 ?_
  refine g_iconst (v := 5) dX2_caseOf_10 (by decide) ?_
  refine g_imul dX2_caseOf_11 ?_
  refine g_iload_n 3 dX2_caseOf_12 rfl ?_
  refine g_iadd dX2_caseOf_13 ?_
  refine g_iconst (v := 4) dX2_caseOf_14 (by decide) ?_
  refine g_imul dX2_caseOf_15 ?_
  refine g_iadd dX2_caseOf_16 ?_
  exact g_iret rfl dX2_caseOf_17
set_option maxRecDepth 100000 in
noncomputable def f_X2_knownTo (F : Nat) (a0 : Int32) (a1 : Int32) (h : Hp) : Option (Int32 × Hp) :=
  lt ((a0 >>> ((2 * a1) &&& 31)) &&& 13107) fun x1 => lt ((x1 ||| (x1 >>> ((1 : Int32) &&& 31))) &&& 4369) fun x2 => some ((((x2 * 4369) >>> ((12 : Int32) &&& 31)) &&& 7), h)
set_option maxRecDepth 100000 in
set_option maxHeartbeats 4000000 in
theorem T_X2_knownTo (F : Nat) (a0 : Int32) (a1 : Int32) (h : Hp) : GM rvI I_X2_knownTo 1 [.int a0, .int a1] h (f_X2_knownTo F a0 a1 h) := by
  delta f_X2_knownTo
  refine GM_of (lv := [(0, .int a0), (1, .int a1)]) (by decide +kernel) (Nat.le_of_ble_eq_true rfl) rfl ?_
  refine g_iload_n 0 dX2_knownTo_0 rfl ?_
  refine g_iconst (v := 2) dX2_knownTo_1 (by decide) ?_
  refine g_iload_n 1 dX2_knownTo_2 rfl ?_
  refine g_imul dX2_knownTo_3 ?_
  refine g_ishr dX2_knownTo_4 ?_
  refine g_sipush (v := 13107) dX2_knownTo_5 (by decide) ?_
  refine g_iand dX2_knownTo_8 ?_
  refine G_lti (fun x1 => ?_)
  refine g_istore_n (lv' := [(2, .int x1), (0, .int a0), (1, .int a1)]) dX2_knownTo_9 (by decide) rfl ?_
  refine g_iload_n 0 dX2_knownTo_10 rfl ?_
  refine g_iload_n 0 dX2_knownTo_11 rfl ?_
  refine g_iconst (v := 1) dX2_knownTo_12 (by decide) ?_
  refine g_ishr dX2_knownTo_13 ?_
  refine g_ior dX2_knownTo_14 ?_
  refine g_sipush (v := 4369) dX2_knownTo_15 (by decide) ?_
  refine g_iand dX2_knownTo_18 ?_
  refine G_lti (fun x2 => ?_)
  refine g_istore_n (lv' := [(3, .int x2), (2, .int x1), (0, .int a0), (1, .int a1)]) dX2_knownTo_19 (by decide) rfl ?_
  refine g_iload_n 0 dX2_knownTo_20 rfl ?_
  refine g_sipush (v := 4369) dX2_knownTo_21 (by decide) ?_
  refine g_imul dX2_knownTo_24 ?_
  refine g_bipush (v := 12) dX2_knownTo_25 (by decide) ?_
  refine g_ishr dX2_knownTo_27 ?_
  refine g_bipush (v := 7) dX2_knownTo_28 (by decide) ?_
  refine g_iand dX2_knownTo_30 ?_
  exact g_iret rfl dX2_knownTo_31
set_option maxRecDepth 100000 in
noncomputable def f_X2_caseAt (F : Nat) (a0 : Nat) (a1 : Int32) (a2 : Int32) (a3 : Int32) (h : Hp) : Option (Int32 × Hp) :=
  bd (f_X2_knownTo F a1 a3 h) fun v1 h2 => bd (f_X2_knownTo F a1 (1 - a3) h2) fun v3 h4 => bd (f_X2_caseOf F a2 a3 v1 v3 h4) fun v5 h6 => some (v5, h6)
set_option maxRecDepth 100000 in
set_option maxHeartbeats 4000000 in
theorem T_X2_caseAt (F : Nat) (a0 : Nat) (a1 : Int32) (a2 : Int32) (a3 : Int32) (h : Hp) : GM rvI I_X2_caseAt 2 [.ref a0, .int a1, .int a2, .int a3] h (f_X2_caseAt F a0 a1 a2 a3 h) := by
  delta f_X2_caseAt
  refine GM_of (lv := [(0, .ref a0), (1, .int a1), (2, .int a2), (3, .int a3)]) (by decide +kernel) (Nat.le_of_ble_eq_true rfl) rfl ?_
  refine g_iload_n 2 dX2_caseAt_0 rfl ?_
  refine g_iload_n 3 dX2_caseAt_1 rfl ?_
  refine g_iload_n 1 dX2_caseAt_2 rfl ?_
  refine g_iload_n 3 dX2_caseAt_3 rfl ?_
  refine g_callSi (J := I_X2_knownTo) (As := [.int a1, .int a3]) (rest := [.int a3, .int a2]) mjs_X2_knownTo ml_RX2_57 (by decide) rfl rfl (Nat.le_of_ble_eq_true rfl) dX2_caseAt_4 (T_X2_knownTo F a1 a3 h) (fun v1 h2 => ?_)
  refine g_iload_n 1 dX2_caseAt_7 rfl ?_
  refine g_iconst (v := 1) dX2_caseAt_8 (by decide) ?_
  refine g_iload_n 3 dX2_caseAt_9 rfl ?_
  refine g_isub dX2_caseAt_10 ?_
  refine g_callSi (J := I_X2_knownTo) (As := [.int a1, .int (1 - a3)]) (rest := [.int v1, .int a3, .int a2]) mjs_X2_knownTo ml_RX2_57 (by decide) rfl rfl (Nat.le_of_ble_eq_true rfl) dX2_caseAt_11 (T_X2_knownTo F a1 (1 - a3) h2) (fun v3 h4 => ?_)
  refine g_callSi (J := I_X2_caseOf) (As := [.int a2, .int a3, .int v1, .int v3]) (rest := []) mjs_X2_caseOf ml_RX2_60 (by decide) rfl rfl (Nat.le_of_ble_eq_true rfl) dX2_caseAt_14 (T_X2_caseOf F a2 a3 v1 v3 h4) (fun v5 h6 => ?_)
  exact g_iret rfl dX2_caseAt_17
set_option maxRecDepth 100000 in
noncomputable def f_X7_open_84 (F : Nat) (K8 : Nat → Int32 → Int32 → Int32 → Hp → Option (Unit × Hp)) (l0 : Nat) (l1 : Int32) (l2 : Int32) (l3 : Int32) (h : Hp) : Option (Unit × Hp) :=
  K8 l0 l1 l2 (l3 + 1) h
set_option maxRecDepth 100000 in
set_option maxHeartbeats 4000000 in
theorem T_X7_open_84 (F : Nat) {K8 : Nat → Int32 → Int32 → Int32 → Hp → Option (Unit × Hp)} (hK8 : ∀ (l0 : Nat) (l1 : Int32) (l2 : Int32) (l3 : Int32) (h : Hp), G rvV I_X7_open 3 8 [(0, .ref l0), (1, .int l1), (2, .int l2), (3, .int l3)] [] h (K8 l0 l1 l2 l3 h)) (l0 : Nat) (l1 : Int32) (l2 : Int32) (l3 : Int32) (h : Hp) : G rvV I_X7_open 3 84 [(0, .ref l0), (1, .int l1), (2, .int l2), (3, .int l3)] [] h (f_X7_open_84 F K8 l0 l1 l2 l3 h) := by
  delta f_X7_open_84
  refine g_iinc (v' := l3 + 1) (lv' := [(3, .int (l3 + 1)), (0, .ref l0), (1, .int l1), (2, .int l2)]) 3 dX7_open_84 rfl rfl (by decide) rfl ?_
  refine g_goto (tgt := 8) dX7_open_87 (by decide) ?_
  refine G_lv [1, 2, 3, 0] rfl ?_
  exact hK8 l0 l1 l2 (l3 + 1) h
set_option maxRecDepth 100000 in
noncomputable def f_X7_open_78 (F : Nat) (K8 : Nat → Int32 → Int32 → Int32 → Hp → Option (Unit × Hp)) (K31 : Nat → Int32 → Int32 → Int32 → Int32 → Int32 → Hp → Option (Unit × Hp)) (l0 : Nat) (l1 : Int32) (l2 : Int32) (l3 : Int32) (l4 : Int32) (l5 : Int32) (h : Hp) : Option (Unit × Hp) :=
  K31 l0 l1 l2 l3 l4 (l5 + 1) h
set_option maxRecDepth 100000 in
set_option maxHeartbeats 4000000 in
theorem T_X7_open_78 (F : Nat) {K8 : Nat → Int32 → Int32 → Int32 → Hp → Option (Unit × Hp)} (hK8 : ∀ (l0 : Nat) (l1 : Int32) (l2 : Int32) (l3 : Int32) (h : Hp), G rvV I_X7_open 3 8 [(0, .ref l0), (1, .int l1), (2, .int l2), (3, .int l3)] [] h (K8 l0 l1 l2 l3 h)) {K31 : Nat → Int32 → Int32 → Int32 → Int32 → Int32 → Hp → Option (Unit × Hp)} (hK31 : ∀ (l0 : Nat) (l1 : Int32) (l2 : Int32) (l3 : Int32) (l4 : Int32) (l5 : Int32) (h : Hp), G rvV I_X7_open 3 31 [(0, .ref l0), (1, .int l1), (2, .int l2), (3, .int l3), (4, .int l4), (5, .int l5)] [] h (K31 l0 l1 l2 l3 l4 l5 h)) (l0 : Nat) (l1 : Int32) (l2 : Int32) (l3 : Int32) (l4 : Int32) (l5 : Int32) (h : Hp) : G rvV I_X7_open 3 78 [(0, .ref l0), (1, .int l1), (2, .int l2), (3, .int l3), (4, .int l4), (5, .int l5)] [] h (f_X7_open_78 F K8 K31 l0 l1 l2 l3 l4 l5 h) := by
  delta f_X7_open_78
  refine g_iinc (v' := l5 + 1) (lv' := [(5, .int (l5 + 1)), (0, .ref l0), (1, .int l1), (2, .int l2), (3, .int l3), (4, .int l4)]) 5 dX7_open_78 rfl rfl (by decide) rfl ?_
  refine g_goto (tgt := 31) dX7_open_81 (by decide) ?_
  refine G_lv [1, 2, 3, 4, 5, 0] rfl ?_
  exact hK31 l0 l1 l2 l3 l4 (l5 + 1) h
set_option maxRecDepth 100000 in
noncomputable def f_X7_open_31_b (F : Nat) (K8 : Nat → Int32 → Int32 → Int32 → Hp → Option (Unit × Hp)) (K31 : Nat → Int32 → Int32 → Int32 → Int32 → Int32 → Hp → Option (Unit × Hp)) (l0 : Nat) (l1 : Int32) (l2 : Int32) (l3 : Int32) (l4 : Int32) (l5 : Int32) (h : Hp) : Option (Unit × Hp) :=
  gR 8 h l0 4 fun v12 => gI 3 h v12 0 fun v13 => if v13 ≤ l5 then (f_X7_open_84 F K8 l0 l1 l2 l3 h) else (gI 8 h l0 7 fun v15 => if l3 = v15 then (f_X7_open_84 F K8 l0 l1 l2 l3 h) else (gI 8 h l0 8 fun v17 => if l5 = v17 then (f_X7_open_78 F K8 K31 l0 l1 l2 l3 l4 l5 h) else (gR 8 h l0 4 fun v19 => cV 3 h v19 (f_X2_afterCase F v19 l2 l4 l3 l5 h) fun v20 h21 => cV 8 h21 l0 (f_X7_add F l0 l1 v20 h21) fun v22 h23 => f_X7_open_78 F K8 K31 l0 l1 l2 l3 l4 l5 h23)))
set_option maxRecDepth 100000 in
set_option maxHeartbeats 4000000 in
theorem T_X7_open_31_b (F : Nat) {K8 : Nat → Int32 → Int32 → Int32 → Hp → Option (Unit × Hp)} (hK8 : ∀ (l0 : Nat) (l1 : Int32) (l2 : Int32) (l3 : Int32) (h : Hp), G rvV I_X7_open 3 8 [(0, .ref l0), (1, .int l1), (2, .int l2), (3, .int l3)] [] h (K8 l0 l1 l2 l3 h)) {K31 : Nat → Int32 → Int32 → Int32 → Int32 → Int32 → Hp → Option (Unit × Hp)} (hK31 : ∀ (l0 : Nat) (l1 : Int32) (l2 : Int32) (l3 : Int32) (l4 : Int32) (l5 : Int32) (h : Hp), G rvV I_X7_open 3 31 [(0, .ref l0), (1, .int l1), (2, .int l2), (3, .int l3), (4, .int l4), (5, .int l5)] [] h (K31 l0 l1 l2 l3 l4 l5 h)) (l0 : Nat) (l1 : Int32) (l2 : Int32) (l3 : Int32) (l4 : Int32) (l5 : Int32) (h : Hp) : G rvV I_X7_open 3 31 [(0, .ref l0), (1, .int l1), (2, .int l2), (3, .int l3), (4, .int l4), (5, .int l5)] [] h (f_X7_open_31_b F K8 K31 l0 l1 l2 l3 l4 l5 h) := by
  delta f_X7_open_31_b
  refine g_iload 5 dX7_open_31 rfl ?_
  refine g_aload_n 0 dX7_open_33 rfl ?_
  refine g_getR fl_RX7_18 rfl dX7_open_34 (fun v12 => ?_)
  refine g_getI fl_RX7_78 rfl dX7_open_37 (fun v13 => ?_)
  refine g_icmp_ge (tgt := 84) dX7_open_40 (by decide) (fun c14 => ?_) (fun c14 => ?_)
  · refine G_lv [0, 1, 2, 3] rfl ?_
    exact T_X7_open_84 F hK8 l0 l1 l2 l3 h
  · refine g_iload_n 3 dX7_open_43 rfl ?_
    refine g_aload_n 0 dX7_open_44 rfl ?_
    refine g_getI fl_RX7_47 rfl dX7_open_45 (fun v15 => ?_)
    refine g_icmp_eq (tgt := 84) dX7_open_48 (by decide) (fun c16 => ?_) (fun c16 => ?_)
    · refine G_lv [0, 1, 2, 3] rfl ?_
      exact T_X7_open_84 F hK8 l0 l1 l2 l3 h
    · refine g_iload 5 dX7_open_51 rfl ?_
      refine g_aload_n 0 dX7_open_53 rfl ?_
      refine g_getI fl_RX7_50 rfl dX7_open_54 (fun v17 => ?_)
      refine g_icmp_eq (tgt := 78) dX7_open_57 (by decide) (fun c18 => ?_) (fun c18 => ?_)
      · refine G_lv [0, 1, 2, 3, 4, 5] rfl ?_
        exact T_X7_open_78 F hK8 hK31 l0 l1 l2 l3 l4 l5 h
      · refine g_aload_n 0 dX7_open_60 rfl ?_
        refine g_iload_n 1 dX7_open_61 rfl ?_
        refine g_aload_n 0 dX7_open_62 rfl ?_
        refine g_getR fl_RX7_18 rfl dX7_open_63 (fun v19 => ?_)
        refine g_iload_n 2 dX7_open_66 rfl ?_
        refine g_iload 4 dX7_open_67 rfl ?_
        refine g_iload_n 3 dX7_open_69 rfl ?_
        refine g_iload 5 dX7_open_70 rfl ?_
        refine g_callVi (J := I_X2_afterCase) (t := 3) (As := [.int l2, .int l4, .int l3, .int l5]) (rest := [.int l1, .ref l0]) mjv_X2_afterCase ml_RX7_81 ⟨rfl, by decide, by decide⟩ (by decide) rfl rfl (Nat.le_of_ble_eq_true rfl) dX7_open_72 (T_X2_afterCase F v19 l2 l4 l3 l5 h) (fun v20 h21 => ?_)
        refine g_callVv (J := I_X7_add) (t := 8) (As := [.int l1, .int v20]) (rest := []) mjv_X7_add ml_RX7_57 ⟨rfl, by decide, by decide⟩ (by decide) rfl rfl (Nat.le_of_ble_eq_true rfl) dX7_open_75 (T_X7_add F l0 l1 v20 h21) (fun v22 h23 => ?_)
        refine G_lv [0, 1, 2, 3, 4, 5] rfl ?_
        exact T_X7_open_78 F hK8 hK31 l0 l1 l2 l3 l4 l5 h23
set_option maxRecDepth 100000 in
noncomputable def f_X7_open_31 (F : Nat) (K8 : Nat → Int32 → Int32 → Int32 → Hp → Option (Unit × Hp)) : Nat → Nat → Int32 → Int32 → Int32 → Int32 → Int32 → Hp → Option (Unit × Hp)
  | 0, _, _, _, _, _, _, _ => none
  | n + 1, l0, l1, l2, l3, l4, l5, h => f_X7_open_31_b F K8 (f_X7_open_31 F K8 n) l0 l1 l2 l3 l4 l5 h
set_option maxRecDepth 100000 in
set_option maxHeartbeats 4000000 in
theorem T_X7_open_31 (F : Nat) {K8 : Nat → Int32 → Int32 → Int32 → Hp → Option (Unit × Hp)} (hK8 : ∀ (l0 : Nat) (l1 : Int32) (l2 : Int32) (l3 : Int32) (h : Hp), G rvV I_X7_open 3 8 [(0, .ref l0), (1, .int l1), (2, .int l2), (3, .int l3)] [] h (K8 l0 l1 l2 l3 h)) : ∀ (n : Nat) (l0 : Nat) (l1 : Int32) (l2 : Int32) (l3 : Int32) (l4 : Int32) (l5 : Int32) (h : Hp), G rvV I_X7_open 3 31 [(0, .ref l0), (1, .int l1), (2, .int l2), (3, .int l3), (4, .int l4), (5, .int l5)] [] h (f_X7_open_31 F K8 n l0 l1 l2 l3 l4 l5 h) := by
  intro n
  induction n with
  | zero => intros; exact G_none
  | succ n ih => intro l0 l1 l2 l3 l4 l5 h; exact T_X7_open_31_b F hK8 ih l0 l1 l2 l3 l4 l5 h
set_option maxRecDepth 100000 in
noncomputable def f_X7_open_8_b (F : Nat) (K8 : Nat → Int32 → Int32 → Int32 → Hp → Option (Unit × Hp)) (l0 : Nat) (l1 : Int32) (l2 : Int32) (l3 : Int32) (h : Hp) : Option (Unit × Hp) :=
  if 2 ≤ l3 then (bd (f_X2_afterDay F l2 h) fun v4 h5 => cV 8 h5 l0 (f_X7_add F l0 l1 v4 h5) fun v6 h7 => some ((), h7)) else (gR 8 h l0 4 fun v8 => gI 8 h l0 6 fun v9 => cV 3 h v8 (f_X2_caseAt F v8 l2 v9 l3 h) fun v10 h11 => f_X7_open_31 F K8 F l0 l1 l2 l3 v10 0 h11)
set_option maxRecDepth 100000 in
set_option maxHeartbeats 4000000 in
theorem T_X7_open_8_b (F : Nat) {K8 : Nat → Int32 → Int32 → Int32 → Hp → Option (Unit × Hp)} (hK8 : ∀ (l0 : Nat) (l1 : Int32) (l2 : Int32) (l3 : Int32) (h : Hp), G rvV I_X7_open 3 8 [(0, .ref l0), (1, .int l1), (2, .int l2), (3, .int l3)] [] h (K8 l0 l1 l2 l3 h)) (l0 : Nat) (l1 : Int32) (l2 : Int32) (l3 : Int32) (h : Hp) : G rvV I_X7_open 3 8 [(0, .ref l0), (1, .int l1), (2, .int l2), (3, .int l3)] [] h (f_X7_open_8_b F K8 l0 l1 l2 l3 h) := by
  delta f_X7_open_8_b
  refine g_iload_n 3 dX7_open_8 rfl ?_
  refine g_iconst (v := 2) dX7_open_9 (by decide) ?_
  refine g_icmp_ge (tgt := 90) dX7_open_10 (by decide) (fun c3 => ?_) (fun c3 => ?_)
  · refine g_aload_n 0 dX7_open_90 rfl ?_
    refine g_iload_n 1 dX7_open_91 rfl ?_
    refine g_iload_n 2 dX7_open_92 rfl ?_
    refine g_callSi (J := I_X2_afterDay) (As := [.int l2]) (rest := [.int l1, .ref l0]) mjs_X2_afterDay ml_RX7_85 (by decide) rfl rfl (Nat.le_of_ble_eq_true rfl) dX7_open_93 (T_X2_afterDay F l2 h) (fun v4 h5 => ?_)
    refine g_callVv (J := I_X7_add) (t := 8) (As := [.int l1, .int v4]) (rest := []) mjv_X7_add ml_RX7_57 ⟨rfl, by decide, by decide⟩ (by decide) rfl rfl (Nat.le_of_ble_eq_true rfl) dX7_open_96 (T_X7_add F l0 l1 v4 h5) (fun v6 h7 => ?_)
    exact g_vret rfl dX7_open_99
  · refine g_aload_n 0 dX7_open_13 rfl ?_
    refine g_getR fl_RX7_18 rfl dX7_open_14 (fun v8 => ?_)
    refine g_iload_n 2 dX7_open_17 rfl ?_
    refine g_aload_n 0 dX7_open_18 rfl ?_
    refine g_getI fl_RX7_43 rfl dX7_open_19 (fun v9 => ?_)
    refine g_iload_n 3 dX7_open_22 rfl ?_
    refine g_callVi (J := I_X2_caseAt) (t := 3) (As := [.int l2, .int v9, .int l3]) (rest := []) mjv_X2_caseAt ml_RX7_74 ⟨rfl, by decide, by decide⟩ (by decide) rfl rfl (Nat.le_of_ble_eq_true rfl) dX7_open_23 (T_X2_caseAt F v8 l2 v9 l3 h) (fun v10 h11 => ?_)
    refine g_istore (lv' := [(4, .int v10), (0, .ref l0), (1, .int l1), (2, .int l2), (3, .int l3)]) dX7_open_26 (by decide) rfl ?_
    refine g_iconst (v := 0) dX7_open_28 (by decide) ?_
    refine g_istore (lv' := [(5, .int 0), (4, .int v10), (0, .ref l0), (1, .int l1), (2, .int l2), (3, .int l3)]) dX7_open_29 (by decide) rfl ?_
    refine G_lv [2, 3, 4, 5, 1, 0] rfl ?_
    exact T_X7_open_31 F hK8 F l0 l1 l2 l3 v10 0 h11
set_option maxRecDepth 100000 in
noncomputable def f_X7_open_8 (F : Nat) : Nat → Nat → Int32 → Int32 → Int32 → Hp → Option (Unit × Hp)
  | 0, _, _, _, _, _ => none
  | n + 1, l0, l1, l2, l3, h => f_X7_open_8_b F (f_X7_open_8 F n) l0 l1 l2 l3 h
set_option maxRecDepth 100000 in
set_option maxHeartbeats 4000000 in
theorem T_X7_open_8 (F : Nat) : ∀ (n : Nat) (l0 : Nat) (l1 : Int32) (l2 : Int32) (l3 : Int32) (h : Hp), G rvV I_X7_open 3 8 [(0, .ref l0), (1, .int l1), (2, .int l2), (3, .int l3)] [] h (f_X7_open_8 F n l0 l1 l2 l3 h) := by
  intro n
  induction n with
  | zero => intros; exact G_none
  | succ n ih => intro l0 l1 l2 l3 h; exact T_X7_open_8_b F ih l0 l1 l2 l3 h
set_option maxRecDepth 100000 in
noncomputable def f_X7_open (F : Nat) (a0 : Nat) (a1 : Int32) (h : Hp) : Option (Unit × Hp) :=
  cV 8 h a0 (f_X7_agesOf F a0 a1 h) fun v1 h2 => f_X7_open_8 F F a0 a1 v1 0 h2
set_option maxRecDepth 100000 in
set_option maxHeartbeats 4000000 in
theorem T_X7_open (F : Nat) (a0 : Nat) (a1 : Int32) (h : Hp) : GM rvV I_X7_open 3 [.ref a0, .int a1] h (f_X7_open F a0 a1 h) := by
  delta f_X7_open
  refine GM_of (lv := [(0, .ref a0), (1, .int a1)]) (by decide +kernel) (Nat.le_of_ble_eq_true rfl) rfl ?_
  refine g_aload_n 0 dX7_open_0 rfl ?_
  refine g_iload_n 1 dX7_open_1 rfl ?_
  refine g_callVi (J := I_X7_agesOf) (t := 8) (As := [.int a1]) (rest := []) mjv_X7_agesOf ml_RX7_70 ⟨rfl, by decide, by decide⟩ (by decide) rfl rfl (Nat.le_of_ble_eq_true rfl) dX7_open_2 (T_X7_agesOf F a0 a1 h) (fun v1 h2 => ?_)
  refine g_istore_n (lv' := [(2, .int v1), (0, .ref a0), (1, .int a1)]) dX7_open_5 (by decide) rfl ?_
  refine g_iconst (v := 0) dX7_open_6 (by decide) ?_
  refine g_istore_n (lv' := [(3, .int 0), (2, .int v1), (0, .ref a0), (1, .int a1)]) dX7_open_7 (by decide) rfl ?_
  refine G_lv [2, 3, 1, 0] rfl ?_
  exact T_X7_open_8 F F a0 a1 v1 0 h2
set_option maxRecDepth 100000 in
noncomputable def f_X7_finds_52 (F : Nat) (l0 : Nat) (l1 : Int32) (h : Hp) : Option (Int32 × Hp) :=
  gI 8 h l0 2 fun v5 => if v5 ≤ l1 then (some (0, h)) else (some (1, h))
set_option maxRecDepth 100000 in
set_option maxHeartbeats 4000000 in
theorem T_X7_finds_52 (F : Nat) (l0 : Nat) (l1 : Int32) (h : Hp) : G rvI I_X7_finds 4 52 [(0, .ref l0), (1, .int l1)] [] h (f_X7_finds_52 F l0 l1 h) := by
  delta f_X7_finds_52
  refine g_iload_n 1 dX7_finds_52 rfl ?_
  refine g_aload_n 0 dX7_finds_53 rfl ?_
  refine g_getI fl_RX7_28 rfl dX7_finds_54 (fun v5 => ?_)
  refine g_icmp_ge (tgt := 64) dX7_finds_57 (by decide) (fun c6 => ?_) (fun c6 => ?_)
  · refine g_iconst (v := 0) dX7_finds_64 (by decide) ?_
    exact g_zret (ty := .boolean) rfl rfl dX7_finds_65
  · refine g_iconst (v := 1) dX7_finds_60 (by decide) ?_
    refine g_goto (tgt := 65) dX7_finds_61 (by decide) ?_
    exact g_zret (ty := .boolean) rfl rfl dX7_finds_65
set_option maxRecDepth 100000 in
noncomputable def f_X7_finds_0_b (F : Nat) (K0 : Nat → Int32 → Hp → Option (Int32 × Hp)) (l0 : Nat) (l1 : Int32) (h : Hp) : Option (Int32 × Hp) :=
  gI 8 h l0 3 fun v1 => gR 8 h l0 0 fun v2 => al 20 h v2 fun v3 => if v3 ≤ v1 then (f_X7_finds_52 F l0 l1 h) else (gI 8 h l0 3 fun v7 => gI 8 h l0 2 fun v8 => if v8 ≤ v7 then (f_X7_finds_52 F l0 l1 h) else (gI 8 h l0 2 fun v10 => if l1 < v10 then (f_X7_finds_52 F l0 l1 h) else (gI 8 h l0 3 fun v12 => cV 8 h l0 (f_X7_open F l0 v12 h) fun v13 h14 => gI 8 h14 l0 3 fun v15 => pI 8 h14 l0 3 (v15 + 1) fun h16 => K0 l0 l1 h16)))
set_option maxRecDepth 100000 in
set_option maxHeartbeats 4000000 in
theorem T_X7_finds_0_b (F : Nat) {K0 : Nat → Int32 → Hp → Option (Int32 × Hp)} (hK0 : ∀ (l0 : Nat) (l1 : Int32) (h : Hp), G rvI I_X7_finds 4 0 [(0, .ref l0), (1, .int l1)] [] h (K0 l0 l1 h)) (l0 : Nat) (l1 : Int32) (h : Hp) : G rvI I_X7_finds 4 0 [(0, .ref l0), (1, .int l1)] [] h (f_X7_finds_0_b F K0 l0 l1 h) := by
  delta f_X7_finds_0_b
  refine g_aload_n 0 dX7_finds_0 rfl ?_
  refine g_getI fl_RX7_32 rfl dX7_finds_1 (fun v1 => ?_)
  refine g_aload_n 0 dX7_finds_4 rfl ?_
  refine g_getR fl_RX7_9 rfl dX7_finds_5 (fun v2 => ?_)
  refine g_alen (by decide) (by decide) dX7_finds_8 (fun v3 => ?_)
  refine g_icmp_ge (tgt := 52) dX7_finds_9 (by decide) (fun c4 => ?_) (fun c4 => ?_)
  · refine G_lv [0, 1] rfl ?_
    exact T_X7_finds_52 F l0 l1 h
  · refine g_aload_n 0 dX7_finds_12 rfl ?_
    refine g_getI fl_RX7_32 rfl dX7_finds_13 (fun v7 => ?_)
    refine g_aload_n 0 dX7_finds_16 rfl ?_
    refine g_getI fl_RX7_28 rfl dX7_finds_17 (fun v8 => ?_)
    refine g_icmp_ge (tgt := 52) dX7_finds_20 (by decide) (fun c9 => ?_) (fun c9 => ?_)
    · refine G_lv [0, 1] rfl ?_
      exact T_X7_finds_52 F l0 l1 h
    · refine g_aload_n 0 dX7_finds_23 rfl ?_
      refine g_getI fl_RX7_28 rfl dX7_finds_24 (fun v10 => ?_)
      refine g_iload_n 1 dX7_finds_27 rfl ?_
      refine g_icmp_gt (tgt := 52) dX7_finds_28 (by decide) (fun c11 => ?_) (fun c11 => ?_)
      · refine G_lv [0, 1] rfl ?_
        exact T_X7_finds_52 F l0 l1 h
      · refine g_aload_n 0 dX7_finds_31 rfl ?_
        refine g_aload_n 0 dX7_finds_32 rfl ?_
        refine g_getI fl_RX7_32 rfl dX7_finds_33 (fun v12 => ?_)
        refine g_callVv (J := I_X7_open) (t := 8) (As := [.int v12]) (rest := []) mjv_X7_open ml_RX7_88 ⟨rfl, by decide, by decide⟩ (by decide) rfl rfl (Nat.le_of_ble_eq_true rfl) dX7_finds_36 (T_X7_open F l0 v12 h) (fun v13 h14 => ?_)
        refine g_aload_n 0 dX7_finds_39 rfl ?_
        refine g_dup dX7_finds_40 rfl ?_
        refine g_getI fl_RX7_32 rfl dX7_finds_41 (fun v15 => ?_)
        refine g_iconst (v := 1) dX7_finds_44 (by decide) ?_
        refine g_iadd dX7_finds_45 ?_
        refine g_putI fl_RX7_32 (Or.inl rfl) dX7_finds_46 (fun h16 => ?_)
        refine g_goto (tgt := 0) dX7_finds_49 (by decide) ?_
        refine G_lv [0, 1] rfl ?_
        exact hK0 l0 l1 h16
set_option maxRecDepth 100000 in
noncomputable def f_X7_finds_0 (F : Nat) : Nat → Nat → Int32 → Hp → Option (Int32 × Hp)
  | 0, _, _, _ => none
  | n + 1, l0, l1, h => f_X7_finds_0_b F (f_X7_finds_0 F n) l0 l1 h
set_option maxRecDepth 100000 in
set_option maxHeartbeats 4000000 in
theorem T_X7_finds_0 (F : Nat) : ∀ (n : Nat) (l0 : Nat) (l1 : Int32) (h : Hp), G rvI I_X7_finds 4 0 [(0, .ref l0), (1, .int l1)] [] h (f_X7_finds_0 F n l0 l1 h) := by
  intro n
  induction n with
  | zero => intros; exact G_none
  | succ n ih => intro l0 l1 h; exact T_X7_finds_0_b F ih l0 l1 h
set_option maxRecDepth 100000 in
noncomputable def f_X7_finds (F : Nat) (a0 : Nat) (a1 : Int32) (h : Hp) : Option (Int32 × Hp) :=
  f_X7_finds_0 F F a0 a1 h
set_option maxRecDepth 100000 in
set_option maxHeartbeats 4000000 in
theorem T_X7_finds (F : Nat) (a0 : Nat) (a1 : Int32) (h : Hp) : GM rvI I_X7_finds 4 [.ref a0, .int a1] h (f_X7_finds F a0 a1 h) := by
  delta f_X7_finds
  refine GM_of (lv := [(0, .ref a0), (1, .int a1)]) (by decide +kernel) (Nat.le_of_ble_eq_true rfl) rfl ?_
  refine G_lv [0, 1] rfl ?_
  exact T_X7_finds_0 F F a0 a1 h
