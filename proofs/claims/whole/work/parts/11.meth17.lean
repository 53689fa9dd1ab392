/-! L2, by program (wip/whole/gen/gen.py) -/
set_option maxRecDepth 100000 in
noncomputable def f_X12_keeps_2_b (F : Nat) (K2 : Nat → Int32 → Hp → Option (Unit × Hp)) (l0 : Nat) (l1 : Int32) (h : Hp) : Option (Unit × Hp) :=
  if 9 ≤ l1 then (some ((), h)) else (gR 13 h l0 18 fun v2 => gR 13 h l0 1 fun v3 => aI 20 h v3 (43 + l1) fun v4 => wI h v2 l1 v4 fun h5 => K2 l0 (l1 + 1) h5)
set_option maxRecDepth 100000 in
set_option maxHeartbeats 4000000 in
theorem T_X12_keeps_2_b (F : Nat) {K2 : Nat → Int32 → Hp → Option (Unit × Hp)} (hK2 : ∀ (l0 : Nat) (l1 : Int32) (h : Hp), G rvV I_X12_keeps 1 2 [(0, .ref l0), (1, .int l1)] [] h (K2 l0 l1 h)) (l0 : Nat) (l1 : Int32) (h : Hp) : G rvV I_X12_keeps 1 2 [(0, .ref l0), (1, .int l1)] [] h (f_X12_keeps_2_b F K2 l0 l1 h) := by
  delta f_X12_keeps_2_b
  refine g_iload_n 1 dX12_keeps_2 rfl ?_
  refine g_bipush (v := 9) dX12_keeps_3 (by decide) ?_
  refine g_icmp_ge (tgt := 29) dX12_keeps_5 (by decide) (fun c1 => ?_) (fun c1 => ?_)
  · exact g_vret rfl dX12_keeps_29
  · refine g_aload_n 0 dX12_keeps_8 rfl ?_
    refine g_getR fl_RX12_36 rfl dX12_keeps_9 (fun v2 => ?_)
    refine g_iload_n 1 dX12_keeps_12 rfl ?_
    refine g_aload_n 0 dX12_keeps_13 rfl ?_
    refine g_getR fl_RX12_13 rfl dX12_keeps_14 (fun v3 => ?_)
    refine g_bipush (v := 43) dX12_keeps_17 (by decide) ?_
    refine g_iload_n 1 dX12_keeps_19 rfl ?_
    refine g_iadd dX12_keeps_20 ?_
    refine g_iald dX12_keeps_21 (fun v4 => ?_)
    refine g_iast dX12_keeps_22 (fun h5 => ?_)
    refine g_iinc (v' := l1 + 1) (lv' := [(1, .int (l1 + 1)), (0, .ref l0)]) 1 dX12_keeps_23 rfl rfl (by decide) rfl ?_
    refine g_goto (tgt := 2) dX12_keeps_26 (by decide) ?_
    refine G_lv [1, 0] rfl ?_
    exact hK2 l0 (l1 + 1) h5
set_option maxRecDepth 100000 in
noncomputable def f_X12_keeps_2 (F : Nat) : Nat → Nat → Int32 → Hp → Option (Unit × Hp)
  | 0, _, _, _ => none
  | n + 1, l0, l1, h => f_X12_keeps_2_b F (f_X12_keeps_2 F n) l0 l1 h
set_option maxRecDepth 100000 in
set_option maxHeartbeats 4000000 in
theorem T_X12_keeps_2 (F : Nat) : ∀ (n : Nat) (l0 : Nat) (l1 : Int32) (h : Hp), G rvV I_X12_keeps 1 2 [(0, .ref l0), (1, .int l1)] [] h (f_X12_keeps_2 F n l0 l1 h) := by
  intro n
  induction n with
  | zero => intros; exact G_none
  | succ n ih => intro l0 l1 h; exact T_X12_keeps_2_b F ih l0 l1 h
set_option maxRecDepth 100000 in
noncomputable def f_X12_keeps (F : Nat) (a0 : Nat) (h : Hp) : Option (Unit × Hp) :=
  f_X12_keeps_2 F F a0 0 h
set_option maxRecDepth 100000 in
set_option maxHeartbeats 4000000 in
theorem T_X12_keeps (F : Nat) (a0 : Nat) (h : Hp) : GM rvV I_X12_keeps 1 [.ref a0] h (f_X12_keeps F a0 h) := by
  delta f_X12_keeps
  refine GM_of (lv := [(0, .ref a0)]) (by decide +kernel) (Nat.le_of_ble_eq_true rfl) rfl ?_
  refine g_iconst (v := 0) dX12_keeps_0 (by decide) ?_
  refine g_istore_n (lv' := [(1, .int 0), (0, .ref a0)]) dX12_keeps_1 (by decide) rfl ?_
  refine G_lv [1, 0] rfl ?_
  exact T_X12_keeps_2 F F a0 0 h
set_option maxRecDepth 100000 in
noncomputable def f_X12_isStand_2_b (F : Nat) (K2 : Nat → Int32 → Int32 → Hp → Option (Unit × Hp)) (l0 : Nat) (l1 : Int32) (l2 : Int32) (h : Hp) : Option (Unit × Hp) :=
  if 8 ≤ l2 then (some ((), h)) else (gR 13 h l0 1 fun v2 => wI h v2 (43 + l2) ((l1 >>> ((2 * l2) &&& 31)) &&& 3) fun h3 => K2 l0 l1 (l2 + 1) h3)
set_option maxRecDepth 100000 in
set_option maxHeartbeats 4000000 in
theorem T_X12_isStand_2_b (F : Nat) {K2 : Nat → Int32 → Int32 → Hp → Option (Unit × Hp)} (hK2 : ∀ (l0 : Nat) (l1 : Int32) (l2 : Int32) (h : Hp), G rvV I_X12_isStand 1 2 [(0, .ref l0), (1, .int l1), (2, .int l2)] [] h (K2 l0 l1 l2 h)) (l0 : Nat) (l1 : Int32) (l2 : Int32) (h : Hp) : G rvV I_X12_isStand 1 2 [(0, .ref l0), (1, .int l1), (2, .int l2)] [] h (f_X12_isStand_2_b F K2 l0 l1 l2 h) := by
  delta f_X12_isStand_2_b
  refine g_iload_n 2 dX12_isStand_2 rfl ?_
  refine g_bipush (v := 8) dX12_isStand_3 (by decide) ?_
  refine g_icmp_ge (tgt := 30) dX12_isStand_5 (by decide) (fun c1 => ?_) (fun c1 => ?_)
  · exact g_vret rfl dX12_isStand_30
  · refine g_aload_n 0 dX12_isStand_8 rfl ?_
    refine g_getR fl_RX12_13 rfl dX12_isStand_9 (fun v2 => ?_)
    refine g_bipush (v := 43) dX12_isStand_12 (by decide) ?_
    refine g_iload_n 2 dX12_isStand_14 rfl ?_
    refine g_iadd dX12_isStand_15 ?_
    refine g_iload_n 1 dX12_isStand_16 rfl ?_
    refine g_iconst (v := 2) dX12_isStand_17 (by decide) ?_
    refine g_iload_n 2 dX12_isStand_18 rfl ?_
    refine g_imul dX12_isStand_19 ?_
    refine g_ishr dX12_isStand_20 ?_
    refine g_iconst (v := 3) dX12_isStand_21 (by decide) ?_
    refine g_iand dX12_isStand_22 ?_
    refine g_iast dX12_isStand_23 (fun h3 => ?_)
    refine g_iinc (v' := l2 + 1) (lv' := [(2, .int (l2 + 1)), (0, .ref l0), (1, .int l1)]) 2 dX12_isStand_24 rfl rfl (by decide) rfl ?_
    refine g_goto (tgt := 2) dX12_isStand_27 (by decide) ?_
    refine G_lv [1, 2, 0] rfl ?_
    exact hK2 l0 l1 (l2 + 1) h3
set_option maxRecDepth 100000 in
noncomputable def f_X12_isStand_2 (F : Nat) : Nat → Nat → Int32 → Int32 → Hp → Option (Unit × Hp)
  | 0, _, _, _, _ => none
  | n + 1, l0, l1, l2, h => f_X12_isStand_2_b F (f_X12_isStand_2 F n) l0 l1 l2 h
set_option maxRecDepth 100000 in
set_option maxHeartbeats 4000000 in
theorem T_X12_isStand_2 (F : Nat) : ∀ (n : Nat) (l0 : Nat) (l1 : Int32) (l2 : Int32) (h : Hp), G rvV I_X12_isStand 1 2 [(0, .ref l0), (1, .int l1), (2, .int l2)] [] h (f_X12_isStand_2 F n l0 l1 l2 h) := by
  intro n
  induction n with
  | zero => intros; exact G_none
  | succ n ih => intro l0 l1 l2 h; exact T_X12_isStand_2_b F ih l0 l1 l2 h
set_option maxRecDepth 100000 in
noncomputable def f_X12_isStand (F : Nat) (a0 : Nat) (a1 : Int32) (h : Hp) : Option (Unit × Hp) :=
  f_X12_isStand_2 F F a0 a1 0 h
set_option maxRecDepth 100000 in
set_option maxHeartbeats 4000000 in
theorem T_X12_isStand (F : Nat) (a0 : Nat) (a1 : Int32) (h : Hp) : GM rvV I_X12_isStand 1 [.ref a0, .int a1] h (f_X12_isStand F a0 a1 h) := by
  delta f_X12_isStand
  refine GM_of (lv := [(0, .ref a0), (1, .int a1)]) (by decide +kernel) (Nat.le_of_ble_eq_true rfl) rfl ?_
  refine g_iconst (v := 0) dX12_isStand_0 (by decide) ?_
  refine g_istore_n (lv' := [(2, .int 0), (0, .ref a0), (1, .int a1)]) dX12_isStand_1 (by decide) rfl ?_
  refine G_lv [1, 2, 0] rfl ?_
  exact T_X12_isStand_2 F F a0 a1 0 h
set_option maxRecDepth 100000 in
noncomputable def f_X12_acts (F : Nat) (a0 : Nat) (a1 : Int32) (h : Hp) : Option (Unit × Hp) :=
  if a1 = (-1) then (cV 13 h a0 (f_X12_standNow F a0 h) fun v2 h3 => bd (f_X12_dayTo F v2 h3) fun v4 h5 => cV 13 h5 a0 (f_X12_isStand F a0 v4 h5) fun v6 h7 => some ((), h7)) else (if 20 ≤ a1 then (if 120 ≤ a1 then (gR 13 h a0 1 fun v10 => wI h v10 51 (a1 - 200) fun h11 => some ((), h11)) else (gR 13 h a0 1 fun v12 => wI h v12 ((43 + (4 * ((a1 - 100) / 10))) + (a1 - a1 / 10 * 10)) 0 fun h13 => some ((), h13))) else (cV 13 h a0 (f_X12_standNow F a0 h) fun v14 h15 => cV 13 h15 a0 (f_X12_toldTo F a0 v14 (a1 / 10) (a1 - a1 / 10 * 10) h15) fun v16 h17 => cV 13 h17 a0 (f_X12_isStand F a0 v16 h17) fun v18 h19 => some ((), h19)))
set_option maxRecDepth 100000 in
set_option maxHeartbeats 4000000 in
theorem T_X12_acts (F : Nat) (a0 : Nat) (a1 : Int32) (h : Hp) : GM rvV I_X12_acts 6 [.ref a0, .int a1] h (f_X12_acts F a0 a1 h) := by
  delta f_X12_acts
  refine GM_of (lv := [(0, .ref a0), (1, .int a1)]) (by decide +kernel) (Nat.le_of_ble_eq_true rfl) rfl ?_
  refine g_iload_n 1 dX12_acts_0 rfl ?_
  refine g_iconst (v := (-1)) dX12_acts_1 (by decide) ?_
  refine g_icmp_ne (tgt := 19) dX12_acts_2 (by decide) (fun c1 => ?_) (fun c1 => ?_)
  · refine g_aload_n 0 dX12_acts_5 rfl ?_
    refine g_aload_n 0 dX12_acts_6 rfl ?_
    refine g_callVi (J := I_X12_standNow) (t := 13) (As := []) (rest := [.ref a0]) mjv_X12_standNow ml_RX12_260 ⟨rfl, by decide, by decide⟩ (by decide) rfl rfl (Nat.le_of_ble_eq_true rfl) dX12_acts_7 (T_X12_standNow F a0 h) (fun v2 h3 => ?_)
    refine g_callSi (J := I_X12_dayTo) (As := [.int v2]) (rest := [.ref a0]) mjs_X12_dayTo ml_RX12_284 (by decide) rfl rfl (Nat.le_of_ble_eq_true rfl) dX12_acts_10 (T_X12_dayTo F v2 h3) (fun v4 h5 => ?_)
    refine g_callVv (J := I_X12_isStand) (t := 13) (As := [.int v4]) (rest := []) mjv_X12_isStand ml_RX12_276 ⟨rfl, by decide, by decide⟩ (by decide) rfl rfl (Nat.le_of_ble_eq_true rfl) dX12_acts_13 (T_X12_isStand F a0 v4 h5) (fun v6 h7 => ?_)
    refine g_goto (tgt := 92) dX12_acts_16 (by decide) ?_
    exact g_vret rfl dX12_acts_92
  · refine g_iload_n 1 dX12_acts_19 rfl ?_
    refine g_bipush (v := 20) dX12_acts_20 (by decide) ?_
    refine g_icmp_ge (tgt := 48) dX12_acts_22 (by decide) (fun c8 => ?_) (fun c8 => ?_)
    · refine g_iload_n 1 dX12_acts_48 rfl ?_
      refine g_bipush (v := 120) dX12_acts_49 (by decide) ?_
      refine g_icmp_ge (tgt := 80) dX12_acts_51 (by decide) (fun c9 => ?_) (fun c9 => ?_)
      · refine g_aload_n 0 dX12_acts_80 rfl ?_
        refine g_getR fl_RX12_13 rfl dX12_acts_81 (fun v10 => ?_)
        refine g_bipush (v := 51) dX12_acts_84 (by decide) ?_
        refine g_iload_n 1 dX12_acts_86 rfl ?_
        refine g_sipush (v := 200) dX12_acts_87 (by decide) ?_
        refine g_isub dX12_acts_90 ?_
        refine g_iast dX12_acts_91 (fun h11 => ?_)
        exact g_vret rfl dX12_acts_92
      · refine g_aload_n 0 dX12_acts_54 rfl ?_
        refine g_getR fl_RX12_13 rfl dX12_acts_55 (fun v12 => ?_)
        refine g_bipush (v := 43) dX12_acts_58 (by decide) ?_
        refine g_iconst (v := 4) dX12_acts_60 (by decide) ?_
        refine g_iload_n 1 dX12_acts_61 rfl ?_
        refine g_bipush (v := 100) dX12_acts_62 (by decide) ?_
        refine g_isub dX12_acts_64 ?_
        refine g_bipush (v := 10) dX12_acts_65 (by decide) ?_
        refine g_idiv (by decide) dX12_acts_67 ?_
        refine g_imul dX12_acts_68 ?_
        refine g_iadd dX12_acts_69 ?_
        refine g_iload_n 1 dX12_acts_70 rfl ?_
        refine g_bipush (v := 10) dX12_acts_71 (by decide) ?_
        refine g_irem (by decide) dX12_acts_73 ?_
        refine g_iadd dX12_acts_74 ?_
        refine g_iconst (v := 0) dX12_acts_75 (by decide) ?_
        refine g_iast dX12_acts_76 (fun h13 => ?_)
        refine g_goto (tgt := 92) dX12_acts_77 (by decide) ?_
        exact g_vret rfl dX12_acts_92
    · refine g_aload_n 0 dX12_acts_25 rfl ?_
      refine g_aload_n 0 dX12_acts_26 rfl ?_
      refine g_aload_n 0 dX12_acts_27 rfl ?_
      refine g_callVi (J := I_X12_standNow) (t := 13) (As := []) (rest := [.ref a0, .ref a0]) mjv_X12_standNow ml_RX12_260 ⟨rfl, by decide, by decide⟩ (by decide) rfl rfl (Nat.le_of_ble_eq_true rfl) dX12_acts_28 (T_X12_standNow F a0 h) (fun v14 h15 => ?_)
      refine g_iload_n 1 dX12_acts_31 rfl ?_
      refine g_bipush (v := 10) dX12_acts_32 (by decide) ?_
      refine g_idiv (by decide) dX12_acts_34 ?_
      refine g_iload_n 1 dX12_acts_35 rfl ?_
      refine g_bipush (v := 10) dX12_acts_36 (by decide) ?_
      refine g_irem (by decide) dX12_acts_38 ?_
      refine g_callVi (J := I_X12_toldTo) (t := 13) (As := [.int v14, .int (a1 / 10), .int (a1 - a1 / 10 * 10)]) (rest := [.ref a0]) mjv_X12_toldTo ml_RX12_266 ⟨rfl, by decide, by decide⟩ (by decide) rfl rfl (Nat.le_of_ble_eq_true rfl) dX12_acts_39 (T_X12_toldTo F a0 v14 (a1 / 10) (a1 - a1 / 10 * 10) h15) (fun v16 h17 => ?_)
      refine g_callVv (J := I_X12_isStand) (t := 13) (As := [.int v16]) (rest := []) mjv_X12_isStand ml_RX12_276 ⟨rfl, by decide, by decide⟩ (by decide) rfl rfl (Nat.le_of_ble_eq_true rfl) dX12_acts_42 (T_X12_isStand F a0 v16 h17) (fun v18 h19 => ?_)
      refine g_goto (tgt := 92) dX12_acts_45 (by decide) ?_
      exact g_vret rfl dX12_acts_92
set_option maxRecDepth 100000 in
noncomputable def f_X12_whyForget (F : Nat) (a0 : Nat) (a1 : Int64) (a2 : Int64) (h : Hp) : Option (Int32 × Hp) :=
  bd (f_X12_isTwin F a1 h) fun v1 h2 => if v1 = 0 then (some (1, h2)) else (cV 13 h2 a0 (f_X12_isFact F a0 a2 h2) fun v4 h5 => if v4 = 0 then (some (1, h5)) else (cV 13 h5 a0 (f_X12_standNow F a0 h5) fun v7 h8 => bd (f_X12_ageIn F v7 ((a1 : Int64).toInt32) ((a2 : Int64).toInt32) h8) fun v9 h10 => if v9 = 0 then (some (2, h10)) else (some (0, h10))))
set_option maxRecDepth 100000 in
set_option maxHeartbeats 4000000 in
theorem T_X12_whyForget (F : Nat) (a0 : Nat) (a1 : Int64) (a2 : Int64) (h : Hp) : GM rvI I_X12_whyForget 3 [.ref a0, .long a1, .long a2] h (f_X12_whyForget F a0 a1 a2 h) := by
  delta f_X12_whyForget
  refine GM_of (lv := [(0, .ref a0), (1, .long a1), (3, .long a2)]) (by decide +kernel) (Nat.le_of_ble_eq_true rfl) rfl ?_
  refine g_lload_n 1 dX12_whyForget_0 rfl ?_
  refine g_callSi (J := I_X12_isTwin) (As := [.long a1]) (rest := []) mjs_X12_isTwin ml_RX12_250 (by decide) rfl rfl (Nat.le_of_ble_eq_true rfl) dX12_whyForget_1 (T_X12_isTwin F a1 h) (fun v1 h2 => ?_)
  refine g_if_eq (tgt := 15) dX12_whyForget_4 (by decide) (fun c3 => ?_) (fun c3 => ?_)
  · refine g_iconst (v := 1) dX12_whyForget_15 (by decide) ?_
    refine g_goto (tgt := 38) dX12_whyForget_16 (by decide) ?_
    exact g_iret rfl dX12_whyForget_38
  · refine g_aload_n 0 dX12_whyForget_7 rfl ?_
    refine g_lload_n 2 dX12_whyForget_8 rfl ?_
    refine g_callVi (J := I_X12_isFact) (t := 13) (As := [.long a2]) (rest := []) mjv_X12_isFact ml_RX12_254 ⟨rfl, by decide, by decide⟩ (by decide) rfl rfl (Nat.le_of_ble_eq_true rfl) dX12_whyForget_9 (T_X12_isFact F a0 a2 h2) (fun v4 h5 => ?_)
    refine g_if_ne (tgt := 19) dX12_whyForget_12 (by decide) (fun c6 => ?_) (fun c6 => ?_)
    · refine g_iconst (v := 1) dX12_whyForget_15 (by decide) ?_
      refine g_goto (tgt := 38) dX12_whyForget_16 (by decide) ?_
      exact g_iret rfl dX12_whyForget_38
    · refine g_aload_n 0 dX12_whyForget_19 rfl ?_
      refine g_callVi (J := I_X12_standNow) (t := 13) (As := []) (rest := []) mjv_X12_standNow ml_RX12_260 ⟨rfl, by decide, by decide⟩ (by decide) rfl rfl (Nat.le_of_ble_eq_true rfl) dX12_whyForget_20 (T_X12_standNow F a0 h5) (fun v7 h8 => ?_)
      refine g_lload_n 1 dX12_whyForget_23 rfl ?_
      refine g_l2i dX12_whyForget_24 ?_
      refine g_lload_n 2 dX12_whyForget_25 rfl ?_
      refine g_l2i dX12_whyForget_26 ?_
      refine g_callSi (J := I_X12_ageIn) (As := [.int v7, .int ((a1 : Int64).toInt32), .int ((a2 : Int64).toInt32)]) (rest := []) mjs_X12_ageIn ml_RX12_214 (by decide) rfl rfl (Nat.le_of_ble_eq_true rfl) dX12_whyForget_27 (T_X12_ageIn F v7 ((a1 : Int64).toInt32) ((a2 : Int64).toInt32) h8) (fun v9 h10 => ?_)
      refine g_if_ne (tgt := 37) dX12_whyForget_30 (by decide) (fun c11 => ?_) (fun c11 => ?_)
      · refine g_iconst (v := 2) dX12_whyForget_33 (by decide) ?_
        refine g_goto (tgt := 38) dX12_whyForget_34 (by decide) ?_
        exact g_iret rfl dX12_whyForget_38
      · refine g_iconst (v := 0) dX12_whyForget_37 (by decide) ?_
        exact g_iret rfl dX12_whyForget_38
set_option maxRecDepth 100000 in
noncomputable def f_X12_whyTell (F : Nat) (a0 : Nat) (a1 : Int64) (a2 : Int64) (h : Hp) : Option (Int32 × Hp) :=
  bd (f_X12_isTwin F a1 h) fun v1 h2 => if v1 = 0 then (some (1, h2)) else (cV 13 h2 a0 (f_X12_isFact F a0 a2 h2) fun v4 h5 => if v4 = 0 then (some (1, h5)) else (cV 13 h5 a0 (f_X12_standNow F a0 h5) fun v7 h8 => cV 13 h8 a0 (f_X12_mayTell F a0 v7 ((a1 : Int64).toInt32) ((a2 : Int64).toInt32) h8) fun v9 h10 => if v9 = 0 then (some (3, h10)) else (some (0, h10))))
set_option maxRecDepth 100000 in
set_option maxHeartbeats 4000000 in
theorem T_X12_whyTell (F : Nat) (a0 : Nat) (a1 : Int64) (a2 : Int64) (h : Hp) : GM rvI I_X12_whyTell 5 [.ref a0, .long a1, .long a2] h (f_X12_whyTell F a0 a1 a2 h) := by
  delta f_X12_whyTell
  refine GM_of (lv := [(0, .ref a0), (1, .long a1), (3, .long a2)]) (by decide +kernel) (Nat.le_of_ble_eq_true rfl) rfl ?_
  refine g_lload_n 1 dX12_whyTell_0 rfl ?_
  refine g_callSi (J := I_X12_isTwin) (As := [.long a1]) (rest := []) mjs_X12_isTwin ml_RX12_250 (by decide) rfl rfl (Nat.le_of_ble_eq_true rfl) dX12_whyTell_1 (T_X12_isTwin F a1 h) (fun v1 h2 => ?_)
  refine g_if_eq (tgt := 15) dX12_whyTell_4 (by decide) (fun c3 => ?_) (fun c3 => ?_)
  · refine g_iconst (v := 1) dX12_whyTell_15 (by decide) ?_
    refine g_goto (tgt := 39) dX12_whyTell_16 (by decide) ?_
    exact g_iret rfl dX12_whyTell_39
  · refine g_aload_n 0 dX12_whyTell_7 rfl ?_
    refine g_lload_n 2 dX12_whyTell_8 rfl ?_
    refine g_callVi (J := I_X12_isFact) (t := 13) (As := [.long a2]) (rest := []) mjv_X12_isFact ml_RX12_254 ⟨rfl, by decide, by decide⟩ (by decide) rfl rfl (Nat.le_of_ble_eq_true rfl) dX12_whyTell_9 (T_X12_isFact F a0 a2 h2) (fun v4 h5 => ?_)
    refine g_if_ne (tgt := 19) dX12_whyTell_12 (by decide) (fun c6 => ?_) (fun c6 => ?_)
    · refine g_iconst (v := 1) dX12_whyTell_15 (by decide) ?_
      refine g_goto (tgt := 39) dX12_whyTell_16 (by decide) ?_
      exact g_iret rfl dX12_whyTell_39
    · refine g_aload_n 0 dX12_whyTell_19 rfl ?_
      refine g_aload_n 0 dX12_whyTell_20 rfl ?_
      refine g_callVi (J := I_X12_standNow) (t := 13) (As := []) (rest := [.ref a0]) mjv_X12_standNow ml_RX12_260 ⟨rfl, by decide, by decide⟩ (by decide) rfl rfl (Nat.le_of_ble_eq_true rfl) dX12_whyTell_21 (T_X12_standNow F a0 h5) (fun v7 h8 => ?_)
      refine g_lload_n 1 dX12_whyTell_24 rfl ?_
      refine g_l2i dX12_whyTell_25 ?_
      refine g_lload_n 2 dX12_whyTell_26 rfl ?_
      refine g_l2i dX12_whyTell_27 ?_
      refine g_callVi (J := I_X12_mayTell) (t := 13) (As := [.int v7, .int ((a1 : Int64).toInt32), .int ((a2 : Int64).toInt32)]) (rest := []) mjv_X12_mayTell ml_RX12_263 ⟨rfl, by decide, by decide⟩ (by decide) rfl rfl (Nat.le_of_ble_eq_true rfl) dX12_whyTell_28 (T_X12_mayTell F a0 v7 ((a1 : Int64).toInt32) ((a2 : Int64).toInt32) h8) (fun v9 h10 => ?_)
      refine g_if_eq (tgt := 38) dX12_whyTell_31 (by decide) (fun c11 => ?_) (fun c11 => ?_)
      · refine g_iconst (v := 3) dX12_whyTell_38 (by decide) ?_
        exact g_iret rfl dX12_whyTell_39
      · refine g_iconst (v := 0) dX12_whyTell_34 (by decide) ?_
        refine g_goto (tgt := 39) dX12_whyTell_35 (by decide) ?_
        exact g_iret rfl dX12_whyTell_39
set_option maxRecDepth 100000 in
noncomputable def f_X12_whyNot (F : Nat) (a0 : Nat) (a1 : Int64) (h : Hp) : Option (Int32 × Hp) :=
  if ((a1 : Int64) = (-1) : Prop) then (some (0, h)) else (bd (f_X12_within F a1 200 209 h) fun v2 h3 => if v2 = 0 then (bd (f_X12_within F a1 0 19 h3) fun v5 h6 => if v5 = 0 then (bd (f_X12_within F a1 100 119 h6) fun v8 h9 => if v8 = 0 then (some (1, h9)) else (cV 13 h9 a0 (f_X12_whyForget F a0 ((a1 - 100) / 10) (a1 - a1 / 10 * 10) h9) fun v11 h12 => some (v11, h12))) else (cV 13 h6 a0 (f_X12_whyTell F a0 (a1 / 10) (a1 - a1 / 10 * 10) h6) fun v13 h14 => some (v13, h14))) else (some (0, h3)))
set_option maxRecDepth 100000 in
set_option maxHeartbeats 4000000 in
theorem T_X12_whyNot (F : Nat) (a0 : Nat) (a1 : Int64) (h : Hp) : GM rvI I_X12_whyNot 6 [.ref a0, .long a1] h (f_X12_whyNot F a0 a1 h) := by
  delta f_X12_whyNot
  refine GM_of (lv := [(0, .ref a0), (1, .long a1)]) (by decide +kernel) (Nat.le_of_ble_eq_true rfl) rfl ?_
  refine g_lload_n 1 dX12_whyNot_0 rfl ?_
  refine g_ldc2 (v := (-1)) dX12_whyNot_1 cl_RX12_297 ?_
  refine g_lc_eq (x := a1) (y := (-1)) (tgt := 21) dX12_whyNot_4 dX12_whyNot_5 (by decide) (fun c1 => ?_) (fun c1 => ?_)
  · refine g_iconst (v := 0) dX12_whyNot_21 (by decide) ?_
    exact g_iret rfl dX12_whyNot_22
  · refine g_lload_n 1 dX12_whyNot_8 rfl ?_
    refine g_ldc2 (v := 200) dX12_whyNot_9 cl_RX12_299 ?_
    refine g_ldc2 (v := 209) dX12_whyNot_12 cl_RX12_301 ?_
    refine g_callSi (J := I_X12_within) (As := [.long a1, .long 200, .long 209]) (rest := []) mjs_X12_within ml_RX12_138 (by decide) rfl rfl (Nat.le_of_ble_eq_true rfl) dX12_whyNot_15 (T_X12_within F a1 200 209 h) (fun v2 h3 => ?_)
    refine g_if_eq (tgt := 23) dX12_whyNot_18 (by decide) (fun c4 => ?_) (fun c4 => ?_)
    · refine g_lload_n 1 dX12_whyNot_23 rfl ?_
      refine g_lconst (v := 0) dX12_whyNot_24 (by decide) ?_
      refine g_ldc2 (v := 19) dX12_whyNot_25 cl_RX12_303 ?_
      refine g_callSi (J := I_X12_within) (As := [.long a1, .long 0, .long 19]) (rest := []) mjs_X12_within ml_RX12_138 (by decide) rfl rfl (Nat.le_of_ble_eq_true rfl) dX12_whyNot_28 (T_X12_within F a1 0 19 h3) (fun v5 h6 => ?_)
      refine g_if_eq (tgt := 49) dX12_whyNot_31 (by decide) (fun c7 => ?_) (fun c7 => ?_)
      · refine g_lload_n 1 dX12_whyNot_49 rfl ?_
        refine g_ldc2 (v := 100) dX12_whyNot_50 cl_RX12_305 ?_
        refine g_ldc2 (v := 119) dX12_whyNot_53 cl_RX12_307 ?_
        refine g_callSi (J := I_X12_within) (As := [.long a1, .long 100, .long 119]) (rest := []) mjs_X12_within ml_RX12_138 (by decide) rfl rfl (Nat.le_of_ble_eq_true rfl) dX12_whyNot_56 (T_X12_within F a1 100 119 h6) (fun v8 h9 => ?_)
        refine g_if_eq (tgt := 83) dX12_whyNot_59 (by decide) (fun c10 => ?_) (fun c10 => ?_)
        · refine g_iconst (v := 1) dX12_whyNot_83 (by decide) ?_
          exact g_iret rfl dX12_whyNot_84
        · refine g_aload_n 0 dX12_whyNot_62 rfl ?_
          refine g_lload_n 1 dX12_whyNot_63 rfl ?_
          refine g_ldc2 (v := 100) dX12_whyNot_64 cl_RX12_305 ?_
          refine g_lsub dX12_whyNot_67 ?_
          refine g_ldc2 (v := 10) dX12_whyNot_68 cl_RX12_295 ?_
          refine g_ldiv (by decide) dX12_whyNot_71 ?_
          refine g_lload_n 1 dX12_whyNot_72 rfl ?_
          refine g_ldc2 (v := 10) dX12_whyNot_73 cl_RX12_295 ?_
          refine g_lrem (by decide) dX12_whyNot_76 ?_
          refine g_callVi (J := I_X12_whyForget) (t := 13) (As := [.long ((a1 - 100) / 10), .long (a1 - a1 / 10 * 10)]) (rest := []) mjv_X12_whyForget ml_RX12_290 ⟨rfl, by decide, by decide⟩ (by decide) rfl rfl (Nat.le_of_ble_eq_true rfl) dX12_whyNot_77 (T_X12_whyForget F a0 ((a1 - 100) / 10) (a1 - a1 / 10 * 10) h9) (fun v11 h12 => ?_)
          refine g_goto (tgt := 84) dX12_whyNot_80 (by decide) ?_
          exact g_iret rfl dX12_whyNot_84
      · refine g_aload_n 0 dX12_whyNot_34 rfl ?_
        refine g_lload_n 1 dX12_whyNot_35 rfl ?_
        refine g_ldc2 (v := 10) dX12_whyNot_36 cl_RX12_295 ?_
        refine g_ldiv (by decide) dX12_whyNot_39 ?_
        refine g_lload_n 1 dX12_whyNot_40 rfl ?_
        refine g_ldc2 (v := 10) dX12_whyNot_41 cl_RX12_295 ?_
        refine g_lrem (by decide) dX12_whyNot_44 ?_
        refine g_callVi (J := I_X12_whyTell) (t := 13) (As := [.long (a1 / 10), .long (a1 - a1 / 10 * 10)]) (rest := []) mjv_X12_whyTell ml_RX12_269 ⟨rfl, by decide, by decide⟩ (by decide) rfl rfl (Nat.le_of_ble_eq_true rfl) dX12_whyNot_45 (T_X12_whyTell F a0 (a1 / 10) (a1 - a1 / 10 * 10) h6) (fun v13 h14 => ?_)
        exact g_iret rfl dX12_whyNot_48
    · refine g_iconst (v := 0) dX12_whyNot_21 (by decide) ?_
      exact g_iret rfl dX12_whyNot_22
set_option maxRecDepth 100000 in
noncomputable def f_X12_tells_7_b (F : Nat) (K7 : Nat → Int32 → Int32 → Hp → Option (Int32 × Hp)) (l0 : Nat) (l1 : Int32) (l2 : Int32) (h : Hp) : Option (Int32 × Hp) :=
  gR 13 h l0 33 fun v2 => aI 20 h v2 l1 fun v3 => if v3 ≤ l2 then (gR 13 h l0 33 fun v5 => aI 20 h v5 l1 fun v6 => some (v6, h)) else (gR 13 h l0 34 fun v7 => aL h v7 ((40 * l1) + l2) fun v8 => cV 13 h l0 (f_X12_whyNot F l0 v8 h) fun v9 h10 => pI 13 h10 l0 19 v9 fun h11 => gI 13 h11 l0 19 fun v12 => if v12 = 0 then (gR 13 h11 l0 34 fun v14 => aL h11 v14 ((40 * l1) + l2) fun v15 => cV 13 h11 l0 (f_X12_acts F l0 ((v15 : Int64).toInt32) h11) fun v16 h17 => K7 l0 l1 (l2 + 1) h17) else (some (l2, h11)))
set_option maxRecDepth 100000 in
set_option maxHeartbeats 4000000 in
theorem T_X12_tells_7_b (F : Nat) {K7 : Nat → Int32 → Int32 → Hp → Option (Int32 × Hp)} (hK7 : ∀ (l0 : Nat) (l1 : Int32) (l2 : Int32) (h : Hp), G rvI I_X12_tells 7 7 [(0, .ref l0), (1, .int l1), (2, .int l2)] [] h (K7 l0 l1 l2 h)) (l0 : Nat) (l1 : Int32) (l2 : Int32) (h : Hp) : G rvI I_X12_tells 7 7 [(0, .ref l0), (1, .int l1), (2, .int l2)] [] h (f_X12_tells_7_b F K7 l0 l1 l2 h) := by
  delta f_X12_tells_7_b
  refine g_iload_n 2 dX12_tells_7 rfl ?_
  refine g_aload_n 0 dX12_tells_8 rfl ?_
  refine g_getR fl_RX12_66 rfl dX12_tells_9 (fun v2 => ?_)
  refine g_iload_n 1 dX12_tells_12 rfl ?_
  refine g_iald dX12_tells_13 (fun v3 => ?_)
  refine g_icmp_ge (tgt := 67) dX12_tells_14 (by decide) (fun c4 => ?_) (fun c4 => ?_)
  · refine g_aload_n 0 dX12_tells_67 rfl ?_
    refine g_getR fl_RX12_66 rfl dX12_tells_68 (fun v5 => ?_)
    refine g_iload_n 1 dX12_tells_71 rfl ?_
    refine g_iald dX12_tells_72 (fun v6 => ?_)
    exact g_iret rfl dX12_tells_73
  · refine g_aload_n 0 dX12_tells_17 rfl ?_
    refine g_aload_n 0 dX12_tells_18 rfl ?_
    refine g_aload_n 0 dX12_tells_19 rfl ?_
    refine g_getR fl_RX12_69 rfl dX12_tells_20 (fun v7 => ?_)
    refine g_bipush (v := 40) dX12_tells_23 (by decide) ?_
    refine g_iload_n 1 dX12_tells_25 rfl ?_
    refine g_imul dX12_tells_26 ?_
    refine g_iload_n 2 dX12_tells_27 rfl ?_
    refine g_iadd dX12_tells_28 ?_
    refine g_lald dX12_tells_29 (fun v8 => ?_)
    refine g_callVi (J := I_X12_whyNot) (t := 13) (As := [.long v8]) (rest := [.ref l0]) mjv_X12_whyNot ml_RX12_312 ⟨rfl, by decide, by decide⟩ (by decide) rfl rfl (Nat.le_of_ble_eq_true rfl) dX12_tells_30 (T_X12_whyNot F l0 v8 h) (fun v9 h10 => ?_)
    refine g_putI fl_RX12_309 (Or.inl rfl) dX12_tells_33 (fun h11 => ?_)
    refine g_aload_n 0 dX12_tells_36 rfl ?_
    refine g_getI fl_RX12_309 rfl dX12_tells_37 (fun v12 => ?_)
    refine g_if_eq (tgt := 45) dX12_tells_40 (by decide) (fun c13 => ?_) (fun c13 => ?_)
    · refine g_aload_n 0 dX12_tells_45 rfl ?_
      refine g_aload_n 0 dX12_tells_46 rfl ?_
      refine g_getR fl_RX12_69 rfl dX12_tells_47 (fun v14 => ?_)
      refine g_bipush (v := 40) dX12_tells_50 (by decide) ?_
      refine g_iload_n 1 dX12_tells_52 rfl ?_
      refine g_imul dX12_tells_53 ?_
      refine g_iload_n 2 dX12_tells_54 rfl ?_
      refine g_iadd dX12_tells_55 ?_
      refine g_lald dX12_tells_56 (fun v15 => ?_)
      refine g_l2i dX12_tells_57 ?_
      refine g_callVv (J := I_X12_acts) (t := 13) (As := [.int ((v15 : Int64).toInt32)]) (rest := []) mjv_X12_acts ml_RX12_316 ⟨rfl, by decide, by decide⟩ (by decide) rfl rfl (Nat.le_of_ble_eq_true rfl) dX12_tells_58 (T_X12_acts F l0 ((v15 : Int64).toInt32) h11) (fun v16 h17 => ?_)
      refine g_iinc (v' := l2 + 1) (lv' := [(2, .int (l2 + 1)), (0, .ref l0), (1, .int l1)]) 2 dX12_tells_61 rfl rfl (by decide) rfl ?_
      refine g_goto (tgt := 7) dX12_tells_64 (by decide) ?_
      refine G_lv [1, 2, 0] rfl ?_
      exact hK7 l0 l1 (l2 + 1) h17
    · refine g_iload_n 2 dX12_tells_43 rfl ?_
      exact g_iret rfl dX12_tells_44
set_option maxRecDepth 100000 in
noncomputable def f_X12_tells_7 (F : Nat) : Nat → Nat → Int32 → Int32 → Hp → Option (Int32 × Hp)
  | 0, _, _, _, _ => none
  | n + 1, l0, l1, l2, h => f_X12_tells_7_b F (f_X12_tells_7 F n) l0 l1 l2 h
set_option maxRecDepth 100000 in
set_option maxHeartbeats 4000000 in
theorem T_X12_tells_7 (F : Nat) : ∀ (n : Nat) (l0 : Nat) (l1 : Int32) (l2 : Int32) (h : Hp), G rvI I_X12_tells 7 7 [(0, .ref l0), (1, .int l1), (2, .int l2)] [] h (f_X12_tells_7 F n l0 l1 l2 h) := by
  intro n
  induction n with
  | zero => intros; exact G_none
  | succ n ih => intro l0 l1 l2 h; exact T_X12_tells_7_b F ih l0 l1 l2 h
set_option maxRecDepth 100000 in
noncomputable def f_X12_tells (F : Nat) (a0 : Nat) (a1 : Int32) (h : Hp) : Option (Int32 × Hp) :=
  pI 13 h a0 19 0 fun h1 => f_X12_tells_7 F F a0 a1 0 h1
set_option maxRecDepth 100000 in
set_option maxHeartbeats 4000000 in
theorem T_X12_tells (F : Nat) (a0 : Nat) (a1 : Int32) (h : Hp) : GM rvI I_X12_tells 7 [.ref a0, .int a1] h (f_X12_tells F a0 a1 h) := by
  delta f_X12_tells
  refine GM_of (lv := [(0, .ref a0), (1, .int a1)]) (by decide +kernel) (Nat.le_of_ble_eq_true rfl) rfl ?_
  refine g_aload_n 0 dX12_tells_0 rfl ?_
  refine g_iconst (v := 0) dX12_tells_1 (by decide) ?_
  refine g_putI fl_RX12_309 (Or.inl rfl) dX12_tells_2 (fun h1 => ?_)
  refine g_iconst (v := 0) dX12_tells_5 (by decide) ?_
  refine g_istore_n (lv' := [(2, .int 0), (0, .ref a0), (1, .int a1)]) dX12_tells_6 (by decide) rfl ?_
  refine G_lv [1, 2, 0] rfl ?_
  exact T_X12_tells_7 F F a0 a1 0 h1
set_option maxRecDepth 100000 in
noncomputable def f_X12_bondsOf_80 (F : Nat) (K10 : Nat → Int32 → Int32 → Int32 → Int32 → Int32 → Hp → Option (Int32 × Hp)) (l0 : Nat) (l1 : Int32) (l2 : Int32) (l3 : Int32) (l5 : Int32) (s0 : Int32) (s1 : Int32) (h : Hp) : Option (Int32 × Hp) :=
  lt (s1 ||| s0) fun x21 => cV 13 h l0 (f_X12_isAgain F l0 h) fun v22 h23 => K10 l0 l1 l2 l3 x21 (l5 + 1) h23
set_option maxRecDepth 100000 in
set_option maxHeartbeats 4000000 in
theorem T_X12_bondsOf_80 (F : Nat) {K10 : Nat → Int32 → Int32 → Int32 → Int32 → Int32 → Hp → Option (Int32 × Hp)} (hK10 : ∀ (l0 : Nat) (l1 : Int32) (l2 : Int32) (l3 : Int32) (l4 : Int32) (l5 : Int32) (h : Hp), G rvI I_X12_bondsOf 8 10 [(0, .ref l0), (1, .int l1), (2, .int l2), (3, .int l3), (4, .int l4), (5, .int l5)] [] h (K10 l0 l1 l2 l3 l4 l5 h)) (l0 : Nat) (l1 : Int32) (l2 : Int32) (l3 : Int32) (l5 : Int32) (s0 : Int32) (s1 : Int32) (h : Hp) : G rvI I_X12_bondsOf 8 80 [(0, .ref l0), (1, .int l1), (2, .int l2), (3, .int l3), (5, .int l5)] [.int s0, .int s1] h (f_X12_bondsOf_80 F K10 l0 l1 l2 l3 l5 s0 s1 h) := by
  delta f_X12_bondsOf_80
  refine g_ior dX12_bondsOf_80 ?_
  refine G_lti (fun x21 => ?_)
  refine g_istore (lv' := [(4, .int x21), (0, .ref l0), (1, .int l1), (2, .int l2), (3, .int l3), (5, .int l5)]) dX12_bondsOf_81 (by decide) rfl ?_
  refine g_aload_n 1 dX12_bondsOf_83 rfl ?_
  refine g_callVv (J := I_X12_isAgain) (t := 13) (As := []) (rest := []) mjv_X12_isAgain ml_RX12_327 ⟨rfl, by decide, by decide⟩ (by decide) rfl rfl (Nat.le_of_ble_eq_true rfl) dX12_bondsOf_84 (T_X12_isAgain F l0 h) (fun v22 h23 => ?_)
  refine g_iinc (v' := l5 + 1) (lv' := [(5, .int (l5 + 1)), (4, .int x21), (0, .ref l0), (1, .int l1), (2, .int l2), (3, .int l3)]) 5 dX12_bondsOf_87 rfl rfl (by decide) rfl ?_
  refine g_goto (tgt := 10) dX12_bondsOf_90 (by decide) ?_
  refine G_lv [2, 3, 4, 5, 1, 0] rfl ?_
  exact hK10 l0 l1 l2 l3 x21 (l5 + 1) h23
set_option maxRecDepth 100000 in
noncomputable def f_X12_bondsOf_79 (F : Nat) (K10 : Nat → Int32 → Int32 → Int32 → Int32 → Int32 → Hp → Option (Int32 × Hp)) (l0 : Nat) (l1 : Int32) (l2 : Int32) (l3 : Int32) (l5 : Int32) (s0 : Int32) (h : Hp) : Option (Int32 × Hp) :=
  f_X12_bondsOf_80 F K10 l0 l1 l2 l3 l5 0 s0 h
set_option maxRecDepth 100000 in
set_option maxHeartbeats 4000000 in
theorem T_X12_bondsOf_79 (F : Nat) {K10 : Nat → Int32 → Int32 → Int32 → Int32 → Int32 → Hp → Option (Int32 × Hp)} (hK10 : ∀ (l0 : Nat) (l1 : Int32) (l2 : Int32) (l3 : Int32) (l4 : Int32) (l5 : Int32) (h : Hp), G rvI I_X12_bondsOf 8 10 [(0, .ref l0), (1, .int l1), (2, .int l2), (3, .int l3), (4, .int l4), (5, .int l5)] [] h (K10 l0 l1 l2 l3 l4 l5 h)) (l0 : Nat) (l1 : Int32) (l2 : Int32) (l3 : Int32) (l5 : Int32) (s0 : Int32) (h : Hp) : G rvI I_X12_bondsOf 8 79 [(0, .ref l0), (1, .int l1), (2, .int l2), (3, .int l3), (5, .int l5)] [.int s0] h (f_X12_bondsOf_79 F K10 l0 l1 l2 l3 l5 s0 h) := by
  delta f_X12_bondsOf_79
  refine g_iconst (v := 0) dX12_bondsOf_79 (by decide) ?_
  refine G_lv [0, 1, 2, 3, 4] rfl ?_
  exact T_X12_bondsOf_80 F hK10 l0 l1 l2 l3 l5 0 s0 h
set_option maxRecDepth 100000 in
noncomputable def f_X12_bondsOf_10_b (F : Nat) (K10 : Nat → Int32 → Int32 → Int32 → Int32 → Int32 → Hp → Option (Int32 × Hp)) (l0 : Nat) (l1 : Int32) (l2 : Int32) (l3 : Int32) (l4 : Int32) (l5 : Int32) (h : Hp) : Option (Int32 × Hp) :=
  if 9 < l5 then (some (l4, h)) else (gR 13 h l0 1 fun v4 => wI h v4 51 l5 fun h5 => cV 13 h5 l0 (f_X12_tells F l0 l1 h5) fun v6 h7 => gR 13 h7 l0 33 fun v8 => aI 20 h7 v8 l1 fun v9 => if v6 = v9 then (cV 13 h7 l0 (f_X12_standNow F l0 h7) fun v11 h12 => cV 13 h12 l0 (f_X12_doesAll F l0 v11 0 h12) fun v13 h14 => if v13 = l2 then (cV 13 h14 l0 (f_X12_standNow F l0 h14) fun v16 h17 => cV 13 h17 l0 (f_X12_doesAll F l0 v16 1 h17) fun v18 h19 => if v18 = l3 then (f_X12_bondsOf_80 F K10 l0 l1 l2 l3 l5 ((1 : Int32) <<< (l5 &&& 31)) l4 h19) else (f_X12_bondsOf_79 F K10 l0 l1 l2 l3 l5 l4 h19)) else (f_X12_bondsOf_79 F K10 l0 l1 l2 l3 l5 l4 h14)) else (f_X12_bondsOf_79 F K10 l0 l1 l2 l3 l5 l4 h7))
set_option maxRecDepth 100000 in
set_option maxHeartbeats 4000000 in
theorem T_X12_bondsOf_10_b (F : Nat) {K10 : Nat → Int32 → Int32 → Int32 → Int32 → Int32 → Hp → Option (Int32 × Hp)} (hK10 : ∀ (l0 : Nat) (l1 : Int32) (l2 : Int32) (l3 : Int32) (l4 : Int32) (l5 : Int32) (h : Hp), G rvI I_X12_bondsOf 8 10 [(0, .ref l0), (1, .int l1), (2, .int l2), (3, .int l3), (4, .int l4), (5, .int l5)] [] h (K10 l0 l1 l2 l3 l4 l5 h)) (l0 : Nat) (l1 : Int32) (l2 : Int32) (l3 : Int32) (l4 : Int32) (l5 : Int32) (h : Hp) : G rvI I_X12_bondsOf 8 10 [(0, .ref l0), (1, .int l1), (2, .int l2), (3, .int l3), (4, .int l4), (5, .int l5)] [] h (f_X12_bondsOf_10_b F K10 l0 l1 l2 l3 l4 l5 h) := by
  delta f_X12_bondsOf_10_b
  refine g_iload 5 dX12_bondsOf_10 rfl ?_
  refine g_bipush (v := 9) dX12_bondsOf_12 (by decide) ?_
  refine g_icmp_gt (tgt := 93) dX12_bondsOf_14 (by decide) (fun c3 => ?_) (fun c3 => ?_)
  · refine g_iload 4 dX12_bondsOf_93 rfl ?_
    exact g_iret rfl dX12_bondsOf_95
  · refine g_aload_n 0 dX12_bondsOf_17 rfl ?_
    refine g_getR fl_RX12_13 rfl dX12_bondsOf_18 (fun v4 => ?_)
    refine g_bipush (v := 51) dX12_bondsOf_21 (by decide) ?_
    refine g_iload 5 dX12_bondsOf_23 rfl ?_
    refine g_iast dX12_bondsOf_25 (fun h5 => ?_)
    refine g_aload_n 0 dX12_bondsOf_26 rfl ?_
    refine g_iload_n 1 dX12_bondsOf_27 rfl ?_
    refine g_callVi (J := I_X12_tells) (t := 13) (As := [.int l1]) (rest := []) mjv_X12_tells ml_RX12_324 ⟨rfl, by decide, by decide⟩ (by decide) rfl rfl (Nat.le_of_ble_eq_true rfl) dX12_bondsOf_28 (T_X12_tells F l0 l1 h5) (fun v6 h7 => ?_)
    refine g_istore (lv' := [(6, .int v6), (0, .ref l0), (1, .int l1), (2, .int l2), (3, .int l3), (4, .int l4), (5, .int l5)]) dX12_bondsOf_31 (by decide) rfl ?_
    refine g_iload 5 dX12_bondsOf_33 rfl ?_
    refine g_iload 0 dX12_bondsOf_35 rfl ?_
    refine g_aload_n 1 dX12_bondsOf_37 rfl ?_
    refine g_getR fl_RX12_66 rfl dX12_bondsOf_38 (fun v8 => ?_)
    refine g_iload_n 2 dX12_bondsOf_41 rfl ?_
    refine g_iald dX12_bondsOf_42 (fun v9 => ?_)
    refine g_icmp_ne (tgt := 79) dX12_bondsOf_43 (by decide) (fun c10 => ?_) (fun c10 => ?_)
    · refine g_aload_n 1 dX12_bondsOf_46 rfl ?_
      refine g_aload_n 1 dX12_bondsOf_47 rfl ?_
      refine g_callVi (J := I_X12_standNow) (t := 13) (As := []) (rest := [.ref l0, .int l4]) mjv_X12_standNow ml_RX12_260 ⟨rfl, by decide, by decide⟩ (by decide) rfl rfl (Nat.le_of_ble_eq_true rfl) dX12_bondsOf_48 (T_X12_standNow F l0 h7) (fun v11 h12 => ?_)
      refine g_iconst (v := 0) dX12_bondsOf_51 (by decide) ?_
      refine g_callVi (J := I_X12_doesAll) (t := 13) (As := [.int v11, .int 0]) (rest := [.int l4]) mjv_X12_doesAll ml_RX12_244 ⟨rfl, by decide, by decide⟩ (by decide) rfl rfl (Nat.le_of_ble_eq_true rfl) dX12_bondsOf_52 (T_X12_doesAll F l0 v11 0 h12) (fun v13 h14 => ?_)
      refine g_iload_n 3 dX12_bondsOf_55 rfl ?_
      refine g_icmp_ne (tgt := 79) dX12_bondsOf_56 (by decide) (fun c15 => ?_) (fun c15 => ?_)
      · refine g_aload_n 1 dX12_bondsOf_59 rfl ?_
        refine g_aload_n 1 dX12_bondsOf_60 rfl ?_
        refine g_callVi (J := I_X12_standNow) (t := 13) (As := []) (rest := [.ref l0, .int l4]) mjv_X12_standNow ml_RX12_260 ⟨rfl, by decide, by decide⟩ (by decide) rfl rfl (Nat.le_of_ble_eq_true rfl) dX12_bondsOf_61 (T_X12_standNow F l0 h14) (fun v16 h17 => ?_)
        refine g_iconst (v := 1) dX12_bondsOf_64 (by decide) ?_
        refine g_callVi (J := I_X12_doesAll) (t := 13) (As := [.int v16, .int 1]) (rest := [.int l4]) mjv_X12_doesAll ml_RX12_244 ⟨rfl, by decide, by decide⟩ (by decide) rfl rfl (Nat.le_of_ble_eq_true rfl) dX12_bondsOf_65 (T_X12_doesAll F l0 v16 1 h17) (fun v18 h19 => ?_)
        refine g_iload_n 4 dX12_bondsOf_68 rfl ?_
        refine g_icmp_ne (tgt := 79) dX12_bondsOf_69 (by decide) (fun c20 => ?_) (fun c20 => ?_)
        · refine g_iconst (v := 1) dX12_bondsOf_72 (by decide) ?_
          refine g_iload 6 dX12_bondsOf_73 rfl ?_
          refine g_ishl dX12_bondsOf_75 ?_
          refine g_goto (tgt := 80) dX12_bondsOf_76 (by decide) ?_
          refine G_lv [1, 2, 3, 4, 6] rfl ?_
          exact T_X12_bondsOf_80 F hK10 l0 l1 l2 l3 l5 ((1 : Int32) <<< (l5 &&& 31)) l4 h19
        · refine G_lv [1, 2, 3, 4, 6] rfl ?_
          exact T_X12_bondsOf_79 F hK10 l0 l1 l2 l3 l5 l4 h19
      · refine G_lv [1, 2, 3, 4, 6] rfl ?_
        exact T_X12_bondsOf_79 F hK10 l0 l1 l2 l3 l5 l4 h14
    · refine G_lv [1, 2, 3, 4, 6] rfl ?_
      exact T_X12_bondsOf_79 F hK10 l0 l1 l2 l3 l5 l4 h7
set_option maxRecDepth 100000 in
noncomputable def f_X12_bondsOf_10 (F : Nat) : Nat → Nat → Int32 → Int32 → Int32 → Int32 → Int32 → Hp → Option (Int32 × Hp)
  | 0, _, _, _, _, _, _, _ => none
  | n + 1, l0, l1, l2, l3, l4, l5, h => f_X12_bondsOf_10_b F (f_X12_bondsOf_10 F n) l0 l1 l2 l3 l4 l5 h
set_option maxRecDepth 100000 in
set_option maxHeartbeats 4000000 in
theorem T_X12_bondsOf_10 (F : Nat) : ∀ (n : Nat) (l0 : Nat) (l1 : Int32) (l2 : Int32) (l3 : Int32) (l4 : Int32) (l5 : Int32) (h : Hp), G rvI I_X12_bondsOf 8 10 [(0, .ref l0), (1, .int l1), (2, .int l2), (3, .int l3), (4, .int l4), (5, .int l5)] [] h (f_X12_bondsOf_10 F n l0 l1 l2 l3 l4 l5 h) := by
  intro n
  induction n with
  | zero => intros; exact G_none
  | succ n ih => intro l0 l1 l2 l3 l4 l5 h; exact T_X12_bondsOf_10_b F ih l0 l1 l2 l3 l4 l5 h
set_option maxRecDepth 100000 in
noncomputable def f_X12_bondsOf (F : Nat) (a0 : Nat) (a1 : Int32) (a2 : Int32) (a3 : Int32) (h : Hp) : Option (Int32 × Hp) :=
  cV 13 h a0 (f_X12_keeps F a0 h) fun v1 h2 => f_X12_bondsOf_10 F F a0 a1 a2 a3 0 0 h2
set_option maxRecDepth 100000 in
set_option maxHeartbeats 4000000 in
theorem T_X12_bondsOf (F : Nat) (a0 : Nat) (a1 : Int32) (a2 : Int32) (a3 : Int32) (h : Hp) : GM rvI I_X12_bondsOf 8 [.ref a0, .int a1, .int a2, .int a3] h (f_X12_bondsOf F a0 a1 a2 a3 h) := by
  delta f_X12_bondsOf
  refine GM_of (lv := [(0, .ref a0), (1, .int a1), (2, .int a2), (3, .int a3)]) (by decide +kernel) (Nat.le_of_ble_eq_true rfl) rfl ?_
  refine g_aload_n 0 dX12_bondsOf_0 rfl ?_
  refine g_callVv (J := I_X12_keeps) (t := 13) (As := []) (rest := []) mjv_X12_keeps ml_RX12_273 ⟨rfl, by decide, by decide⟩ (by decide) rfl rfl (Nat.le_of_ble_eq_true rfl) dX12_bondsOf_1 (T_X12_keeps F a0 h) (fun v1 h2 => ?_)
  refine g_iconst (v := 0) dX12_bondsOf_4 (by decide) ?_
  refine g_istore (lv' := [(4, .int 0), (0, .ref a0), (1, .int a1), (2, .int a2), (3, .int a3)]) dX12_bondsOf_5 (by decide) rfl ?_
  refine g_iconst (v := 0) dX12_bondsOf_7 (by decide) ?_
  refine g_istore (lv' := [(5, .int 0), (4, .int 0), (0, .ref a0), (1, .int a1), (2, .int a2), (3, .int a3)]) dX12_bondsOf_8 (by decide) rfl ?_
  refine G_lv [2, 3, 4, 5, 1, 0] rfl ?_
  exact T_X12_bondsOf_10 F F a0 a1 a2 a3 0 0 h2
set_option maxRecDepth 100000 in
noncomputable def f_X12_mostOften_122 (F : Nat) (K38 : Nat → Int32 → Int32 → Int32 → Int32 → Int32 → Int32 → Hp → Option (Int32 × Hp)) (l0 : Nat) (l1 : Int32) (l2 : Int32) (l3 : Int32) (l4 : Int32) (l6 : Int32) (s0 : Int32) (h : Hp) : Option (Int32 × Hp) :=
  K38 l0 l1 l2 l3 l4 s0 (l6 + 1) h
set_option maxRecDepth 100000 in
set_option maxHeartbeats 4000000 in
theorem T_X12_mostOften_122 (F : Nat) {K38 : Nat → Int32 → Int32 → Int32 → Int32 → Int32 → Int32 → Hp → Option (Int32 × Hp)} (hK38 : ∀ (l0 : Nat) (l1 : Int32) (l2 : Int32) (l3 : Int32) (l4 : Int32) (l5 : Int32) (l6 : Int32) (h : Hp), G rvI I_X12_mostOften 6 38 [(0, .ref l0), (1, .int l1), (2, .int l2), (3, .int l3), (4, .int l4), (5, .int l5), (6, .int l6)] [] h (K38 l0 l1 l2 l3 l4 l5 l6 h)) (l0 : Nat) (l1 : Int32) (l2 : Int32) (l3 : Int32) (l4 : Int32) (l6 : Int32) (s0 : Int32) (h : Hp) : G rvI I_X12_mostOften 6 122 [(0, .ref l0), (1, .int l1), (2, .int l2), (3, .int l3), (4, .int l4), (6, .int l6)] [.int s0] h (f_X12_mostOften_122 F K38 l0 l1 l2 l3 l4 l6 s0 h) := by
  delta f_X12_mostOften_122
  refine g_istore (lv' := [(5, .int s0), (0, .ref l0), (1, .int l1), (2, .int l2), (3, .int l3), (4, .int l4), (6, .int l6)]) dX12_mostOften_122 (by decide) rfl ?_
  refine g_iinc (v' := l6 + 1) (lv' := [(6, .int (l6 + 1)), (5, .int s0), (0, .ref l0), (1, .int l1), (2, .int l2), (3, .int l3), (4, .int l4)]) 6 dX12_mostOften_124 rfl rfl (by decide) rfl ?_
  refine g_goto (tgt := 38) dX12_mostOften_127 (by decide) ?_
  refine G_lv [2, 3, 4, 5, 6, 1, 0] rfl ?_
  exact hK38 l0 l1 l2 l3 l4 s0 (l6 + 1) h
set_option maxRecDepth 100000 in
noncomputable def f_X12_mostOften_96 (F : Nat) (K38 : Nat → Int32 → Int32 → Int32 → Int32 → Int32 → Int32 → Hp → Option (Int32 × Hp)) (l0 : Nat) (l1 : Int32) (l2 : Int32) (l3 : Int32) (l4 : Int32) (l5 : Int32) (l6 : Int32) (l7 : Int32) (s0 : Int32) (s1 : Int32) (s2 : Int32) (s3 : Nat) (h : Hp) : Option (Int32 × Hp) :=
  wI h s3 s2 (s1 + s0) fun h20 => gR 13 h20 l0 30 fun v21 => aI 20 h20 v21 l7 fun v22 => if v22 ≤ l5 then (f_X12_mostOften_122 F K38 l0 l1 l2 l3 l4 l6 l5 h20) else (gR 13 h20 l0 30 fun v24 => aI 20 h20 v24 l7 fun v25 => f_X12_mostOften_122 F K38 l0 l1 l2 l3 l4 l6 v25 h20)
set_option maxRecDepth 100000 in
set_option maxHeartbeats 4000000 in
theorem T_X12_mostOften_96 (F : Nat) {K38 : Nat → Int32 → Int32 → Int32 → Int32 → Int32 → Int32 → Hp → Option (Int32 × Hp)} (hK38 : ∀ (l0 : Nat) (l1 : Int32) (l2 : Int32) (l3 : Int32) (l4 : Int32) (l5 : Int32) (l6 : Int32) (h : Hp), G rvI I_X12_mostOften 6 38 [(0, .ref l0), (1, .int l1), (2, .int l2), (3, .int l3), (4, .int l4), (5, .int l5), (6, .int l6)] [] h (K38 l0 l1 l2 l3 l4 l5 l6 h)) (l0 : Nat) (l1 : Int32) (l2 : Int32) (l3 : Int32) (l4 : Int32) (l5 : Int32) (l6 : Int32) (l7 : Int32) (s0 : Int32) (s1 : Int32) (s2 : Int32) (s3 : Nat) (h : Hp) : G rvI I_X12_mostOften 6 96 [(0, .ref l0), (1, .int l1), (2, .int l2), (3, .int l3), (4, .int l4), (5, .int l5), (6, .int l6), (7, .int l7)] [.int s0, .int s1, .int s2, .ref s3] h (f_X12_mostOften_96 F K38 l0 l1 l2 l3 l4 l5 l6 l7 s0 s1 s2 s3 h) := by
  delta f_X12_mostOften_96
  refine g_iadd dX12_mostOften_96 ?_
  refine g_iast dX12_mostOften_97 (fun h20 => ?_)
  refine g_aload_n 0 dX12_mostOften_98 rfl ?_
  refine g_getR fl_RX12_57 rfl dX12_mostOften_99 (fun v21 => ?_)
  refine g_iload 7 dX12_mostOften_102 rfl ?_
  refine g_iald dX12_mostOften_104 (fun v22 => ?_)
  refine g_iload 5 dX12_mostOften_105 rfl ?_
  refine g_icmp_le (tgt := 120) dX12_mostOften_107 (by decide) (fun c23 => ?_) (fun c23 => ?_)
  · refine g_iload 5 dX12_mostOften_120 rfl ?_
    refine G_lv [0, 1, 2, 3, 4, 6] rfl ?_
    exact T_X12_mostOften_122 F hK38 l0 l1 l2 l3 l4 l6 l5 h20
  · refine g_aload_n 0 dX12_mostOften_110 rfl ?_
    refine g_getR fl_RX12_57 rfl dX12_mostOften_111 (fun v24 => ?_)
    refine g_iload 7 dX12_mostOften_114 rfl ?_
    refine g_iald dX12_mostOften_116 (fun v25 => ?_)
    refine g_goto (tgt := 122) dX12_mostOften_117 (by decide) ?_
    refine G_lv [0, 1, 2, 3, 4, 6] rfl ?_
    exact T_X12_mostOften_122 F hK38 l0 l1 l2 l3 l4 l6 v25 h20
set_option maxRecDepth 100000 in
noncomputable def f_X12_mostOften_38_b (F : Nat) (K38 : Nat → Int32 → Int32 → Int32 → Int32 → Int32 → Int32 → Hp → Option (Int32 × Hp)) (l0 : Nat) (l1 : Int32) (l2 : Int32) (l3 : Int32) (l4 : Int32) (l5 : Int32) (l6 : Int32) (h : Hp) : Option (Int32 × Hp) :=
  if 9 < l6 then (gR 13 h l0 1 fun v5 => wI h v5 51 l4 fun h6 => some (l5, h6)) else (gR 13 h l0 1 fun v7 => wI h v7 51 l6 fun h8 => cV 13 h8 l0 (f_X12_standNow F l0 h8) fun v9 h10 => cV 13 h10 l0 (f_X12_toldTo F l0 v9 l1 l2 h10) fun v11 h12 => bd (f_X12_ageIn F v11 (1 - l1) l2 h12) fun v13 h14 => gR 13 h14 l0 30 fun v15 => aI 20 h14 v15 v13 fun v16 => bd (f_X12_isIn F (l3.toInt64) l6 h14) fun v17 h18 => if v17 = 0 then (f_X12_mostOften_96 F K38 l0 l1 l2 l3 l4 l5 l6 v13 0 v16 v13 v15 h18) else (f_X12_mostOften_96 F K38 l0 l1 l2 l3 l4 l5 l6 v13 1 v16 v13 v15 h18))
set_option maxRecDepth 100000 in
set_option maxHeartbeats 4000000 in
theorem T_X12_mostOften_38_b (F : Nat) {K38 : Nat → Int32 → Int32 → Int32 → Int32 → Int32 → Int32 → Hp → Option (Int32 × Hp)} (hK38 : ∀ (l0 : Nat) (l1 : Int32) (l2 : Int32) (l3 : Int32) (l4 : Int32) (l5 : Int32) (l6 : Int32) (h : Hp), G rvI I_X12_mostOften 6 38 [(0, .ref l0), (1, .int l1), (2, .int l2), (3, .int l3), (4, .int l4), (5, .int l5), (6, .int l6)] [] h (K38 l0 l1 l2 l3 l4 l5 l6 h)) (l0 : Nat) (l1 : Int32) (l2 : Int32) (l3 : Int32) (l4 : Int32) (l5 : Int32) (l6 : Int32) (h : Hp) : G rvI I_X12_mostOften 6 38 [(0, .ref l0), (1, .int l1), (2, .int l2), (3, .int l3), (4, .int l4), (5, .int l5), (6, .int l6)] [] h (f_X12_mostOften_38_b F K38 l0 l1 l2 l3 l4 l5 l6 h) := by
  delta f_X12_mostOften_38_b
  refine g_iload 6 dX12_mostOften_38 rfl ?_
  refine g_bipush (v := 9) dX12_mostOften_40 (by decide) ?_
  refine g_icmp_gt (tgt := 130) dX12_mostOften_42 (by decide) (fun c4 => ?_) (fun c4 => ?_)
  · refine g_aload_n 0 dX12_mostOften_130 rfl ?_
    refine g_getR fl_RX12_13 rfl dX12_mostOften_131 (fun v5 => ?_)
    refine g_bipush (v := 51) dX12_mostOften_134 (by decide) ?_
    refine g_iload 4 dX12_mostOften_136 rfl ?_
    refine g_iast dX12_mostOften_138 (fun h6 => ?_)
    refine g_iload 5 dX12_mostOften_139 rfl ?_
    exact g_iret rfl dX12_mostOften_141
  · refine g_aload_n 0 dX12_mostOften_45 rfl ?_
    refine g_getR fl_RX12_13 rfl dX12_mostOften_46 (fun v7 => ?_)
    refine g_bipush (v := 51) dX12_mostOften_49 (by decide) ?_
    refine g_iload 6 dX12_mostOften_51 rfl ?_
    refine g_iast dX12_mostOften_53 (fun h8 => ?_)
    refine g_aload_n 0 dX12_mostOften_54 rfl ?_
    refine g_aload_n 0 dX12_mostOften_55 rfl ?_
    refine g_callVi (J := I_X12_standNow) (t := 13) (As := []) (rest := [.ref l0]) mjv_X12_standNow ml_RX12_260 ⟨rfl, by decide, by decide⟩ (by decide) rfl rfl (Nat.le_of_ble_eq_true rfl) dX12_mostOften_56 (T_X12_standNow F l0 h8) (fun v9 h10 => ?_)
    refine g_iload_n 1 dX12_mostOften_59 rfl ?_
    refine g_iload_n 2 dX12_mostOften_60 rfl ?_
    refine g_callVi (J := I_X12_toldTo) (t := 13) (As := [.int v9, .int l1, .int l2]) (rest := []) mjv_X12_toldTo ml_RX12_266 ⟨rfl, by decide, by decide⟩ (by decide) rfl rfl (Nat.le_of_ble_eq_true rfl) dX12_mostOften_61 (T_X12_toldTo F l0 v9 l1 l2 h10) (fun v11 h12 => ?_)
    refine g_iconst (v := 1) dX12_mostOften_64 (by decide) ?_
    refine g_iload_n 1 dX12_mostOften_65 rfl ?_
    refine g_isub dX12_mostOften_66 ?_
    refine g_iload_n 2 dX12_mostOften_67 rfl ?_
    refine g_callSi (J := I_X12_ageIn) (As := [.int v11, .int (1 - l1), .int l2]) (rest := []) mjs_X12_ageIn ml_RX12_214 (by decide) rfl rfl (Nat.le_of_ble_eq_true rfl) dX12_mostOften_68 (T_X12_ageIn F v11 (1 - l1) l2 h12) (fun v13 h14 => ?_)
    refine g_istore (lv' := [(7, .int v13), (0, .ref l0), (1, .int l1), (2, .int l2), (3, .int l3), (4, .int l4), (5, .int l5), (6, .int l6)]) dX12_mostOften_71 (by decide) rfl ?_
    refine g_aload_n 1 dX12_mostOften_73 rfl ?_
    refine g_getR fl_RX12_57 rfl dX12_mostOften_74 (fun v15 => ?_)
    refine g_iload 0 dX12_mostOften_77 rfl ?_
    refine g_dup2 dX12_mostOften_79 rfl rfl ?_
    refine g_iald dX12_mostOften_80 (fun v16 => ?_)
    refine g_iload_n 4 dX12_mostOften_81 rfl ?_
    refine g_i2l dX12_mostOften_82 ?_
    refine g_iload 7 dX12_mostOften_83 rfl ?_
    refine g_callSi (J := I_X12_isIn) (As := [.long (l3.toInt64), .int l6]) (rest := [.int v16, .int v13, .ref v15]) mjs_X12_isIn ml_RX12_236 (by decide) rfl rfl (Nat.le_of_ble_eq_true rfl) dX12_mostOften_85 (T_X12_isIn F (l3.toInt64) l6 h14) (fun v17 h18 => ?_)
    refine g_if_eq (tgt := 95) dX12_mostOften_88 (by decide) (fun c19 => ?_) (fun c19 => ?_)
    · refine g_iconst (v := 0) dX12_mostOften_95 (by decide) ?_
      refine G_lv [1, 2, 3, 4, 5, 6, 7, 0] rfl ?_
      exact T_X12_mostOften_96 F hK38 l0 l1 l2 l3 l4 l5 l6 v13 0 v16 v13 v15 h18
    · refine g_iconst (v := 1) dX12_mostOften_91 (by decide) ?_
      refine g_goto (tgt := 96) dX12_mostOften_92 (by decide) ?_
      refine G_lv [1, 2, 3, 4, 5, 6, 7, 0] rfl ?_
      exact T_X12_mostOften_96 F hK38 l0 l1 l2 l3 l4 l5 l6 v13 1 v16 v13 v15 h18
set_option maxRecDepth 100000 in
noncomputable def f_X12_mostOften_38 (F : Nat) : Nat → Nat → Int32 → Int32 → Int32 → Int32 → Int32 → Int32 → Hp → Option (Int32 × Hp)
  | 0, _, _, _, _, _, _, _, _ => none
  | n + 1, l0, l1, l2, l3, l4, l5, l6, h => f_X12_mostOften_38_b F (f_X12_mostOften_38 F n) l0 l1 l2 l3 l4 l5 l6 h
set_option maxRecDepth 100000 in
set_option maxHeartbeats 4000000 in
theorem T_X12_mostOften_38 (F : Nat) : ∀ (n : Nat) (l0 : Nat) (l1 : Int32) (l2 : Int32) (l3 : Int32) (l4 : Int32) (l5 : Int32) (l6 : Int32) (h : Hp), G rvI I_X12_mostOften 6 38 [(0, .ref l0), (1, .int l1), (2, .int l2), (3, .int l3), (4, .int l4), (5, .int l5), (6, .int l6)] [] h (f_X12_mostOften_38 F n l0 l1 l2 l3 l4 l5 l6 h) := by
  intro n
  induction n with
  | zero => intros; exact G_none
  | succ n ih => intro l0 l1 l2 l3 l4 l5 l6 h; exact T_X12_mostOften_38_b F ih l0 l1 l2 l3 l4 l5 l6 h
set_option maxRecDepth 100000 in
noncomputable def f_X12_mostOften_15_b (F : Nat) (K15 : Nat → Int32 → Int32 → Int32 → Int32 → Int32 → Int32 → Hp → Option (Int32 × Hp)) (l0 : Nat) (l1 : Int32) (l2 : Int32) (l3 : Int32) (l4 : Int32) (l5 : Int32) (l6 : Int32) (h : Hp) : Option (Int32 × Hp) :=
  if 3 < l6 then (f_X12_mostOften_38 F F l0 l1 l2 l3 l4 l5 0 h) else (gR 13 h l0 30 fun v26 => wI h v26 l6 0 fun h27 => K15 l0 l1 l2 l3 l4 l5 (l6 + 1) h27)
set_option maxRecDepth 100000 in
set_option maxHeartbeats 4000000 in
theorem T_X12_mostOften_15_b (F : Nat) {K15 : Nat → Int32 → Int32 → Int32 → Int32 → Int32 → Int32 → Hp → Option (Int32 × Hp)} (hK15 : ∀ (l0 : Nat) (l1 : Int32) (l2 : Int32) (l3 : Int32) (l4 : Int32) (l5 : Int32) (l6 : Int32) (h : Hp), G rvI I_X12_mostOften 6 15 [(0, .ref l0), (1, .int l1), (2, .int l2), (3, .int l3), (4, .int l4), (5, .int l5), (6, .int l6)] [] h (K15 l0 l1 l2 l3 l4 l5 l6 h)) (l0 : Nat) (l1 : Int32) (l2 : Int32) (l3 : Int32) (l4 : Int32) (l5 : Int32) (l6 : Int32) (h : Hp) : G rvI I_X12_mostOften 6 15 [(0, .ref l0), (1, .int l1), (2, .int l2), (3, .int l3), (4, .int l4), (5, .int l5), (6, .int l6)] [] h (f_X12_mostOften_15_b F K15 l0 l1 l2 l3 l4 l5 l6 h) := by
  delta f_X12_mostOften_15_b
  refine g_iload 6 dX12_mostOften_15 rfl ?_
  refine g_iconst (v := 3) dX12_mostOften_17 (by decide) ?_
  refine g_icmp_gt (tgt := 35) dX12_mostOften_18 (by decide) (fun c3 => ?_) (fun c3 => ?_)
  · refine g_iconst (v := 0) dX12_mostOften_35 (by decide) ?_
    refine g_istore (lv' := [(6, .int 0), (0, .ref l0), (1, .int l1), (2, .int l2), (3, .int l3), (4, .int l4), (5, .int l5)]) dX12_mostOften_36 (by decide) rfl ?_
    refine G_lv [1, 2, 3, 4, 5, 6, 0] rfl ?_
    exact T_X12_mostOften_38 F F l0 l1 l2 l3 l4 l5 0 h
  · refine g_aload_n 0 dX12_mostOften_21 rfl ?_
    refine g_getR fl_RX12_57 rfl dX12_mostOften_22 (fun v26 => ?_)
    refine g_iload 6 dX12_mostOften_25 rfl ?_
    refine g_iconst (v := 0) dX12_mostOften_27 (by decide) ?_
    refine g_iast dX12_mostOften_28 (fun h27 => ?_)
    refine g_iinc (v' := l6 + 1) (lv' := [(6, .int (l6 + 1)), (0, .ref l0), (1, .int l1), (2, .int l2), (3, .int l3), (4, .int l4), (5, .int l5)]) 6 dX12_mostOften_29 rfl rfl (by decide) rfl ?_
    refine g_goto (tgt := 15) dX12_mostOften_32 (by decide) ?_
    refine G_lv [1, 2, 3, 4, 5, 6, 0] rfl ?_
    exact hK15 l0 l1 l2 l3 l4 l5 (l6 + 1) h27
set_option maxRecDepth 100000 in
noncomputable def f_X12_mostOften_15 (F : Nat) : Nat → Nat → Int32 → Int32 → Int32 → Int32 → Int32 → Int32 → Hp → Option (Int32 × Hp)
  | 0, _, _, _, _, _, _, _, _ => none
  | n + 1, l0, l1, l2, l3, l4, l5, l6, h => f_X12_mostOften_15_b F (f_X12_mostOften_15 F n) l0 l1 l2 l3 l4 l5 l6 h
set_option maxRecDepth 100000 in
set_option maxHeartbeats 4000000 in
theorem T_X12_mostOften_15 (F : Nat) : ∀ (n : Nat) (l0 : Nat) (l1 : Int32) (l2 : Int32) (l3 : Int32) (l4 : Int32) (l5 : Int32) (l6 : Int32) (h : Hp), G rvI I_X12_mostOften 6 15 [(0, .ref l0), (1, .int l1), (2, .int l2), (3, .int l3), (4, .int l4), (5, .int l5), (6, .int l6)] [] h (f_X12_mostOften_15 F n l0 l1 l2 l3 l4 l5 l6 h) := by
  intro n
  induction n with
  | zero => intros; exact G_none
  | succ n ih => intro l0 l1 l2 l3 l4 l5 l6 h; exact T_X12_mostOften_15_b F ih l0 l1 l2 l3 l4 l5 l6 h
set_option maxRecDepth 100000 in
noncomputable def f_X12_mostOften (F : Nat) (a0 : Nat) (a1 : Int32) (a2 : Int32) (a3 : Int32) (h : Hp) : Option (Int32 × Hp) :=
  gR 13 h a0 1 fun v1 => aI 20 h v1 51 fun v2 => f_X12_mostOften_15 F F a0 a1 a2 a3 v2 0 0 h
set_option maxRecDepth 100000 in
set_option maxHeartbeats 4000000 in
theorem T_X12_mostOften (F : Nat) (a0 : Nat) (a1 : Int32) (a2 : Int32) (a3 : Int32) (h : Hp) : GM rvI I_X12_mostOften 6 [.ref a0, .int a1, .int a2, .int a3] h (f_X12_mostOften F a0 a1 a2 a3 h) := by
  delta f_X12_mostOften
  refine GM_of (lv := [(0, .ref a0), (1, .int a1), (2, .int a2), (3, .int a3)]) (by decide +kernel) (Nat.le_of_ble_eq_true rfl) rfl ?_
  refine g_aload_n 0 dX12_mostOften_0 rfl ?_
  refine g_getR fl_RX12_13 rfl dX12_mostOften_1 (fun v1 => ?_)
  refine g_bipush (v := 51) dX12_mostOften_4 (by decide) ?_
  refine g_iald dX12_mostOften_6 (fun v2 => ?_)
  refine g_istore (lv' := [(4, .int v2), (0, .ref a0), (1, .int a1), (2, .int a2), (3, .int a3)]) dX12_mostOften_7 (by decide) rfl ?_
  refine g_iconst (v := 0) dX12_mostOften_9 (by decide) ?_
  refine g_istore (lv' := [(5, .int 0), (4, .int v2), (0, .ref a0), (1, .int a1), (2, .int a2), (3, .int a3)]) dX12_mostOften_10 (by decide) rfl ?_
  refine g_iconst (v := 0) dX12_mostOften_12 (by decide) ?_
  refine g_istore (lv' := [(6, .int 0), (5, .int 0), (4, .int v2), (0, .ref a0), (1, .int a1), (2, .int a2), (3, .int a3)]) dX12_mostOften_13 (by decide) rfl ?_
  refine G_lv [3, 4, 5, 6, 2, 1, 0] rfl ?_
  exact T_X12_mostOften_15 F F a0 a1 a2 a3 v2 0 0 h
set_option maxRecDepth 100000 in
noncomputable def f_X12_isSet (F : Nat) (a0 : Nat) (a1 : Int32) (h : Hp) : Option (Int32 × Hp) :=
  if a1 < 0 then (some (0, h)) else (gR 13 h a0 1 fun v2 => aI 20 h v2 2 fun v3 => if ((1 : Int32) <<< (v3 &&& 31)) ≤ a1 then (some (0, h)) else (some (1, h)))
set_option maxRecDepth 100000 in
set_option maxHeartbeats 4000000 in
theorem T_X12_isSet (F : Nat) (a0 : Nat) (a1 : Int32) (h : Hp) : GM rvI I_X12_isSet 1 [.ref a0, .int a1] h (f_X12_isSet F a0 a1 h) := by
  delta f_X12_isSet
  refine GM_of (lv := [(0, .ref a0), (1, .int a1)]) (by decide +kernel) (Nat.le_of_ble_eq_true rfl) rfl ?_
  refine g_iload_n 1 dX12_isSet_0 rfl ?_
  refine g_if_lt (tgt := 20) dX12_isSet_1 (by decide) (fun c1 => ?_) (fun c1 => ?_)
  · refine g_iconst (v := 0) dX12_isSet_20 (by decide) ?_
    exact g_zret (ty := .boolean) rfl rfl dX12_isSet_21
  · refine g_iload_n 1 dX12_isSet_4 rfl ?_
    refine g_iconst (v := 1) dX12_isSet_5 (by decide) ?_
    refine g_aload_n 0 dX12_isSet_6 rfl ?_
    refine g_getR fl_RX12_13 rfl dX12_isSet_7 (fun v2 => ?_)
    refine g_iconst (v := 2) dX12_isSet_10 (by decide) ?_
    refine g_iald dX12_isSet_11 (fun v3 => ?_)
    refine g_ishl dX12_isSet_12 ?_
    refine g_icmp_ge (tgt := 20) dX12_isSet_13 (by decide) (fun c4 => ?_) (fun c4 => ?_)
    · refine g_iconst (v := 0) dX12_isSet_20 (by decide) ?_
      exact g_zret (ty := .boolean) rfl rfl dX12_isSet_21
    · refine g_iconst (v := 1) dX12_isSet_16 (by decide) ?_
      refine g_goto (tgt := 21) dX12_isSet_17 (by decide) ?_
      exact g_zret (ty := .boolean) rfl rfl dX12_isSet_21
set_option maxRecDepth 100000 in
noncomputable def f_X12_areSets (F : Nat) (a0 : Nat) (a1 : Int32) (a2 : Int32) (h : Hp) : Option (Int32 × Hp) :=
  cV 13 h a0 (f_X12_isSet F a0 a1 h) fun v1 h2 => if v1 = 0 then (some (0, h2)) else (cV 13 h2 a0 (f_X12_isSet F a0 a2 h2) fun v4 h5 => if v4 = 0 then (some (0, h5)) else (some (1, h5)))
set_option maxRecDepth 100000 in
set_option maxHeartbeats 4000000 in
theorem T_X12_areSets (F : Nat) (a0 : Nat) (a1 : Int32) (a2 : Int32) (h : Hp) : GM rvI I_X12_areSets 2 [.ref a0, .int a1, .int a2] h (f_X12_areSets F a0 a1 a2 h) := by
  delta f_X12_areSets
  refine GM_of (lv := [(0, .ref a0), (1, .int a1), (2, .int a2)]) (by decide +kernel) (Nat.le_of_ble_eq_true rfl) rfl ?_
  refine g_aload_n 0 dX12_areSets_0 rfl ?_
  refine g_iload_n 1 dX12_areSets_1 rfl ?_
  refine g_callVi (J := I_X12_isSet) (t := 13) (As := [.int a1]) (rest := []) mjv_X12_isSet ml_RX12_372 ⟨rfl, by decide, by decide⟩ (by decide) rfl rfl (Nat.le_of_ble_eq_true rfl) dX12_areSets_2 (T_X12_isSet F a0 a1 h) (fun v1 h2 => ?_)
  refine g_if_eq (tgt := 20) dX12_areSets_5 (by decide) (fun c3 => ?_) (fun c3 => ?_)
  · refine g_iconst (v := 0) dX12_areSets_20 (by decide) ?_
    exact g_zret (ty := .boolean) rfl rfl dX12_areSets_21
  · refine g_aload_n 0 dX12_areSets_8 rfl ?_
    refine g_iload_n 2 dX12_areSets_9 rfl ?_
    refine g_callVi (J := I_X12_isSet) (t := 13) (As := [.int a2]) (rest := []) mjv_X12_isSet ml_RX12_372 ⟨rfl, by decide, by decide⟩ (by decide) rfl rfl (Nat.le_of_ble_eq_true rfl) dX12_areSets_10 (T_X12_isSet F a0 a2 h2) (fun v4 h5 => ?_)
    refine g_if_eq (tgt := 20) dX12_areSets_13 (by decide) (fun c6 => ?_) (fun c6 => ?_)
    · refine g_iconst (v := 0) dX12_areSets_20 (by decide) ?_
      exact g_zret (ty := .boolean) rfl rfl dX12_areSets_21
    · refine g_iconst (v := 1) dX12_areSets_16 (by decide) ?_
      refine g_goto (tgt := 21) dX12_areSets_17 (by decide) ?_
      exact g_zret (ty := .boolean) rfl rfl dX12_areSets_21
set_option maxRecDepth 100000 in
noncomputable def f_X12_isTelling (F : Nat) (a0 : Nat) (a1 : Int64) (h : Hp) : Option (Int32 × Hp) :=
  bd (f_X12_within F a1 0 19 h) fun v1 h2 => if v1 = 0 then (some (0, h2)) else (cV 13 h2 a0 (f_X12_isFact F a0 (a1 - a1 / 10 * 10) h2) fun v4 h5 => if v4 = 0 then (some (0, h5)) else (some (1, h5)))
set_option maxRecDepth 100000 in
set_option maxHeartbeats 4000000 in
theorem T_X12_isTelling (F : Nat) (a0 : Nat) (a1 : Int64) (h : Hp) : GM rvI I_X12_isTelling 3 [.ref a0, .long a1] h (f_X12_isTelling F a0 a1 h) := by
  delta f_X12_isTelling
  refine GM_of (lv := [(0, .ref a0), (1, .long a1)]) (by decide +kernel) (Nat.le_of_ble_eq_true rfl) rfl ?_
  refine g_lload_n 1 dX12_isTelling_0 rfl ?_
  refine g_lconst (v := 0) dX12_isTelling_1 (by decide) ?_
  refine g_ldc2 (v := 19) dX12_isTelling_2 cl_RX12_303 ?_
  refine g_callSi (J := I_X12_within) (As := [.long a1, .long 0, .long 19]) (rest := []) mjs_X12_within ml_RX12_138 (by decide) rfl rfl (Nat.le_of_ble_eq_true rfl) dX12_isTelling_5 (T_X12_within F a1 0 19 h) (fun v1 h2 => ?_)
  refine g_if_eq (tgt := 27) dX12_isTelling_8 (by decide) (fun c3 => ?_) (fun c3 => ?_)
  · refine g_iconst (v := 0) dX12_isTelling_27 (by decide) ?_
    exact g_zret (ty := .boolean) rfl rfl dX12_isTelling_28
  · refine g_aload_n 0 dX12_isTelling_11 rfl ?_
    refine g_lload_n 1 dX12_isTelling_12 rfl ?_
    refine g_ldc2 (v := 10) dX12_isTelling_13 cl_RX12_295 ?_
    refine g_lrem (by decide) dX12_isTelling_16 ?_
    refine g_callVi (J := I_X12_isFact) (t := 13) (As := [.long (a1 - a1 / 10 * 10)]) (rest := []) mjv_X12_isFact ml_RX12_254 ⟨rfl, by decide, by decide⟩ (by decide) rfl rfl (Nat.le_of_ble_eq_true rfl) dX12_isTelling_17 (T_X12_isFact F a0 (a1 - a1 / 10 * 10) h2) (fun v4 h5 => ?_)
    refine g_if_eq (tgt := 27) dX12_isTelling_20 (by decide) (fun c6 => ?_) (fun c6 => ?_)
    · refine g_iconst (v := 0) dX12_isTelling_27 (by decide) ?_
      exact g_zret (ty := .boolean) rfl rfl dX12_isTelling_28
    · refine g_iconst (v := 1) dX12_isTelling_23 (by decide) ?_
      refine g_goto (tgt := 28) dX12_isTelling_24 (by decide) ?_
      exact g_zret (ty := .boolean) rfl rfl dX12_isTelling_28
set_option maxRecDepth 100000 in
noncomputable def f_X12_noTray (F : Nat) (a0 : Nat) (a1 : Int32) (h : Hp) : Option (Int32 × Hp) :=
  bd (f_X12_within F (a1.toInt64) 0 3 h) fun v1 h2 => if v1 = 0 then (some ((-2), h2)) else (gR 13 h2 a0 32 fun v4 => aI 20 h2 v4 a1 fun v5 => if v5 = (-1) then (some ((-6), h2)) else (some (0, h2)))
set_option maxRecDepth 100000 in
set_option maxHeartbeats 4000000 in
theorem T_X12_noTray (F : Nat) (a0 : Nat) (a1 : Int32) (h : Hp) : GM rvI I_X12_noTray 2 [.ref a0, .int a1] h (f_X12_noTray F a0 a1 h) := by
  delta f_X12_noTray
  refine GM_of (lv := [(0, .ref a0), (1, .int a1)]) (by decide +kernel) (Nat.le_of_ble_eq_true rfl) rfl ?_
  refine g_iload_n 1 dX12_noTray_0 rfl ?_
  refine g_i2l dX12_noTray_1 ?_
  refine g_lconst (v := 0) dX12_noTray_2 (by decide) ?_
  refine g_ldc2 (v := 3) dX12_noTray_3 cl_RX12_319 ?_
  refine g_callSi (J := I_X12_within) (As := [.long (a1.toInt64), .long 0, .long 3]) (rest := []) mjs_X12_within ml_RX12_138 (by decide) rfl rfl (Nat.le_of_ble_eq_true rfl) dX12_noTray_6 (T_X12_within F (a1.toInt64) 0 3 h) (fun v1 h2 => ?_)
  refine g_if_ne (tgt := 17) dX12_noTray_9 (by decide) (fun c3 => ?_) (fun c3 => ?_)
  · refine g_bipush (v := (-2)) dX12_noTray_12 (by decide) ?_
    refine g_goto (tgt := 33) dX12_noTray_14 (by decide) ?_
    exact g_iret rfl dX12_noTray_33
  · refine g_aload_n 0 dX12_noTray_17 rfl ?_
    refine g_getR fl_RX12_63 rfl dX12_noTray_18 (fun v4 => ?_)
    refine g_iload_n 1 dX12_noTray_21 rfl ?_
    refine g_iald dX12_noTray_22 (fun v5 => ?_)
    refine g_iconst (v := (-1)) dX12_noTray_23 (by decide) ?_
    refine g_icmp_ne (tgt := 32) dX12_noTray_24 (by decide) (fun c6 => ?_) (fun c6 => ?_)
    · refine g_bipush (v := (-6)) dX12_noTray_27 (by decide) ?_
      refine g_goto (tgt := 33) dX12_noTray_29 (by decide) ?_
      exact g_iret rfl dX12_noTray_33
    · refine g_iconst (v := 0) dX12_noTray_32 (by decide) ?_
      exact g_iret rfl dX12_noTray_33
