/-! L2, by program (wip/whole/gen/gen.py) -/
set_option maxRecDepth 100000 in
noncomputable def f_X12_noBonds_90 (F : Nat) (K38 : Nat → Int32 → Int32 → Int32 → Int32 → Hp → Option (Int32 × Hp)) (l0 : Nat) (l1 : Int32) (l2 : Int32) (l3 : Int32) (l5 : Int32) (h : Hp) : Option (Int32 × Hp) :=
  K38 l0 l1 l2 l3 (l5 + 1) h
set_option maxRecDepth 100000 in
set_option maxHeartbeats 4000000 in
theorem T_X12_noBonds_90 (F : Nat) {K38 : Nat → Int32 → Int32 → Int32 → Int32 → Hp → Option (Int32 × Hp)} (hK38 : ∀ (l0 : Nat) (l1 : Int32) (l2 : Int32) (l3 : Int32) (l5 : Int32) (h : Hp), G rvI I_X12_noBonds 4 38 [(0, .ref l0), (1, .int l1), (2, .int l2), (3, .int l3), (5, .int l5)] [] h (K38 l0 l1 l2 l3 l5 h)) (l0 : Nat) (l1 : Int32) (l2 : Int32) (l3 : Int32) (l5 : Int32) (h : Hp) : G rvI I_X12_noBonds 4 90 [(0, .ref l0), (1, .int l1), (2, .int l2), (3, .int l3), (5, .int l5)] [] h (f_X12_noBonds_90 F K38 l0 l1 l2 l3 l5 h) := by
  delta f_X12_noBonds_90
  refine g_iinc (v' := l5 + 1) (lv' := [(5, .int (l5 + 1)), (0, .ref l0), (1, .int l1), (2, .int l2), (3, .int l3)]) 4 dX12_noBonds_90 rfl rfl (by decide) rfl ?_
  refine g_goto (tgt := 38) dX12_noBonds_93 (by decide) ?_
  refine G_lv [1, 2, 3, 4, 0] rfl ?_
  exact hK38 l0 l1 l2 l3 (l5 + 1) h
set_option maxRecDepth 100000 in
noncomputable def f_X12_noBonds_38_b (F : Nat) (K38 : Nat → Int32 → Int32 → Int32 → Int32 → Hp → Option (Int32 × Hp)) (l0 : Nat) (l1 : Int32) (l2 : Int32) (l3 : Int32) (l5 : Int32) (h : Hp) : Option (Int32 × Hp) :=
  gR 13 h l0 33 fun v9 => aI 20 h v9 l1 fun v10 => if v10 ≤ l5 then (cV 13 h l0 (f_X12_areSets F l0 l2 l3 h) fun v12 h13 => if v12 = 0 then (some ((-3), h13)) else (some (0, h13))) else (gR 13 h l0 34 fun v15 => aL h v15 ((40 * l1) + l5) fun v16 => if ((v16 : Int64) = (-1) : Prop) then (f_X12_noBonds_90 F K38 l0 l1 l2 l3 l5 h) else (gR 13 h l0 34 fun v18 => aL h v18 ((40 * l1) + l5) fun v19 => cV 13 h l0 (f_X12_isTelling F l0 v19 h) fun v20 h21 => if v20 = 0 then (some ((-3), h21)) else (f_X12_noBonds_90 F K38 l0 l1 l2 l3 l5 h21)))
set_option maxRecDepth 100000 in
set_option maxHeartbeats 4000000 in
theorem T_X12_noBonds_38_b (F : Nat) {K38 : Nat → Int32 → Int32 → Int32 → Int32 → Hp → Option (Int32 × Hp)} (hK38 : ∀ (l0 : Nat) (l1 : Int32) (l2 : Int32) (l3 : Int32) (l5 : Int32) (h : Hp), G rvI I_X12_noBonds 4 38 [(0, .ref l0), (1, .int l1), (2, .int l2), (3, .int l3), (5, .int l5)] [] h (K38 l0 l1 l2 l3 l5 h)) (l0 : Nat) (l1 : Int32) (l2 : Int32) (l3 : Int32) (l5 : Int32) (h : Hp) : G rvI I_X12_noBonds 4 38 [(0, .ref l0), (1, .int l1), (2, .int l2), (3, .int l3), (5, .int l5)] [] h (f_X12_noBonds_38_b F K38 l0 l1 l2 l3 l5 h) := by
  delta f_X12_noBonds_38_b
  refine g_iload 4 dX12_noBonds_38 rfl ?_
  refine g_aload_n 0 dX12_noBonds_40 rfl ?_
  refine g_getR fl_RX12_66 rfl dX12_noBonds_41 (fun v9 => ?_)
  refine g_iload_n 1 dX12_noBonds_44 rfl ?_
  refine g_iald dX12_noBonds_45 (fun v10 => ?_)
  refine g_icmp_ge (tgt := 96) dX12_noBonds_46 (by decide) (fun c11 => ?_) (fun c11 => ?_)
  · refine g_aload_n 0 dX12_noBonds_96 rfl ?_
    refine g_iload_n 2 dX12_noBonds_97 rfl ?_
    refine g_iload_n 3 dX12_noBonds_98 rfl ?_
    refine g_callVi (J := I_X12_areSets) (t := 13) (As := [.int l2, .int l3]) (rest := []) mjv_X12_areSets ml_RX12_375 ⟨rfl, by decide, by decide⟩ (by decide) rfl rfl (Nat.le_of_ble_eq_true rfl) dX12_noBonds_99 (T_X12_areSets F l0 l2 l3 h) (fun v12 h13 => ?_)
    refine g_if_eq (tgt := 109) dX12_noBonds_102 (by decide) (fun c14 => ?_) (fun c14 => ?_)
    · refine g_bipush (v := (-3)) dX12_noBonds_109 (by decide) ?_
      exact g_iret rfl dX12_noBonds_111
    · refine g_iconst (v := 0) dX12_noBonds_105 (by decide) ?_
      refine g_goto (tgt := 111) dX12_noBonds_106 (by decide) ?_
      exact g_iret rfl dX12_noBonds_111
  · refine g_aload_n 0 dX12_noBonds_49 rfl ?_
    refine g_getR fl_RX12_69 rfl dX12_noBonds_50 (fun v15 => ?_)
    refine g_bipush (v := 40) dX12_noBonds_53 (by decide) ?_
    refine g_iload_n 1 dX12_noBonds_55 rfl ?_
    refine g_imul dX12_noBonds_56 ?_
    refine g_iload 4 dX12_noBonds_57 rfl ?_
    refine g_iadd dX12_noBonds_59 ?_
    refine g_lald dX12_noBonds_60 (fun v16 => ?_)
    refine g_ldc2 (v := (-1)) dX12_noBonds_61 cl_RX12_297 ?_
    refine g_lc_eq (x := v16) (y := (-1)) (tgt := 90) dX12_noBonds_64 dX12_noBonds_65 (by decide) (fun c17 => ?_) (fun c17 => ?_)
    · refine G_lv [0, 1, 2, 3, 4] rfl ?_
      exact T_X12_noBonds_90 F hK38 l0 l1 l2 l3 l5 h
    · refine g_aload_n 0 dX12_noBonds_68 rfl ?_
      refine g_aload_n 0 dX12_noBonds_69 rfl ?_
      refine g_getR fl_RX12_69 rfl dX12_noBonds_70 (fun v18 => ?_)
      refine g_bipush (v := 40) dX12_noBonds_73 (by decide) ?_
      refine g_iload_n 1 dX12_noBonds_75 rfl ?_
      refine g_imul dX12_noBonds_76 ?_
      refine g_iload 4 dX12_noBonds_77 rfl ?_
      refine g_iadd dX12_noBonds_79 ?_
      refine g_lald dX12_noBonds_80 (fun v19 => ?_)
      refine g_callVi (J := I_X12_isTelling) (t := 13) (As := [.long v19]) (rest := []) mjv_X12_isTelling ml_RX12_413 ⟨rfl, by decide, by decide⟩ (by decide) rfl rfl (Nat.le_of_ble_eq_true rfl) dX12_noBonds_81 (T_X12_isTelling F l0 v19 h) (fun v20 h21 => ?_)
      refine g_if_ne (tgt := 90) dX12_noBonds_84 (by decide) (fun c22 => ?_) (fun c22 => ?_)
      · refine g_bipush (v := (-3)) dX12_noBonds_87 (by decide) ?_
        exact g_iret rfl dX12_noBonds_89
      · refine G_lv [0, 1, 2, 3, 4] rfl ?_
        exact T_X12_noBonds_90 F hK38 l0 l1 l2 l3 l5 h21
set_option maxRecDepth 100000 in
noncomputable def f_X12_noBonds_38 (F : Nat) : Nat → Nat → Int32 → Int32 → Int32 → Int32 → Hp → Option (Int32 × Hp)
  | 0, _, _, _, _, _, _ => none
  | n + 1, l0, l1, l2, l3, l5, h => f_X12_noBonds_38_b F (f_X12_noBonds_38 F n) l0 l1 l2 l3 l5 h
set_option maxRecDepth 100000 in
set_option maxHeartbeats 4000000 in
theorem T_X12_noBonds_38 (F : Nat) : ∀ (n : Nat) (l0 : Nat) (l1 : Int32) (l2 : Int32) (l3 : Int32) (l5 : Int32) (h : Hp), G rvI I_X12_noBonds 4 38 [(0, .ref l0), (1, .int l1), (2, .int l2), (3, .int l3), (5, .int l5)] [] h (f_X12_noBonds_38 F n l0 l1 l2 l3 l5 h) := by
  intro n
  induction n with
  | zero => intros; exact G_none
  | succ n ih => intro l0 l1 l2 l3 l5 h; exact T_X12_noBonds_38_b F ih l0 l1 l2 l3 l5 h
set_option maxRecDepth 100000 in
noncomputable def f_X12_noBonds (F : Nat) (a0 : Nat) (a1 : Int32) (a2 : Int32) (a3 : Int32) (h : Hp) : Option (Int32 × Hp) :=
  cV 13 h a0 (f_X12_noTray F a0 a1 h) fun v1 h2 => if v1 = 0 then (gR 13 h2 a0 33 fun v4 => aI 20 h2 v4 a1 fun v5 => bd (f_X12_within F (v5.toInt64) 1 12 h2) fun v6 h7 => if v6 = 0 then (some ((-4), h7)) else (f_X12_noBonds_38 F F a0 a1 a2 a3 0 h7)) else (some (v1, h2))
set_option maxRecDepth 100000 in
set_option maxHeartbeats 4000000 in
theorem T_X12_noBonds (F : Nat) (a0 : Nat) (a1 : Int32) (a2 : Int32) (a3 : Int32) (h : Hp) : GM rvI I_X12_noBonds 4 [.ref a0, .int a1, .int a2, .int a3] h (f_X12_noBonds F a0 a1 a2 a3 h) := by
  delta f_X12_noBonds
  refine GM_of (lv := [(0, .ref a0), (1, .int a1), (2, .int a2), (3, .int a3)]) (by decide +kernel) (Nat.le_of_ble_eq_true rfl) rfl ?_
  refine g_aload_n 0 dX12_noBonds_0 rfl ?_
  refine g_iload_n 1 dX12_noBonds_1 rfl ?_
  refine g_callVi (J := I_X12_noTray) (t := 13) (As := [.int a1]) (rest := []) mjv_X12_noTray ml_RX12_321 ⟨rfl, by decide, by decide⟩ (by decide) rfl rfl (Nat.le_of_ble_eq_true rfl) dX12_noBonds_2 (T_X12_noTray F a0 a1 h) (fun v1 h2 => ?_)
  refine g_istore (lv' := [(4, .int v1), (0, .ref a0), (1, .int a1), (2, .int a2), (3, .int a3)]) dX12_noBonds_5 (by decide) rfl ?_
  refine g_iload 0 dX12_noBonds_7 rfl ?_
  refine g_if_eq (tgt := 15) dX12_noBonds_9 (by decide) (fun c3 => ?_) (fun c3 => ?_)
  · refine g_aload_n 1 dX12_noBonds_15 rfl ?_
    refine g_getR fl_RX12_66 rfl dX12_noBonds_16 (fun v4 => ?_)
    refine g_iload_n 2 dX12_noBonds_19 rfl ?_
    refine g_iald dX12_noBonds_20 (fun v5 => ?_)
    refine g_i2l dX12_noBonds_21 ?_
    refine g_lconst (v := 1) dX12_noBonds_22 (by decide) ?_
    refine g_ldc2 (v := 12) dX12_noBonds_23 cl_RX12_396 ?_
    refine g_callSi (J := I_X12_within) (As := [.long (v5.toInt64), .long 1, .long 12]) (rest := []) mjs_X12_within ml_RX12_138 (by decide) rfl rfl (Nat.le_of_ble_eq_true rfl) dX12_noBonds_26 (T_X12_within F (v5.toInt64) 1 12 h2) (fun v6 h7 => ?_)
    refine g_if_ne (tgt := 35) dX12_noBonds_29 (by decide) (fun c8 => ?_) (fun c8 => ?_)
    · refine g_bipush (v := (-4)) dX12_noBonds_32 (by decide) ?_
      exact g_iret rfl dX12_noBonds_34
    · refine g_iconst (v := 0) dX12_noBonds_35 (by decide) ?_
      refine g_istore (lv' := [(5, .int 0), (4, .int v1), (0, .ref a0), (1, .int a1), (2, .int a2), (3, .int a3)]) dX12_noBonds_36 (by decide) rfl ?_
      refine G_lv [2, 3, 4, 5, 0] rfl ?_
      exact T_X12_noBonds_38 F F a0 a1 a2 a3 0 h7
  · refine g_iload 0 dX12_noBonds_12 rfl ?_
    exact g_iret rfl dX12_noBonds_14
set_option maxRecDepth 100000 in
noncomputable def f_X12_attempt_125 (F : Nat) (K41 : Nat → Int32 → Int32 → Int32 → Int32 → Hp → Option (Int32 × Hp)) (l0 : Nat) (l5 : Int32) (l6 : Int32) (l7 : Int32) (l8 : Int32) (h : Hp) : Option (Int32 × Hp) :=
  K41 l0 l5 l6 l7 (l8 + 1) h
set_option maxRecDepth 100000 in
set_option maxHeartbeats 4000000 in
theorem T_X12_attempt_125 (F : Nat) {K41 : Nat → Int32 → Int32 → Int32 → Int32 → Hp → Option (Int32 × Hp)} (hK41 : ∀ (l0 : Nat) (l5 : Int32) (l6 : Int32) (l7 : Int32) (l8 : Int32) (h : Hp), G rvI I_X12_attempt 9 41 [(0, .ref l0), (5, .int l5), (6, .int l6), (7, .int l7), (8, .int l8)] [] h (K41 l0 l5 l6 l7 l8 h)) (l0 : Nat) (l5 : Int32) (l6 : Int32) (l7 : Int32) (l8 : Int32) (h : Hp) : G rvI I_X12_attempt 9 125 [(0, .ref l0), (5, .int l5), (6, .int l6), (7, .int l7), (8, .int l8)] [] h (f_X12_attempt_125 F K41 l0 l5 l6 l7 l8 h) := by
  delta f_X12_attempt_125
  refine g_iinc (v' := l8 + 1) (lv' := [(8, .int (l8 + 1)), (0, .ref l0), (5, .int l5), (6, .int l6), (7, .int l7)]) 4 dX12_attempt_125 rfl rfl (by decide) rfl ?_
  refine g_goto (tgt := 41) dX12_attempt_128 (by decide) ?_
  refine G_lv [1, 2, 3, 4, 0] rfl ?_
  exact hK41 l0 l5 l6 l7 (l8 + 1) h
set_option maxRecDepth 100000 in
noncomputable def f_X12_attempt_41_b (F : Nat) (K41 : Nat → Int32 → Int32 → Int32 → Int32 → Hp → Option (Int32 × Hp)) (l0 : Nat) (l5 : Int32) (l6 : Int32) (l7 : Int32) (l8 : Int32) (h : Hp) : Option (Int32 × Hp) :=
  if 8 ≤ l8 then (some (l6, h)) else (if l5 = 0 then (some (l6, h)) else (lt (l8 - l8 / 4 * 4) fun x9 => gR 13 h l0 1 fun v10 => aI 20 h v10 1 fun v11 => if v11 ≤ x9 then (f_X12_attempt_125 F K41 l0 l5 l6 l7 l8 h) else (cV 13 h l0 (f_X12_standNow F l0 h) fun v13 h14 => cV 13 h14 l0 (f_X12_mayTell F l0 v13 (l8 / 4) x9 h14) fun v15 h16 => if v15 = 0 then (f_X12_attempt_125 F K41 l0 l5 l6 l7 l8 h16) else (cV 13 h16 l0 (f_X12_mostOften F l0 (l8 / 4) x9 l5 h16) fun v18 h19 => if v18 < l7 then (bd (f_X12_toldMove F l8 h19) fun v21 h22 => f_X12_attempt_125 F K41 l0 l5 v21 v18 l8 h22) else (f_X12_attempt_125 F K41 l0 l5 l6 l7 l8 h19)))))
set_option maxRecDepth 100000 in
set_option maxHeartbeats 4000000 in
theorem T_X12_attempt_41_b (F : Nat) {K41 : Nat → Int32 → Int32 → Int32 → Int32 → Hp → Option (Int32 × Hp)} (hK41 : ∀ (l0 : Nat) (l5 : Int32) (l6 : Int32) (l7 : Int32) (l8 : Int32) (h : Hp), G rvI I_X12_attempt 9 41 [(0, .ref l0), (5, .int l5), (6, .int l6), (7, .int l7), (8, .int l8)] [] h (K41 l0 l5 l6 l7 l8 h)) (l0 : Nat) (l5 : Int32) (l6 : Int32) (l7 : Int32) (l8 : Int32) (h : Hp) : G rvI I_X12_attempt 9 41 [(0, .ref l0), (5, .int l5), (6, .int l6), (7, .int l7), (8, .int l8)] [] h (f_X12_attempt_41_b F K41 l0 l5 l6 l7 l8 h) := by
  delta f_X12_attempt_41_b
  refine g_iload 4 dX12_attempt_41 rfl ?_
  refine g_bipush (v := 8) dX12_attempt_43 (by decide) ?_
  refine g_icmp_ge (tgt := 131) dX12_attempt_45 (by decide) (fun c7 => ?_) (fun c7 => ?_)
  · refine g_iload 2 dX12_attempt_131 rfl ?_
    exact g_iret rfl dX12_attempt_133
  · refine g_iload 1 dX12_attempt_48 rfl ?_
    refine g_if_eq (tgt := 131) dX12_attempt_50 (by decide) (fun c8 => ?_) (fun c8 => ?_)
    · refine g_iload 2 dX12_attempt_131 rfl ?_
      exact g_iret rfl dX12_attempt_133
    · refine g_iload 4 dX12_attempt_53 rfl ?_
      refine g_iconst (v := 4) dX12_attempt_55 (by decide) ?_
      refine g_irem (by decide) dX12_attempt_56 ?_
      refine G_lti (fun x9 => ?_)
      refine g_istore (lv' := [(9, .int x9), (0, .ref l0), (5, .int l5), (6, .int l6), (7, .int l7), (8, .int l8)]) dX12_attempt_57 (by decide) rfl ?_
      refine g_iload 0 dX12_attempt_59 rfl ?_
      refine g_aload_n 1 dX12_attempt_61 rfl ?_
      refine g_getR fl_RX12_13 rfl dX12_attempt_62 (fun v10 => ?_)
      refine g_iconst (v := 1) dX12_attempt_65 (by decide) ?_
      refine g_iald dX12_attempt_66 (fun v11 => ?_)
      refine g_icmp_ge (tgt := 125) dX12_attempt_67 (by decide) (fun c12 => ?_) (fun c12 => ?_)
      · refine G_lv [1, 2, 3, 4, 5] rfl ?_
        exact T_X12_attempt_125 F hK41 l0 l5 l6 l7 l8 h
      · refine g_aload_n 1 dX12_attempt_70 rfl ?_
        refine g_aload_n 1 dX12_attempt_71 rfl ?_
        refine g_callVi (J := I_X12_standNow) (t := 13) (As := []) (rest := [.ref l0]) mjv_X12_standNow ml_RX12_260 ⟨rfl, by decide, by decide⟩ (by decide) rfl rfl (Nat.le_of_ble_eq_true rfl) dX12_attempt_72 (T_X12_standNow F l0 h) (fun v13 h14 => ?_)
        refine g_iload 5 dX12_attempt_75 rfl ?_
        refine g_iconst (v := 4) dX12_attempt_77 (by decide) ?_
        refine g_idiv (by decide) dX12_attempt_78 ?_
        refine g_iload 0 dX12_attempt_79 rfl ?_
        refine g_callVi (J := I_X12_mayTell) (t := 13) (As := [.int v13, .int (l8 / 4), .int x9]) (rest := []) mjv_X12_mayTell ml_RX12_263 ⟨rfl, by decide, by decide⟩ (by decide) rfl rfl (Nat.le_of_ble_eq_true rfl) dX12_attempt_81 (T_X12_mayTell F l0 v13 (l8 / 4) x9 h14) (fun v15 h16 => ?_)
        refine g_if_ne (tgt := 90) dX12_attempt_84 (by decide) (fun c17 => ?_) (fun c17 => ?_)
        · refine g_goto (tgt := 125) dX12_attempt_87 (by decide) ?_
          refine G_lv [1, 2, 3, 4, 5] rfl ?_
          exact T_X12_attempt_125 F hK41 l0 l5 l6 l7 l8 h16
        · refine g_aload_n 1 dX12_attempt_90 rfl ?_
          refine g_iload 5 dX12_attempt_91 rfl ?_
          refine g_iconst (v := 4) dX12_attempt_93 (by decide) ?_
          refine g_idiv (by decide) dX12_attempt_94 ?_
          refine g_iload 0 dX12_attempt_95 rfl ?_
          refine g_iload 2 dX12_attempt_97 rfl ?_
          refine g_callVi (J := I_X12_mostOften) (t := 13) (As := [.int (l8 / 4), .int x9, .int l5]) (rest := []) mjv_X12_mostOften ml_RX12_422 ⟨rfl, by decide, by decide⟩ (by decide) rfl rfl (Nat.le_of_ble_eq_true rfl) dX12_attempt_99 (T_X12_mostOften F l0 (l8 / 4) x9 l5 h16) (fun v18 h19 => ?_)
          refine g_istore (lv' := [(10, .int v18), (9, .int x9), (0, .ref l0), (5, .int l5), (6, .int l6), (7, .int l7), (8, .int l8)]) dX12_attempt_102 (by decide) rfl ?_
          refine g_iload 0 dX12_attempt_104 rfl ?_
          refine g_iload 5 dX12_attempt_106 rfl ?_
          refine g_icmp_lt (tgt := 114) dX12_attempt_108 (by decide) (fun c20 => ?_) (fun c20 => ?_)
          · refine g_iload 6 dX12_attempt_114 rfl ?_
            refine g_callSi (J := I_X12_toldMove) (As := [.int l8]) (rest := []) mjs_X12_toldMove ml_RX12_369 (by decide) rfl rfl (Nat.le_of_ble_eq_true rfl) dX12_attempt_116 (T_X12_toldMove F l8 h19) (fun v21 h22 => ?_)
            refine g_istore (lv' := [(6, .int v21), (10, .int v18), (9, .int x9), (0, .ref l0), (5, .int l5), (7, .int l7), (8, .int l8)]) dX12_attempt_119 (by decide) rfl ?_
            refine g_iload 1 dX12_attempt_121 rfl ?_
            refine g_istore (lv' := [(7, .int v18), (6, .int v21), (10, .int v18), (9, .int x9), (0, .ref l0), (5, .int l5), (8, .int l8)]) dX12_attempt_123 (by decide) rfl ?_
            refine G_lv [4, 5, 1, 0, 6] rfl ?_
            exact T_X12_attempt_125 F hK41 l0 l5 v21 v18 l8 h22
          · refine g_goto (tgt := 125) dX12_attempt_111 (by decide) ?_
            refine G_lv [2, 3, 4, 5, 6] rfl ?_
            exact T_X12_attempt_125 F hK41 l0 l5 l6 l7 l8 h19
set_option maxRecDepth 100000 in
noncomputable def f_X12_attempt_41 (F : Nat) : Nat → Nat → Int32 → Int32 → Int32 → Int32 → Hp → Option (Int32 × Hp)
  | 0, _, _, _, _, _, _ => none
  | n + 1, l0, l5, l6, l7, l8, h => f_X12_attempt_41_b F (f_X12_attempt_41 F n) l0 l5 l6 l7 l8 h
set_option maxRecDepth 100000 in
set_option maxHeartbeats 4000000 in
theorem T_X12_attempt_41 (F : Nat) : ∀ (n : Nat) (l0 : Nat) (l5 : Int32) (l6 : Int32) (l7 : Int32) (l8 : Int32) (h : Hp), G rvI I_X12_attempt 9 41 [(0, .ref l0), (5, .int l5), (6, .int l6), (7, .int l7), (8, .int l8)] [] h (f_X12_attempt_41 F n l0 l5 l6 l7 l8 h) := by
  intro n
  induction n with
  | zero => intros; exact G_none
  | succ n ih => intro l0 l5 l6 l7 l8 h; exact T_X12_attempt_41_b F ih l0 l5 l6 l7 l8 h
set_option maxRecDepth 100000 in
noncomputable def f_X12_attempt (F : Nat) (a0 : Nat) (a1 : Int32) (a2 : Int32) (a3 : Int32) (h : Hp) : Option (Int32 × Hp) :=
  pI 13 h a0 0 0 fun h1 => cV 13 h1 a0 (f_X12_noBonds F a0 a1 a2 a3 h1) fun v2 h3 => if v2 = 0 then (cV 13 h3 a0 (f_X12_bondsOf F a0 a1 a2 a3 h3) fun v5 h6 => f_X12_attempt_41 F F a0 v5 (-1) 11 0 h6) else (some (v2, h3))
set_option maxRecDepth 100000 in
set_option maxHeartbeats 4000000 in
theorem T_X12_attempt (F : Nat) (a0 : Nat) (a1 : Int32) (a2 : Int32) (a3 : Int32) (h : Hp) : GM rvI I_X12_attempt 9 [.ref a0, .int a1, .int a2, .int a3] h (f_X12_attempt F a0 a1 a2 a3 h) := by
  delta f_X12_attempt
  refine GM_of (lv := [(0, .ref a0), (1, .int a1), (2, .int a2), (3, .int a3)]) (by decide +kernel) (Nat.le_of_ble_eq_true rfl) rfl ?_
  refine g_aload_n 0 dX12_attempt_0 rfl ?_
  refine g_iconst (v := 0) dX12_attempt_1 (by decide) ?_
  refine g_putI fl_RX12_1 (Or.inl rfl) dX12_attempt_2 (fun h1 => ?_)
  refine g_aload_n 0 dX12_attempt_5 rfl ?_
  refine g_iload_n 1 dX12_attempt_6 rfl ?_
  refine g_iload_n 2 dX12_attempt_7 rfl ?_
  refine g_iload_n 3 dX12_attempt_8 rfl ?_
  refine g_callVi (J := I_X12_noBonds) (t := 13) (As := [.int a1, .int a2, .int a3]) (rest := []) mjv_X12_noBonds ml_RX12_416 ⟨rfl, by decide, by decide⟩ (by decide) rfl rfl (Nat.le_of_ble_eq_true rfl) dX12_attempt_9 (T_X12_noBonds F a0 a1 a2 a3 h1) (fun v2 h3 => ?_)
  refine g_istore (lv' := [(4, .int v2), (0, .ref a0), (1, .int a1), (2, .int a2), (3, .int a3)]) dX12_attempt_12 (by decide) rfl ?_
  refine g_iload 0 dX12_attempt_14 rfl ?_
  refine g_if_eq (tgt := 22) dX12_attempt_16 (by decide) (fun c4 => ?_) (fun c4 => ?_)
  · refine g_aload_n 1 dX12_attempt_22 rfl ?_
    refine g_iload_n 2 dX12_attempt_23 rfl ?_
    refine g_iload_n 3 dX12_attempt_24 rfl ?_
    refine g_iload_n 4 dX12_attempt_25 rfl ?_
    refine g_callVi (J := I_X12_bondsOf) (t := 13) (As := [.int a1, .int a2, .int a3]) (rest := []) mjv_X12_bondsOf ml_RX12_419 ⟨rfl, by decide, by decide⟩ (by decide) rfl rfl (Nat.le_of_ble_eq_true rfl) dX12_attempt_26 (T_X12_bondsOf F a0 a1 a2 a3 h3) (fun v5 h6 => ?_)
    refine g_istore (lv' := [(5, .int v5), (4, .int v2), (0, .ref a0), (1, .int a1), (2, .int a2), (3, .int a3)]) dX12_attempt_29 (by decide) rfl ?_
    refine g_iconst (v := (-1)) dX12_attempt_31 (by decide) ?_
    refine g_istore (lv' := [(6, .int (-1)), (5, .int v5), (4, .int v2), (0, .ref a0), (1, .int a1), (2, .int a2), (3, .int a3)]) dX12_attempt_32 (by decide) rfl ?_
    refine g_bipush (v := 11) dX12_attempt_34 (by decide) ?_
    refine g_istore (lv' := [(7, .int 11), (6, .int (-1)), (5, .int v5), (4, .int v2), (0, .ref a0), (1, .int a1), (2, .int a2), (3, .int a3)]) dX12_attempt_36 (by decide) rfl ?_
    refine g_iconst (v := 0) dX12_attempt_38 (by decide) ?_
    refine g_istore (lv' := [(8, .int 0), (7, .int 11), (6, .int (-1)), (5, .int v5), (4, .int v2), (0, .ref a0), (1, .int a1), (2, .int a2), (3, .int a3)]) dX12_attempt_39 (by decide) rfl ?_
    refine G_lv [5, 3, 2, 1, 0] rfl ?_
    exact T_X12_attempt_41 F F a0 v5 (-1) 11 0 h6
  · refine g_iload 0 dX12_attempt_19 rfl ?_
    exact g_iret rfl dX12_attempt_21
set_option maxRecDepth 100000 in
noncomputable def f_X12_everyBy_40 (F : Nat) (K2 : Nat → Int32 → Int32 → Int32 → Hp → Option (Int32 × Hp)) (l0 : Nat) (l1 : Int32) (l2 : Int32) (l3 : Int32) (h : Hp) : Option (Int32 × Hp) :=
  K2 l0 l1 l2 (l3 + 1) h
set_option maxRecDepth 100000 in
set_option maxHeartbeats 4000000 in
theorem T_X12_everyBy_40 (F : Nat) {K2 : Nat → Int32 → Int32 → Int32 → Hp → Option (Int32 × Hp)} (hK2 : ∀ (l0 : Nat) (l1 : Int32) (l2 : Int32) (l3 : Int32) (h : Hp), G rvI I_X12_everyBy 1 2 [(0, .ref l0), (1, .int l1), (2, .int l2), (3, .int l3)] [] h (K2 l0 l1 l2 l3 h)) (l0 : Nat) (l1 : Int32) (l2 : Int32) (l3 : Int32) (h : Hp) : G rvI I_X12_everyBy 1 40 [(0, .ref l0), (1, .int l1), (2, .int l2), (3, .int l3)] [] h (f_X12_everyBy_40 F K2 l0 l1 l2 l3 h) := by
  delta f_X12_everyBy_40
  refine g_iinc (v' := l3 + 1) (lv' := [(3, .int (l3 + 1)), (0, .ref l0), (1, .int l1), (2, .int l2)]) 3 dX12_everyBy_40 rfl rfl (by decide) rfl ?_
  refine g_goto (tgt := 2) dX12_everyBy_43 (by decide) ?_
  refine G_lv [1, 2, 3, 0] rfl ?_
  exact hK2 l0 l1 l2 (l3 + 1) h
set_option maxRecDepth 100000 in
noncomputable def f_X12_everyBy_2_b (F : Nat) (K2 : Nat → Int32 → Int32 → Int32 → Hp → Option (Int32 × Hp)) (l0 : Nat) (l1 : Int32) (l2 : Int32) (l3 : Int32) (h : Hp) : Option (Int32 × Hp) :=
  if 9 ≤ l3 then (some (1, h)) else (gR 13 h l0 22 fun v2 => aI 20 h v2 ((9 * l1) + l3) fun v3 => if v3 = (-1) then (f_X12_everyBy_40 F K2 l0 l1 l2 l3 h) else (gR 13 h l0 23 fun v5 => aI 20 h v5 v3 fun v6 => if v6 < l2 then (f_X12_everyBy_40 F K2 l0 l1 l2 l3 h) else (some (0, h))))
set_option maxRecDepth 100000 in
set_option maxHeartbeats 4000000 in
theorem T_X12_everyBy_2_b (F : Nat) {K2 : Nat → Int32 → Int32 → Int32 → Hp → Option (Int32 × Hp)} (hK2 : ∀ (l0 : Nat) (l1 : Int32) (l2 : Int32) (l3 : Int32) (h : Hp), G rvI I_X12_everyBy 1 2 [(0, .ref l0), (1, .int l1), (2, .int l2), (3, .int l3)] [] h (K2 l0 l1 l2 l3 h)) (l0 : Nat) (l1 : Int32) (l2 : Int32) (l3 : Int32) (h : Hp) : G rvI I_X12_everyBy 1 2 [(0, .ref l0), (1, .int l1), (2, .int l2), (3, .int l3)] [] h (f_X12_everyBy_2_b F K2 l0 l1 l2 l3 h) := by
  delta f_X12_everyBy_2_b
  refine g_iload_n 3 dX12_everyBy_2 rfl ?_
  refine g_bipush (v := 9) dX12_everyBy_3 (by decide) ?_
  refine g_icmp_ge (tgt := 46) dX12_everyBy_5 (by decide) (fun c1 => ?_) (fun c1 => ?_)
  · refine g_iconst (v := 1) dX12_everyBy_46 (by decide) ?_
    exact g_zret (ty := .boolean) rfl rfl dX12_everyBy_47
  · refine g_aload_n 0 dX12_everyBy_8 rfl ?_
    refine g_getR fl_RX12_44 rfl dX12_everyBy_9 (fun v2 => ?_)
    refine g_bipush (v := 9) dX12_everyBy_12 (by decide) ?_
    refine g_iload_n 1 dX12_everyBy_14 rfl ?_
    refine g_imul dX12_everyBy_15 ?_
    refine g_iload_n 3 dX12_everyBy_16 rfl ?_
    refine g_iadd dX12_everyBy_17 ?_
    refine g_iald dX12_everyBy_18 (fun v3 => ?_)
    refine g_istore (lv' := [(4, .int v3), (0, .ref l0), (1, .int l1), (2, .int l2), (3, .int l3)]) dX12_everyBy_19 (by decide) rfl ?_
    refine g_iload 0 dX12_everyBy_21 rfl ?_
    refine g_iconst (v := (-1)) dX12_everyBy_23 (by decide) ?_
    refine g_icmp_eq (tgt := 40) dX12_everyBy_24 (by decide) (fun c4 => ?_) (fun c4 => ?_)
    · refine G_lv [1, 2, 3, 4] rfl ?_
      exact T_X12_everyBy_40 F hK2 l0 l1 l2 l3 h
    · refine g_aload_n 1 dX12_everyBy_27 rfl ?_
      refine g_getR fl_RX12_47 rfl dX12_everyBy_28 (fun v5 => ?_)
      refine g_iload 0 dX12_everyBy_31 rfl ?_
      refine g_iald dX12_everyBy_33 (fun v6 => ?_)
      refine g_iload_n 3 dX12_everyBy_34 rfl ?_
      refine g_icmp_lt (tgt := 40) dX12_everyBy_35 (by decide) (fun c7 => ?_) (fun c7 => ?_)
      · refine G_lv [1, 2, 3, 4] rfl ?_
        exact T_X12_everyBy_40 F hK2 l0 l1 l2 l3 h
      · refine g_iconst (v := 0) dX12_everyBy_38 (by decide) ?_
        exact g_zret (ty := .boolean) rfl rfl dX12_everyBy_39
set_option maxRecDepth 100000 in
noncomputable def f_X12_everyBy_2 (F : Nat) : Nat → Nat → Int32 → Int32 → Int32 → Hp → Option (Int32 × Hp)
  | 0, _, _, _, _, _ => none
  | n + 1, l0, l1, l2, l3, h => f_X12_everyBy_2_b F (f_X12_everyBy_2 F n) l0 l1 l2 l3 h
set_option maxRecDepth 100000 in
set_option maxHeartbeats 4000000 in
theorem T_X12_everyBy_2 (F : Nat) : ∀ (n : Nat) (l0 : Nat) (l1 : Int32) (l2 : Int32) (l3 : Int32) (h : Hp), G rvI I_X12_everyBy 1 2 [(0, .ref l0), (1, .int l1), (2, .int l2), (3, .int l3)] [] h (f_X12_everyBy_2 F n l0 l1 l2 l3 h) := by
  intro n
  induction n with
  | zero => intros; exact G_none
  | succ n ih => intro l0 l1 l2 l3 h; exact T_X12_everyBy_2_b F ih l0 l1 l2 l3 h
set_option maxRecDepth 100000 in
noncomputable def f_X12_everyBy (F : Nat) (a0 : Nat) (a1 : Int32) (a2 : Int32) (h : Hp) : Option (Int32 × Hp) :=
  f_X12_everyBy_2 F F a0 a1 a2 0 h
set_option maxRecDepth 100000 in
set_option maxHeartbeats 4000000 in
theorem T_X12_everyBy (F : Nat) (a0 : Nat) (a1 : Int32) (a2 : Int32) (h : Hp) : GM rvI I_X12_everyBy 1 [.ref a0, .int a1, .int a2] h (f_X12_everyBy F a0 a1 a2 h) := by
  delta f_X12_everyBy
  refine GM_of (lv := [(0, .ref a0), (1, .int a1), (2, .int a2)]) (by decide +kernel) (Nat.le_of_ble_eq_true rfl) rfl ?_
  refine g_iconst (v := 0) dX12_everyBy_0 (by decide) ?_
  refine g_istore_n (lv' := [(3, .int 0), (0, .ref a0), (1, .int a1), (2, .int a2)]) dX12_everyBy_1 (by decide) rfl ?_
  refine G_lv [1, 2, 3, 0] rfl ?_
  exact T_X12_everyBy_2 F F a0 a1 a2 0 h
set_option maxRecDepth 100000 in
noncomputable def f_X12_someBy_40 (F : Nat) (K2 : Nat → Int32 → Int32 → Int32 → Hp → Option (Int32 × Hp)) (l0 : Nat) (l1 : Int32) (l2 : Int32) (l3 : Int32) (h : Hp) : Option (Int32 × Hp) :=
  K2 l0 l1 l2 (l3 + 1) h
set_option maxRecDepth 100000 in
set_option maxHeartbeats 4000000 in
theorem T_X12_someBy_40 (F : Nat) {K2 : Nat → Int32 → Int32 → Int32 → Hp → Option (Int32 × Hp)} (hK2 : ∀ (l0 : Nat) (l1 : Int32) (l2 : Int32) (l3 : Int32) (h : Hp), G rvI I_X12_someBy 1 2 [(0, .ref l0), (1, .int l1), (2, .int l2), (3, .int l3)] [] h (K2 l0 l1 l2 l3 h)) (l0 : Nat) (l1 : Int32) (l2 : Int32) (l3 : Int32) (h : Hp) : G rvI I_X12_someBy 1 40 [(0, .ref l0), (1, .int l1), (2, .int l2), (3, .int l3)] [] h (f_X12_someBy_40 F K2 l0 l1 l2 l3 h) := by
  delta f_X12_someBy_40
  refine g_iinc (v' := l3 + 1) (lv' := [(3, .int (l3 + 1)), (0, .ref l0), (1, .int l1), (2, .int l2)]) 3 dX12_someBy_40 rfl rfl (by decide) rfl ?_
  refine g_goto (tgt := 2) dX12_someBy_43 (by decide) ?_
  refine G_lv [1, 2, 3, 0] rfl ?_
  exact hK2 l0 l1 l2 (l3 + 1) h
set_option maxRecDepth 100000 in
noncomputable def f_X12_someBy_2_b (F : Nat) (K2 : Nat → Int32 → Int32 → Int32 → Hp → Option (Int32 × Hp)) (l0 : Nat) (l1 : Int32) (l2 : Int32) (l3 : Int32) (h : Hp) : Option (Int32 × Hp) :=
  if 9 ≤ l3 then (some (0, h)) else (gR 13 h l0 22 fun v2 => aI 20 h v2 ((9 * l1) + l3) fun v3 => if v3 = (-1) then (f_X12_someBy_40 F K2 l0 l1 l2 l3 h) else (gR 13 h l0 31 fun v5 => aI 20 h v5 v3 fun v6 => if l2 ≤ v6 then (f_X12_someBy_40 F K2 l0 l1 l2 l3 h) else (some (1, h))))
set_option maxRecDepth 100000 in
set_option maxHeartbeats 4000000 in
theorem T_X12_someBy_2_b (F : Nat) {K2 : Nat → Int32 → Int32 → Int32 → Hp → Option (Int32 × Hp)} (hK2 : ∀ (l0 : Nat) (l1 : Int32) (l2 : Int32) (l3 : Int32) (h : Hp), G rvI I_X12_someBy 1 2 [(0, .ref l0), (1, .int l1), (2, .int l2), (3, .int l3)] [] h (K2 l0 l1 l2 l3 h)) (l0 : Nat) (l1 : Int32) (l2 : Int32) (l3 : Int32) (h : Hp) : G rvI I_X12_someBy 1 2 [(0, .ref l0), (1, .int l1), (2, .int l2), (3, .int l3)] [] h (f_X12_someBy_2_b F K2 l0 l1 l2 l3 h) := by
  delta f_X12_someBy_2_b
  refine g_iload_n 3 dX12_someBy_2 rfl ?_
  refine g_bipush (v := 9) dX12_someBy_3 (by decide) ?_
  refine g_icmp_ge (tgt := 46) dX12_someBy_5 (by decide) (fun c1 => ?_) (fun c1 => ?_)
  · refine g_iconst (v := 0) dX12_someBy_46 (by decide) ?_
    exact g_zret (ty := .boolean) rfl rfl dX12_someBy_47
  · refine g_aload_n 0 dX12_someBy_8 rfl ?_
    refine g_getR fl_RX12_44 rfl dX12_someBy_9 (fun v2 => ?_)
    refine g_bipush (v := 9) dX12_someBy_12 (by decide) ?_
    refine g_iload_n 1 dX12_someBy_14 rfl ?_
    refine g_imul dX12_someBy_15 ?_
    refine g_iload_n 3 dX12_someBy_16 rfl ?_
    refine g_iadd dX12_someBy_17 ?_
    refine g_iald dX12_someBy_18 (fun v3 => ?_)
    refine g_istore (lv' := [(4, .int v3), (0, .ref l0), (1, .int l1), (2, .int l2), (3, .int l3)]) dX12_someBy_19 (by decide) rfl ?_
    refine g_iload 0 dX12_someBy_21 rfl ?_
    refine g_iconst (v := (-1)) dX12_someBy_23 (by decide) ?_
    refine g_icmp_eq (tgt := 40) dX12_someBy_24 (by decide) (fun c4 => ?_) (fun c4 => ?_)
    · refine G_lv [1, 2, 3, 4] rfl ?_
      exact T_X12_someBy_40 F hK2 l0 l1 l2 l3 h
    · refine g_aload_n 1 dX12_someBy_27 rfl ?_
      refine g_getR fl_RX12_60 rfl dX12_someBy_28 (fun v5 => ?_)
      refine g_iload 0 dX12_someBy_31 rfl ?_
      refine g_iald dX12_someBy_33 (fun v6 => ?_)
      refine g_iload_n 3 dX12_someBy_34 rfl ?_
      refine g_icmp_ge (tgt := 40) dX12_someBy_35 (by decide) (fun c7 => ?_) (fun c7 => ?_)
      · refine G_lv [1, 2, 3, 4] rfl ?_
        exact T_X12_someBy_40 F hK2 l0 l1 l2 l3 h
      · refine g_iconst (v := 1) dX12_someBy_38 (by decide) ?_
        exact g_zret (ty := .boolean) rfl rfl dX12_someBy_39
set_option maxRecDepth 100000 in
noncomputable def f_X12_someBy_2 (F : Nat) : Nat → Nat → Int32 → Int32 → Int32 → Hp → Option (Int32 × Hp)
  | 0, _, _, _, _, _ => none
  | n + 1, l0, l1, l2, l3, h => f_X12_someBy_2_b F (f_X12_someBy_2 F n) l0 l1 l2 l3 h
set_option maxRecDepth 100000 in
set_option maxHeartbeats 4000000 in
theorem T_X12_someBy_2 (F : Nat) : ∀ (n : Nat) (l0 : Nat) (l1 : Int32) (l2 : Int32) (l3 : Int32) (h : Hp), G rvI I_X12_someBy 1 2 [(0, .ref l0), (1, .int l1), (2, .int l2), (3, .int l3)] [] h (f_X12_someBy_2 F n l0 l1 l2 l3 h) := by
  intro n
  induction n with
  | zero => intros; exact G_none
  | succ n ih => intro l0 l1 l2 l3 h; exact T_X12_someBy_2_b F ih l0 l1 l2 l3 h
set_option maxRecDepth 100000 in
noncomputable def f_X12_someBy (F : Nat) (a0 : Nat) (a1 : Int32) (a2 : Int32) (h : Hp) : Option (Int32 × Hp) :=
  f_X12_someBy_2 F F a0 a1 a2 0 h
set_option maxRecDepth 100000 in
set_option maxHeartbeats 4000000 in
theorem T_X12_someBy (F : Nat) (a0 : Nat) (a1 : Int32) (a2 : Int32) (h : Hp) : GM rvI I_X12_someBy 1 [.ref a0, .int a1, .int a2] h (f_X12_someBy F a0 a1 a2 h) := by
  delta f_X12_someBy
  refine GM_of (lv := [(0, .ref a0), (1, .int a1), (2, .int a2)]) (by decide +kernel) (Nat.le_of_ble_eq_true rfl) rfl ?_
  refine g_iconst (v := 0) dX12_someBy_0 (by decide) ?_
  refine g_istore_n (lv' := [(3, .int 0), (0, .ref a0), (1, .int a1), (2, .int a2)]) dX12_someBy_1 (by decide) rfl ?_
  refine G_lv [1, 2, 3, 0] rfl ?_
  exact T_X12_someBy_2 F F a0 a1 a2 0 h
set_option maxRecDepth 100000 in
noncomputable def f_X12_laysForced_205 (F : Nat) (K67 : Nat → Int32 → Hp → Option (Int32 × Hp)) (K79 : Nat → Int32 → Int32 → Hp → Option (Int32 × Hp)) (l0 : Nat) (l3 : Int32) (l4 : Int32) (h : Hp) : Option (Int32 × Hp) :=
  K79 l0 l3 (l4 + 1) h
set_option maxRecDepth 100000 in
set_option maxHeartbeats 4000000 in
theorem T_X12_laysForced_205 (F : Nat) {K67 : Nat → Int32 → Hp → Option (Int32 × Hp)} (hK67 : ∀ (l0 : Nat) (l3 : Int32) (h : Hp), G rvI I_X12_laysForced 8 67 [(0, .ref l0), (3, .int l3)] [] h (K67 l0 l3 h)) {K79 : Nat → Int32 → Int32 → Hp → Option (Int32 × Hp)} (hK79 : ∀ (l0 : Nat) (l3 : Int32) (l4 : Int32) (h : Hp), G rvI I_X12_laysForced 8 79 [(0, .ref l0), (3, .int l3), (4, .int l4)] [] h (K79 l0 l3 l4 h)) (l0 : Nat) (l3 : Int32) (l4 : Int32) (h : Hp) : G rvI I_X12_laysForced 8 205 [(0, .ref l0), (3, .int l3), (4, .int l4)] [] h (f_X12_laysForced_205 F K67 K79 l0 l3 l4 h) := by
  delta f_X12_laysForced_205
  refine g_iinc (v' := l4 + 1) (lv' := [(4, .int (l4 + 1)), (0, .ref l0), (3, .int l3)]) 2 dX12_laysForced_205 rfl rfl (by decide) rfl ?_
  refine g_goto (tgt := 79) dX12_laysForced_208 (by decide) ?_
  refine G_lv [1, 2, 0] rfl ?_
  exact hK79 l0 l3 (l4 + 1) h
set_option maxRecDepth 100000 in
noncomputable def f_X12_laysForced_204 (F : Nat) (K67 : Nat → Int32 → Hp → Option (Int32 × Hp)) (K79 : Nat → Int32 → Int32 → Hp → Option (Int32 × Hp)) (l0 : Nat) (l3 : Int32) (l4 : Int32) (s0 : Int32) (s1 : Int32) (s2 : Nat) (h : Hp) : Option (Int32 × Hp) :=
  wI h s2 s1 s0 fun h36 => f_X12_laysForced_205 F K67 K79 l0 l3 l4 h36
set_option maxRecDepth 100000 in
set_option maxHeartbeats 4000000 in
theorem T_X12_laysForced_204 (F : Nat) {K67 : Nat → Int32 → Hp → Option (Int32 × Hp)} (hK67 : ∀ (l0 : Nat) (l3 : Int32) (h : Hp), G rvI I_X12_laysForced 8 67 [(0, .ref l0), (3, .int l3)] [] h (K67 l0 l3 h)) {K79 : Nat → Int32 → Int32 → Hp → Option (Int32 × Hp)} (hK79 : ∀ (l0 : Nat) (l3 : Int32) (l4 : Int32) (h : Hp), G rvI I_X12_laysForced 8 79 [(0, .ref l0), (3, .int l3), (4, .int l4)] [] h (K79 l0 l3 l4 h)) (l0 : Nat) (l3 : Int32) (l4 : Int32) (s0 : Int32) (s1 : Int32) (s2 : Nat) (h : Hp) : G rvI I_X12_laysForced 8 204 [(0, .ref l0), (3, .int l3), (4, .int l4)] [.int s0, .int s1, .ref s2] h (f_X12_laysForced_204 F K67 K79 l0 l3 l4 s0 s1 s2 h) := by
  delta f_X12_laysForced_204
  refine g_iast dX12_laysForced_204 (fun h36 => ?_)
  refine G_lv [0, 1, 2] rfl ?_
  exact T_X12_laysForced_205 F hK67 hK79 l0 l3 l4 h36
set_option maxRecDepth 100000 in
noncomputable def f_X12_laysForced_181 (F : Nat) (K67 : Nat → Int32 → Hp → Option (Int32 × Hp)) (K79 : Nat → Int32 → Int32 → Hp → Option (Int32 × Hp)) (l0 : Nat) (l3 : Int32) (l4 : Int32) (l6 : Int32) (s0 : Int32) (s1 : Int32) (s2 : Nat) (h : Hp) : Option (Int32 × Hp) :=
  wI h s2 s1 s0 fun h31 => gR 13 h31 l0 31 fun v32 => if l6 = 0 then (gR 13 h31 l0 31 fun v34 => aI 20 h31 v34 l4 fun v35 => f_X12_laysForced_204 F K67 K79 l0 l3 l4 v35 l4 v32 h31) else (f_X12_laysForced_204 F K67 K79 l0 l3 l4 l3 l4 v32 h31)
set_option maxRecDepth 100000 in
set_option maxHeartbeats 4000000 in
theorem T_X12_laysForced_181 (F : Nat) {K67 : Nat → Int32 → Hp → Option (Int32 × Hp)} (hK67 : ∀ (l0 : Nat) (l3 : Int32) (h : Hp), G rvI I_X12_laysForced 8 67 [(0, .ref l0), (3, .int l3)] [] h (K67 l0 l3 h)) {K79 : Nat → Int32 → Int32 → Hp → Option (Int32 × Hp)} (hK79 : ∀ (l0 : Nat) (l3 : Int32) (l4 : Int32) (h : Hp), G rvI I_X12_laysForced 8 79 [(0, .ref l0), (3, .int l3), (4, .int l4)] [] h (K79 l0 l3 l4 h)) (l0 : Nat) (l3 : Int32) (l4 : Int32) (l6 : Int32) (s0 : Int32) (s1 : Int32) (s2 : Nat) (h : Hp) : G rvI I_X12_laysForced 8 181 [(0, .ref l0), (3, .int l3), (4, .int l4), (6, .int l6)] [.int s0, .int s1, .ref s2] h (f_X12_laysForced_181 F K67 K79 l0 l3 l4 l6 s0 s1 s2 h) := by
  delta f_X12_laysForced_181
  refine g_iast dX12_laysForced_181 (fun h31 => ?_)
  refine g_aload_n 0 dX12_laysForced_182 rfl ?_
  refine g_getR fl_RX12_60 rfl dX12_laysForced_183 (fun v32 => ?_)
  refine g_iload 2 dX12_laysForced_186 rfl ?_
  refine g_iload 3 dX12_laysForced_188 rfl ?_
  refine g_if_eq (tgt := 197) dX12_laysForced_190 (by decide) (fun c33 => ?_) (fun c33 => ?_)
  · refine g_aload_n 0 dX12_laysForced_197 rfl ?_
    refine g_getR fl_RX12_60 rfl dX12_laysForced_198 (fun v34 => ?_)
    refine g_iload 2 dX12_laysForced_201 rfl ?_
    refine g_iald dX12_laysForced_203 (fun v35 => ?_)
    refine G_lv [0, 1, 2] rfl ?_
    exact T_X12_laysForced_204 F hK67 hK79 l0 l3 l4 v35 l4 v32 h31
  · refine g_iload_n 1 dX12_laysForced_193 rfl ?_
    refine g_goto (tgt := 204) dX12_laysForced_194 (by decide) ?_
    refine G_lv [0, 1, 2] rfl ?_
    exact T_X12_laysForced_204 F hK67 hK79 l0 l3 l4 l3 l4 v32 h31
set_option maxRecDepth 100000 in
noncomputable def f_X12_laysForced_157 (F : Nat) (K67 : Nat → Int32 → Hp → Option (Int32 × Hp)) (K79 : Nat → Int32 → Int32 → Hp → Option (Int32 × Hp)) (l0 : Nat) (l3 : Int32) (l4 : Int32) (l5 : Int32) (s0 : Int32) (h : Hp) : Option (Int32 × Hp) :=
  gR 13 h l0 23 fun v27 => if l5 = 0 then (gR 13 h l0 23 fun v29 => aI 20 h v29 l4 fun v30 => f_X12_laysForced_181 F K67 K79 l0 l3 l4 s0 v30 l4 v27 h) else (f_X12_laysForced_181 F K67 K79 l0 l3 l4 s0 l3 l4 v27 h)
set_option maxRecDepth 100000 in
set_option maxHeartbeats 4000000 in
theorem T_X12_laysForced_157 (F : Nat) {K67 : Nat → Int32 → Hp → Option (Int32 × Hp)} (hK67 : ∀ (l0 : Nat) (l3 : Int32) (h : Hp), G rvI I_X12_laysForced 8 67 [(0, .ref l0), (3, .int l3)] [] h (K67 l0 l3 h)) {K79 : Nat → Int32 → Int32 → Hp → Option (Int32 × Hp)} (hK79 : ∀ (l0 : Nat) (l3 : Int32) (l4 : Int32) (h : Hp), G rvI I_X12_laysForced 8 79 [(0, .ref l0), (3, .int l3), (4, .int l4)] [] h (K79 l0 l3 l4 h)) (l0 : Nat) (l3 : Int32) (l4 : Int32) (l5 : Int32) (s0 : Int32) (h : Hp) : G rvI I_X12_laysForced 8 157 [(0, .ref l0), (3, .int l3), (4, .int l4), (5, .int l5)] [.int s0] h (f_X12_laysForced_157 F K67 K79 l0 l3 l4 l5 s0 h) := by
  delta f_X12_laysForced_157
  refine g_istore (lv' := [(6, .int s0), (0, .ref l0), (3, .int l3), (4, .int l4), (5, .int l5)]) dX12_laysForced_157 (by decide) rfl ?_
  refine g_aload_n 1 dX12_laysForced_159 rfl ?_
  refine g_getR fl_RX12_47 rfl dX12_laysForced_160 (fun v27 => ?_)
  refine g_iload 3 dX12_laysForced_163 rfl ?_
  refine g_iload 4 dX12_laysForced_165 rfl ?_
  refine g_if_eq (tgt := 174) dX12_laysForced_167 (by decide) (fun c28 => ?_) (fun c28 => ?_)
  · refine g_aload_n 1 dX12_laysForced_174 rfl ?_
    refine g_getR fl_RX12_47 rfl dX12_laysForced_175 (fun v29 => ?_)
    refine g_iload 3 dX12_laysForced_178 rfl ?_
    refine g_iald dX12_laysForced_180 (fun v30 => ?_)
    refine G_lv [1, 2, 3, 0] rfl ?_
    exact T_X12_laysForced_181 F hK67 hK79 l0 l3 l4 s0 v30 l4 v27 h
  · refine g_iload_n 2 dX12_laysForced_170 rfl ?_
    refine g_goto (tgt := 181) dX12_laysForced_171 (by decide) ?_
    refine G_lv [1, 2, 3, 0] rfl ?_
    exact T_X12_laysForced_181 F hK67 hK79 l0 l3 l4 s0 l3 l4 v27 h
set_option maxRecDepth 100000 in
noncomputable def f_X12_laysForced_156 (F : Nat) (K67 : Nat → Int32 → Hp → Option (Int32 × Hp)) (K79 : Nat → Int32 → Int32 → Hp → Option (Int32 × Hp)) (l0 : Nat) (l3 : Int32) (l4 : Int32) (l5 : Int32) (h : Hp) : Option (Int32 × Hp) :=
  f_X12_laysForced_157 F K67 K79 l0 l3 l4 l5 0 h
set_option maxRecDepth 100000 in
set_option maxHeartbeats 4000000 in
theorem T_X12_laysForced_156 (F : Nat) {K67 : Nat → Int32 → Hp → Option (Int32 × Hp)} (hK67 : ∀ (l0 : Nat) (l3 : Int32) (h : Hp), G rvI I_X12_laysForced 8 67 [(0, .ref l0), (3, .int l3)] [] h (K67 l0 l3 h)) {K79 : Nat → Int32 → Int32 → Hp → Option (Int32 × Hp)} (hK79 : ∀ (l0 : Nat) (l3 : Int32) (l4 : Int32) (h : Hp), G rvI I_X12_laysForced 8 79 [(0, .ref l0), (3, .int l3), (4, .int l4)] [] h (K79 l0 l3 l4 h)) (l0 : Nat) (l3 : Int32) (l4 : Int32) (l5 : Int32) (h : Hp) : G rvI I_X12_laysForced 8 156 [(0, .ref l0), (3, .int l3), (4, .int l4), (5, .int l5)] [] h (f_X12_laysForced_156 F K67 K79 l0 l3 l4 l5 h) := by
  delta f_X12_laysForced_156
  refine g_iconst (v := 0) dX12_laysForced_156 (by decide) ?_
  refine G_lv [0, 1, 2, 3] rfl ?_
  exact T_X12_laysForced_157 F hK67 hK79 l0 l3 l4 l5 0 h
set_option maxRecDepth 100000 in
noncomputable def f_X12_laysForced_127 (F : Nat) (K67 : Nat → Int32 → Hp → Option (Int32 × Hp)) (K79 : Nat → Int32 → Int32 → Hp → Option (Int32 × Hp)) (l0 : Nat) (l3 : Int32) (l4 : Int32) (s0 : Int32) (h : Hp) : Option (Int32 × Hp) :=
  gR 13 h l0 31 fun v21 => aI 20 h v21 l4 fun v22 => if v22 = 268435456 then (cV 13 h l0 (f_X12_everyBy F l0 l4 l3 h) fun v24 h25 => if v24 = 0 then (f_X12_laysForced_156 F K67 K79 l0 l3 l4 s0 h25) else (f_X12_laysForced_157 F K67 K79 l0 l3 l4 s0 1 h25)) else (f_X12_laysForced_156 F K67 K79 l0 l3 l4 s0 h)
set_option maxRecDepth 100000 in
set_option maxHeartbeats 4000000 in
theorem T_X12_laysForced_127 (F : Nat) {K67 : Nat → Int32 → Hp → Option (Int32 × Hp)} (hK67 : ∀ (l0 : Nat) (l3 : Int32) (h : Hp), G rvI I_X12_laysForced 8 67 [(0, .ref l0), (3, .int l3)] [] h (K67 l0 l3 h)) {K79 : Nat → Int32 → Int32 → Hp → Option (Int32 × Hp)} (hK79 : ∀ (l0 : Nat) (l3 : Int32) (l4 : Int32) (h : Hp), G rvI I_X12_laysForced 8 79 [(0, .ref l0), (3, .int l3), (4, .int l4)] [] h (K79 l0 l3 l4 h)) (l0 : Nat) (l3 : Int32) (l4 : Int32) (s0 : Int32) (h : Hp) : G rvI I_X12_laysForced 8 127 [(0, .ref l0), (3, .int l3), (4, .int l4)] [.int s0] h (f_X12_laysForced_127 F K67 K79 l0 l3 l4 s0 h) := by
  delta f_X12_laysForced_127
  refine g_istore (lv' := [(5, .int s0), (0, .ref l0), (3, .int l3), (4, .int l4)]) dX12_laysForced_127 (by decide) rfl ?_
  refine g_aload_n 1 dX12_laysForced_129 rfl ?_
  refine g_getR fl_RX12_60 rfl dX12_laysForced_130 (fun v21 => ?_)
  refine g_iload 3 dX12_laysForced_133 rfl ?_
  refine g_iald dX12_laysForced_135 (fun v22 => ?_)
  refine g_ldcw (v := 268435456) dX12_laysForced_136 co_RX12_357 ?_
  refine g_icmp_ne (tgt := 156) dX12_laysForced_139 (by decide) (fun c23 => ?_) (fun c23 => ?_)
  · refine g_aload_n 1 dX12_laysForced_142 rfl ?_
    refine g_iload 3 dX12_laysForced_143 rfl ?_
    refine g_iload_n 2 dX12_laysForced_145 rfl ?_
    refine g_callVi (J := I_X12_everyBy) (t := 13) (As := [.int l4, .int l3]) (rest := []) mjv_X12_everyBy ml_RX12_428 ⟨rfl, by decide, by decide⟩ (by decide) rfl rfl (Nat.le_of_ble_eq_true rfl) dX12_laysForced_146 (T_X12_everyBy F l0 l4 l3 h) (fun v24 h25 => ?_)
    refine g_if_eq (tgt := 156) dX12_laysForced_149 (by decide) (fun c26 => ?_) (fun c26 => ?_)
    · refine G_lv [1, 2, 3, 0] rfl ?_
      exact T_X12_laysForced_156 F hK67 hK79 l0 l3 l4 s0 h25
    · refine g_iconst (v := 1) dX12_laysForced_152 (by decide) ?_
      refine g_goto (tgt := 157) dX12_laysForced_153 (by decide) ?_
      refine G_lv [1, 2, 3, 0] rfl ?_
      exact T_X12_laysForced_157 F hK67 hK79 l0 l3 l4 s0 1 h25
  · refine G_lv [1, 2, 3, 0] rfl ?_
    exact T_X12_laysForced_156 F hK67 hK79 l0 l3 l4 s0 h
set_option maxRecDepth 100000 in
noncomputable def f_X12_laysForced_126 (F : Nat) (K67 : Nat → Int32 → Hp → Option (Int32 × Hp)) (K79 : Nat → Int32 → Int32 → Hp → Option (Int32 × Hp)) (l0 : Nat) (l3 : Int32) (l4 : Int32) (h : Hp) : Option (Int32 × Hp) :=
  f_X12_laysForced_127 F K67 K79 l0 l3 l4 0 h
set_option maxRecDepth 100000 in
set_option maxHeartbeats 4000000 in
theorem T_X12_laysForced_126 (F : Nat) {K67 : Nat → Int32 → Hp → Option (Int32 × Hp)} (hK67 : ∀ (l0 : Nat) (l3 : Int32) (h : Hp), G rvI I_X12_laysForced 8 67 [(0, .ref l0), (3, .int l3)] [] h (K67 l0 l3 h)) {K79 : Nat → Int32 → Int32 → Hp → Option (Int32 × Hp)} (hK79 : ∀ (l0 : Nat) (l3 : Int32) (l4 : Int32) (h : Hp), G rvI I_X12_laysForced 8 79 [(0, .ref l0), (3, .int l3), (4, .int l4)] [] h (K79 l0 l3 l4 h)) (l0 : Nat) (l3 : Int32) (l4 : Int32) (h : Hp) : G rvI I_X12_laysForced 8 126 [(0, .ref l0), (3, .int l3), (4, .int l4)] [] h (f_X12_laysForced_126 F K67 K79 l0 l3 l4 h) := by
  delta f_X12_laysForced_126
  refine g_iconst (v := 0) dX12_laysForced_126 (by decide) ?_
  refine G_lv [0, 1, 2] rfl ?_
  exact T_X12_laysForced_127 F hK67 hK79 l0 l3 l4 0 h
set_option maxRecDepth 100000 in
noncomputable def f_X12_laysForced_79_b (F : Nat) (K67 : Nat → Int32 → Hp → Option (Int32 × Hp)) (K79 : Nat → Int32 → Int32 → Hp → Option (Int32 × Hp)) (l0 : Nat) (l3 : Int32) (l4 : Int32) (h : Hp) : Option (Int32 × Hp) :=
  if 65536 ≤ l4 then (K67 l0 (l3 + 1) h) else (gR 13 h l0 21 fun v12 => aI 22 h v12 l4 fun v13 => if v13 = 0 then (f_X12_laysForced_205 F K67 K79 l0 l3 l4 h) else (gR 13 h l0 23 fun v15 => aI 20 h v15 l4 fun v16 => if v16 = 268435456 then (cV 13 h l0 (f_X12_someBy F l0 l4 l3 h) fun v18 h19 => if v18 = 0 then (f_X12_laysForced_126 F K67 K79 l0 l3 l4 h19) else (f_X12_laysForced_127 F K67 K79 l0 l3 l4 1 h19)) else (f_X12_laysForced_126 F K67 K79 l0 l3 l4 h)))
set_option maxRecDepth 100000 in
set_option maxHeartbeats 4000000 in
theorem T_X12_laysForced_79_b (F : Nat) {K67 : Nat → Int32 → Hp → Option (Int32 × Hp)} (hK67 : ∀ (l0 : Nat) (l3 : Int32) (h : Hp), G rvI I_X12_laysForced 8 67 [(0, .ref l0), (3, .int l3)] [] h (K67 l0 l3 h)) {K79 : Nat → Int32 → Int32 → Hp → Option (Int32 × Hp)} (hK79 : ∀ (l0 : Nat) (l3 : Int32) (l4 : Int32) (h : Hp), G rvI I_X12_laysForced 8 79 [(0, .ref l0), (3, .int l3), (4, .int l4)] [] h (K79 l0 l3 l4 h)) (l0 : Nat) (l3 : Int32) (l4 : Int32) (h : Hp) : G rvI I_X12_laysForced 8 79 [(0, .ref l0), (3, .int l3), (4, .int l4)] [] h (f_X12_laysForced_79_b F K67 K79 l0 l3 l4 h) := by
  delta f_X12_laysForced_79_b
  refine g_iload 2 dX12_laysForced_79 rfl ?_
  refine g_ldc (v := 65536) dX12_laysForced_81 co_RX12_39 ?_
  refine g_icmp_ge (tgt := 211) dX12_laysForced_83 (by decide) (fun c11 => ?_) (fun c11 => ?_)
  · refine g_iinc (v' := l3 + 1) (lv' := [(3, .int (l3 + 1)), (0, .ref l0), (4, .int l4)]) 1 dX12_laysForced_211 rfl rfl (by decide) rfl ?_
    refine g_goto (tgt := 67) dX12_laysForced_214 (by decide) ?_
    refine G_lv [1, 0] rfl ?_
    exact hK67 l0 (l3 + 1) h
  · refine g_aload_n 0 dX12_laysForced_86 rfl ?_
    refine g_getR fl_RX12_40 rfl dX12_laysForced_87 (fun v12 => ?_)
    refine g_iload 2 dX12_laysForced_90 rfl ?_
    refine g_zald dX12_laysForced_92 (fun v13 => ?_)
    refine g_if_ne (tgt := 99) dX12_laysForced_93 (by decide) (fun c14 => ?_) (fun c14 => ?_)
    · refine g_goto (tgt := 205) dX12_laysForced_96 (by decide) ?_
      refine G_lv [0, 1, 2] rfl ?_
      exact T_X12_laysForced_205 F hK67 hK79 l0 l3 l4 h
    · refine g_aload_n 0 dX12_laysForced_99 rfl ?_
      refine g_getR fl_RX12_47 rfl dX12_laysForced_100 (fun v15 => ?_)
      refine g_iload 2 dX12_laysForced_103 rfl ?_
      refine g_iald dX12_laysForced_105 (fun v16 => ?_)
      refine g_ldcw (v := 268435456) dX12_laysForced_106 co_RX12_357 ?_
      refine g_icmp_ne (tgt := 126) dX12_laysForced_109 (by decide) (fun c17 => ?_) (fun c17 => ?_)
      · refine g_aload_n 0 dX12_laysForced_112 rfl ?_
        refine g_iload 2 dX12_laysForced_113 rfl ?_
        refine g_iload_n 1 dX12_laysForced_115 rfl ?_
        refine g_callVi (J := I_X12_someBy) (t := 13) (As := [.int l4, .int l3]) (rest := []) mjv_X12_someBy ml_RX12_425 ⟨rfl, by decide, by decide⟩ (by decide) rfl rfl (Nat.le_of_ble_eq_true rfl) dX12_laysForced_116 (T_X12_someBy F l0 l4 l3 h) (fun v18 h19 => ?_)
        refine g_if_eq (tgt := 126) dX12_laysForced_119 (by decide) (fun c20 => ?_) (fun c20 => ?_)
        · refine G_lv [0, 1, 2] rfl ?_
          exact T_X12_laysForced_126 F hK67 hK79 l0 l3 l4 h19
        · refine g_iconst (v := 1) dX12_laysForced_122 (by decide) ?_
          refine g_goto (tgt := 127) dX12_laysForced_123 (by decide) ?_
          refine G_lv [0, 1, 2] rfl ?_
          exact T_X12_laysForced_127 F hK67 hK79 l0 l3 l4 1 h19
      · refine G_lv [0, 1, 2] rfl ?_
        exact T_X12_laysForced_126 F hK67 hK79 l0 l3 l4 h
set_option maxRecDepth 100000 in
noncomputable def f_X12_laysForced_79 (F : Nat) (K67 : Nat → Int32 → Hp → Option (Int32 × Hp)) : Nat → Nat → Int32 → Int32 → Hp → Option (Int32 × Hp)
  | 0, _, _, _, _ => none
  | n + 1, l0, l3, l4, h => f_X12_laysForced_79_b F K67 (f_X12_laysForced_79 F K67 n) l0 l3 l4 h
set_option maxRecDepth 100000 in
set_option maxHeartbeats 4000000 in
theorem T_X12_laysForced_79 (F : Nat) {K67 : Nat → Int32 → Hp → Option (Int32 × Hp)} (hK67 : ∀ (l0 : Nat) (l3 : Int32) (h : Hp), G rvI I_X12_laysForced 8 67 [(0, .ref l0), (3, .int l3)] [] h (K67 l0 l3 h)) : ∀ (n : Nat) (l0 : Nat) (l3 : Int32) (l4 : Int32) (h : Hp), G rvI I_X12_laysForced 8 79 [(0, .ref l0), (3, .int l3), (4, .int l4)] [] h (f_X12_laysForced_79 F K67 n l0 l3 l4 h) := by
  intro n
  induction n with
  | zero => intros; exact G_none
  | succ n ih => intro l0 l3 l4 h; exact T_X12_laysForced_79_b F hK67 ih l0 l3 l4 h
set_option maxRecDepth 100000 in
noncomputable def f_X12_laysForced_67_b (F : Nat) (K67 : Nat → Int32 → Hp → Option (Int32 × Hp)) (l0 : Nat) (l3 : Int32) (h : Hp) : Option (Int32 × Hp) :=
  if 6 < l3 then (gR 13 h l0 23 fun v5 => cV 13 h l0 (f_X12_standNow F l0 h) fun v6 h7 => aI 20 h7 v5 v6 fun v8 => some (v8, h7)) else (cV 13 h l0 (f_X12_standNow F l0 h) fun v9 h10 => f_X12_laysForced_79 F K67 F l0 l3 v9 h10)
set_option maxRecDepth 100000 in
set_option maxHeartbeats 4000000 in
theorem T_X12_laysForced_67_b (F : Nat) {K67 : Nat → Int32 → Hp → Option (Int32 × Hp)} (hK67 : ∀ (l0 : Nat) (l3 : Int32) (h : Hp), G rvI I_X12_laysForced 8 67 [(0, .ref l0), (3, .int l3)] [] h (K67 l0 l3 h)) (l0 : Nat) (l3 : Int32) (h : Hp) : G rvI I_X12_laysForced 8 67 [(0, .ref l0), (3, .int l3)] [] h (f_X12_laysForced_67_b F K67 l0 l3 h) := by
  delta f_X12_laysForced_67_b
  refine g_iload_n 1 dX12_laysForced_67 rfl ?_
  refine g_bipush (v := 6) dX12_laysForced_68 (by decide) ?_
  refine g_icmp_gt (tgt := 217) dX12_laysForced_70 (by decide) (fun c4 => ?_) (fun c4 => ?_)
  · refine g_aload_n 0 dX12_laysForced_217 rfl ?_
    refine g_getR fl_RX12_47 rfl dX12_laysForced_218 (fun v5 => ?_)
    refine g_aload_n 0 dX12_laysForced_221 rfl ?_
    refine g_callVi (J := I_X12_standNow) (t := 13) (As := []) (rest := [.ref v5]) mjv_X12_standNow ml_RX12_260 ⟨rfl, by decide, by decide⟩ (by decide) rfl rfl (Nat.le_of_ble_eq_true rfl) dX12_laysForced_222 (T_X12_standNow F l0 h) (fun v6 h7 => ?_)
    refine g_iald dX12_laysForced_225 (fun v8 => ?_)
    exact g_iret rfl dX12_laysForced_226
  · refine g_aload_n 0 dX12_laysForced_73 rfl ?_
    refine g_callVi (J := I_X12_standNow) (t := 13) (As := []) (rest := []) mjv_X12_standNow ml_RX12_260 ⟨rfl, by decide, by decide⟩ (by decide) rfl rfl (Nat.le_of_ble_eq_true rfl) dX12_laysForced_74 (T_X12_standNow F l0 h) (fun v9 h10 => ?_)
    refine g_istore (lv' := [(4, .int v9), (0, .ref l0), (3, .int l3)]) dX12_laysForced_77 (by decide) rfl ?_
    refine G_lv [1, 2, 0] rfl ?_
    exact T_X12_laysForced_79 F hK67 F l0 l3 v9 h10
set_option maxRecDepth 100000 in
noncomputable def f_X12_laysForced_67 (F : Nat) : Nat → Nat → Int32 → Hp → Option (Int32 × Hp)
  | 0, _, _, _ => none
  | n + 1, l0, l3, h => f_X12_laysForced_67_b F (f_X12_laysForced_67 F n) l0 l3 h
set_option maxRecDepth 100000 in
set_option maxHeartbeats 4000000 in
theorem T_X12_laysForced_67 (F : Nat) : ∀ (n : Nat) (l0 : Nat) (l3 : Int32) (h : Hp), G rvI I_X12_laysForced 8 67 [(0, .ref l0), (3, .int l3)] [] h (f_X12_laysForced_67 F n l0 l3 h) := by
  intro n
  induction n with
  | zero => intros; exact G_none
  | succ n ih => intro l0 l3 h; exact T_X12_laysForced_67_b F ih l0 l3 h
set_option maxRecDepth 100000 in
noncomputable def f_X12_laysForced_46 (F : Nat) (K9 : Nat → Int32 → Int32 → Int32 → Hp → Option (Int32 × Hp)) (l0 : Nat) (l1 : Int32) (l2 : Int32) (l3 : Int32) (s0 : Int32) (s1 : Int32) (s2 : Nat) (h : Hp) : Option (Int32 × Hp) :=
  wI h s2 s1 s0 fun h41 => gR 13 h41 l0 31 fun v42 => gR 13 h41 l0 23 fun v43 => aI 20 h41 v43 l3 fun v44 => wI h41 v42 l3 v44 fun h45 => K9 l0 l1 l2 (l3 + 1) h45
set_option maxRecDepth 100000 in
set_option maxHeartbeats 4000000 in
theorem T_X12_laysForced_46 (F : Nat) {K9 : Nat → Int32 → Int32 → Int32 → Hp → Option (Int32 × Hp)} (hK9 : ∀ (l0 : Nat) (l1 : Int32) (l2 : Int32) (l3 : Int32) (h : Hp), G rvI I_X12_laysForced 8 9 [(0, .ref l0), (1, .int l1), (2, .int l2), (3, .int l3)] [] h (K9 l0 l1 l2 l3 h)) (l0 : Nat) (l1 : Int32) (l2 : Int32) (l3 : Int32) (s0 : Int32) (s1 : Int32) (s2 : Nat) (h : Hp) : G rvI I_X12_laysForced 8 46 [(0, .ref l0), (1, .int l1), (2, .int l2), (3, .int l3)] [.int s0, .int s1, .ref s2] h (f_X12_laysForced_46 F K9 l0 l1 l2 l3 s0 s1 s2 h) := by
  delta f_X12_laysForced_46
  refine g_iast dX12_laysForced_46 (fun h41 => ?_)
  refine g_aload_n 0 dX12_laysForced_47 rfl ?_
  refine g_getR fl_RX12_60 rfl dX12_laysForced_48 (fun v42 => ?_)
  refine g_iload_n 3 dX12_laysForced_51 rfl ?_
  refine g_aload_n 0 dX12_laysForced_52 rfl ?_
  refine g_getR fl_RX12_47 rfl dX12_laysForced_53 (fun v43 => ?_)
  refine g_iload_n 3 dX12_laysForced_56 rfl ?_
  refine g_iald dX12_laysForced_57 (fun v44 => ?_)
  refine g_iast dX12_laysForced_58 (fun h45 => ?_)
  refine g_iinc (v' := l3 + 1) (lv' := [(3, .int (l3 + 1)), (0, .ref l0), (1, .int l1), (2, .int l2)]) 3 dX12_laysForced_59 rfl rfl (by decide) rfl ?_
  refine g_goto (tgt := 9) dX12_laysForced_62 (by decide) ?_
  refine G_lv [1, 2, 3, 0] rfl ?_
  exact hK9 l0 l1 l2 (l3 + 1) h45
set_option maxRecDepth 100000 in
noncomputable def f_X12_laysForced_43 (F : Nat) (K9 : Nat → Int32 → Int32 → Int32 → Hp → Option (Int32 × Hp)) (l0 : Nat) (l1 : Int32) (l2 : Int32) (l3 : Int32) (s0 : Int32) (s1 : Nat) (h : Hp) : Option (Int32 × Hp) :=
  f_X12_laysForced_46 F K9 l0 l1 l2 l3 268435456 s0 s1 h
set_option maxRecDepth 100000 in
set_option maxHeartbeats 4000000 in
theorem T_X12_laysForced_43 (F : Nat) {K9 : Nat → Int32 → Int32 → Int32 → Hp → Option (Int32 × Hp)} (hK9 : ∀ (l0 : Nat) (l1 : Int32) (l2 : Int32) (l3 : Int32) (h : Hp), G rvI I_X12_laysForced 8 9 [(0, .ref l0), (1, .int l1), (2, .int l2), (3, .int l3)] [] h (K9 l0 l1 l2 l3 h)) (l0 : Nat) (l1 : Int32) (l2 : Int32) (l3 : Int32) (s0 : Int32) (s1 : Nat) (h : Hp) : G rvI I_X12_laysForced 8 43 [(0, .ref l0), (1, .int l1), (2, .int l2), (3, .int l3)] [.int s0, .ref s1] h (f_X12_laysForced_43 F K9 l0 l1 l2 l3 s0 s1 h) := by
  delta f_X12_laysForced_43
  refine g_ldcw (v := 268435456) dX12_laysForced_43 co_RX12_357 ?_
  refine G_lv [0, 1, 2, 3] rfl ?_
  exact T_X12_laysForced_46 F hK9 l0 l1 l2 l3 268435456 s0 s1 h
set_option maxRecDepth 100000 in
noncomputable def f_X12_laysForced_9_b (F : Nat) (K9 : Nat → Int32 → Int32 → Int32 → Hp → Option (Int32 × Hp)) (l0 : Nat) (l1 : Int32) (l2 : Int32) (l3 : Int32) (h : Hp) : Option (Int32 × Hp) :=
  if 65536 ≤ l3 then (f_X12_laysForced_67 F F l0 1 h) else (gR 13 h l0 23 fun v37 => gR 13 h l0 21 fun v38 => aI 22 h v38 l3 fun v39 => if v39 = 0 then (f_X12_laysForced_43 F K9 l0 l1 l2 l3 l3 v37 h) else (cV 13 h l0 (f_X12_doesIn F l0 l3 l1 l2 h) fun v46 h47 => if v46 = 0 then (f_X12_laysForced_43 F K9 l0 l1 l2 l3 l3 v37 h47) else (f_X12_laysForced_46 F K9 l0 l1 l2 l3 0 l3 v37 h47)))
set_option maxRecDepth 100000 in
set_option maxHeartbeats 4000000 in
theorem T_X12_laysForced_9_b (F : Nat) {K9 : Nat → Int32 → Int32 → Int32 → Hp → Option (Int32 × Hp)} (hK9 : ∀ (l0 : Nat) (l1 : Int32) (l2 : Int32) (l3 : Int32) (h : Hp), G rvI I_X12_laysForced 8 9 [(0, .ref l0), (1, .int l1), (2, .int l2), (3, .int l3)] [] h (K9 l0 l1 l2 l3 h)) (l0 : Nat) (l1 : Int32) (l2 : Int32) (l3 : Int32) (h : Hp) : G rvI I_X12_laysForced 8 9 [(0, .ref l0), (1, .int l1), (2, .int l2), (3, .int l3)] [] h (f_X12_laysForced_9_b F K9 l0 l1 l2 l3 h) := by
  delta f_X12_laysForced_9_b
  refine g_iload_n 3 dX12_laysForced_9 rfl ?_
  refine g_ldc (v := 65536) dX12_laysForced_10 co_RX12_39 ?_
  refine g_icmp_ge (tgt := 65) dX12_laysForced_12 (by decide) (fun c3 => ?_) (fun c3 => ?_)
  · refine g_iconst (v := 1) dX12_laysForced_65 (by decide) ?_
    refine g_istore_n (lv' := [(3, .int 1), (0, .ref l0), (1, .int l1), (2, .int l2)]) dX12_laysForced_66 (by decide) rfl ?_
    refine G_lv [1, 0] rfl ?_
    exact T_X12_laysForced_67 F F l0 1 h
  · refine g_aload_n 0 dX12_laysForced_15 rfl ?_
    refine g_getR fl_RX12_47 rfl dX12_laysForced_16 (fun v37 => ?_)
    refine g_iload_n 3 dX12_laysForced_19 rfl ?_
    refine g_aload_n 0 dX12_laysForced_20 rfl ?_
    refine g_getR fl_RX12_40 rfl dX12_laysForced_21 (fun v38 => ?_)
    refine g_iload_n 3 dX12_laysForced_24 rfl ?_
    refine g_zald dX12_laysForced_25 (fun v39 => ?_)
    refine g_if_eq (tgt := 43) dX12_laysForced_26 (by decide) (fun c40 => ?_) (fun c40 => ?_)
    · refine G_lv [0, 1, 2, 3] rfl ?_
      exact T_X12_laysForced_43 F hK9 l0 l1 l2 l3 l3 v37 h
    · refine g_aload_n 0 dX12_laysForced_29 rfl ?_
      refine g_iload_n 3 dX12_laysForced_30 rfl ?_
      refine g_iload_n 1 dX12_laysForced_31 rfl ?_
      refine g_iload_n 2 dX12_laysForced_32 rfl ?_
      refine g_callVi (J := I_X12_doesIn) (t := 13) (As := [.int l3, .int l1, .int l2]) (rest := [.int l3, .ref v37]) mjv_X12_doesIn ml_RX12_240 ⟨rfl, by decide, by decide⟩ (by decide) rfl rfl (Nat.le_of_ble_eq_true rfl) dX12_laysForced_33 (T_X12_doesIn F l0 l3 l1 l2 h) (fun v46 h47 => ?_)
      refine g_if_eq (tgt := 43) dX12_laysForced_36 (by decide) (fun c48 => ?_) (fun c48 => ?_)
      · refine G_lv [0, 1, 2, 3] rfl ?_
        exact T_X12_laysForced_43 F hK9 l0 l1 l2 l3 l3 v37 h47
      · refine g_iconst (v := 0) dX12_laysForced_39 (by decide) ?_
        refine g_goto (tgt := 46) dX12_laysForced_40 (by decide) ?_
        refine G_lv [0, 1, 2, 3] rfl ?_
        exact T_X12_laysForced_46 F hK9 l0 l1 l2 l3 0 l3 v37 h47
set_option maxRecDepth 100000 in
noncomputable def f_X12_laysForced_9 (F : Nat) : Nat → Nat → Int32 → Int32 → Int32 → Hp → Option (Int32 × Hp)
  | 0, _, _, _, _, _ => none
  | n + 1, l0, l1, l2, l3, h => f_X12_laysForced_9_b F (f_X12_laysForced_9 F n) l0 l1 l2 l3 h
set_option maxRecDepth 100000 in
set_option maxHeartbeats 4000000 in
theorem T_X12_laysForced_9 (F : Nat) : ∀ (n : Nat) (l0 : Nat) (l1 : Int32) (l2 : Int32) (l3 : Int32) (h : Hp), G rvI I_X12_laysForced 8 9 [(0, .ref l0), (1, .int l1), (2, .int l2), (3, .int l3)] [] h (f_X12_laysForced_9 F n l0 l1 l2 l3 h) := by
  intro n
  induction n with
  | zero => intros; exact G_none
  | succ n ih => intro l0 l1 l2 l3 h; exact T_X12_laysForced_9_b F ih l0 l1 l2 l3 h
set_option maxRecDepth 100000 in
noncomputable def f_X12_laysForced (F : Nat) (a0 : Nat) (a1 : Int32) (a2 : Int32) (h : Hp) : Option (Int32 × Hp) :=
  cV 13 h a0 (f_X12_laysReached F a0 511 h) fun v1 h2 => f_X12_laysForced_9 F F a0 a1 a2 0 h2
set_option maxRecDepth 100000 in
set_option maxHeartbeats 4000000 in
theorem T_X12_laysForced (F : Nat) (a0 : Nat) (a1 : Int32) (a2 : Int32) (h : Hp) : GM rvI I_X12_laysForced 8 [.ref a0, .int a1, .int a2] h (f_X12_laysForced F a0 a1 a2 h) := by
  delta f_X12_laysForced
  refine GM_of (lv := [(0, .ref a0), (1, .int a1), (2, .int a2)]) (by decide +kernel) (Nat.le_of_ble_eq_true rfl) rfl ?_
  refine g_aload_n 0 dX12_laysForced_0 rfl ?_
  refine g_sipush (v := 511) dX12_laysForced_1 (by decide) ?_
  refine g_callVv (J := I_X12_laysReached) (t := 13) (As := [.int 511]) (rest := []) mjv_X12_laysReached ml_RX12_358 ⟨rfl, by decide, by decide⟩ (by decide) rfl rfl (Nat.le_of_ble_eq_true rfl) dX12_laysForced_4 (T_X12_laysReached F a0 511 h) (fun v1 h2 => ?_)
  refine g_iconst (v := 0) dX12_laysForced_7 (by decide) ?_
  refine g_istore_n (lv' := [(3, .int 0), (0, .ref a0), (1, .int a1), (2, .int a2)]) dX12_laysForced_8 (by decide) rfl ?_
  refine G_lv [1, 2, 3, 0] rfl ?_
  exact T_X12_laysForced_9 F F a0 a1 a2 0 h2
