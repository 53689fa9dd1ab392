/-! L2, by program (wip/whole/gen/gen.py) -/
set_option maxRecDepth 100000 in
noncomputable def f_X12_told_60 (F : Nat) (K28 : Nat → Int32 → Int32 → Int32 → Int32 → Int32 → Hp → Option (Int32 × Hp)) (l0 : Nat) (l1 : Int32) (l2 : Int32) (l3 : Int32) (l6 : Int32) (s0 : Int32) (s1 : Int32) (h : Hp) : Option (Int32 × Hp) :=
  lt (s1 + s0) fun x11 => K28 l0 l1 l2 l3 x11 (l6 + 1) h
set_option maxRecDepth 100000 in
set_option maxHeartbeats 4000000 in
theorem T_X12_told_60 (F : Nat) {K28 : Nat → Int32 → Int32 → Int32 → Int32 → Int32 → Hp → Option (Int32 × Hp)} (hK28 : ∀ (l0 : Nat) (l1 : Int32) (l2 : Int32) (l3 : Int32) (l5 : Int32) (l6 : Int32) (h : Hp), G rvI I_X12_told 7 28 [(0, .ref l0), (1, .int l1), (2, .int l2), (3, .int l3), (5, .int l5), (6, .int l6)] [] h (K28 l0 l1 l2 l3 l5 l6 h)) (l0 : Nat) (l1 : Int32) (l2 : Int32) (l3 : Int32) (l6 : Int32) (s0 : Int32) (s1 : Int32) (h : Hp) : G rvI I_X12_told 7 60 [(0, .ref l0), (1, .int l1), (2, .int l2), (3, .int l3), (6, .int l6)] [.int s0, .int s1] h (f_X12_told_60 F K28 l0 l1 l2 l3 l6 s0 s1 h) := by
  delta f_X12_told_60
  refine g_iadd dX12_told_60 ?_
  refine G_lti (fun x11 => ?_)
  refine g_istore (lv' := [(5, .int x11), (0, .ref l0), (1, .int l1), (2, .int l2), (3, .int l3), (6, .int l6)]) dX12_told_61 (by decide) rfl ?_
  refine g_iinc (v' := l6 + 1) (lv' := [(6, .int (l6 + 1)), (5, .int x11), (0, .ref l0), (1, .int l1), (2, .int l2), (3, .int l3)]) 5 dX12_told_63 rfl rfl (by decide) rfl ?_
  refine g_goto (tgt := 28) dX12_told_66 (by decide) ?_
  refine G_lv [2, 3, 4, 5, 1, 0] rfl ?_
  exact hK28 l0 l1 l2 l3 x11 (l6 + 1) h
set_option maxRecDepth 100000 in
noncomputable def f_X12_told_28_b (F : Nat) (K28 : Nat → Int32 → Int32 → Int32 → Int32 → Int32 → Hp → Option (Int32 × Hp)) (l0 : Nat) (l1 : Int32) (l2 : Int32) (l3 : Int32) (l5 : Int32) (l6 : Int32) (h : Hp) : Option (Int32 × Hp) :=
  gR 13 h l0 33 fun v5 => aI 20 h v5 l1 fun v6 => if ((1 : Int32) <<< (v6 &&& 31)) ≤ l6 then (some (l5, h)) else (cV 13 h l0 (f_X12_isTold F l0 l1 l6 l2 l3 h) fun v8 h9 => if v8 = 0 then (f_X12_told_60 F K28 l0 l1 l2 l3 l6 0 l5 h9) else (f_X12_told_60 F K28 l0 l1 l2 l3 l6 1 l5 h9))
set_option maxRecDepth 100000 in
set_option maxHeartbeats 4000000 in
theorem T_X12_told_28_b (F : Nat) {K28 : Nat → Int32 → Int32 → Int32 → Int32 → Int32 → Hp → Option (Int32 × Hp)} (hK28 : ∀ (l0 : Nat) (l1 : Int32) (l2 : Int32) (l3 : Int32) (l5 : Int32) (l6 : Int32) (h : Hp), G rvI I_X12_told 7 28 [(0, .ref l0), (1, .int l1), (2, .int l2), (3, .int l3), (5, .int l5), (6, .int l6)] [] h (K28 l0 l1 l2 l3 l5 l6 h)) (l0 : Nat) (l1 : Int32) (l2 : Int32) (l3 : Int32) (l5 : Int32) (l6 : Int32) (h : Hp) : G rvI I_X12_told 7 28 [(0, .ref l0), (1, .int l1), (2, .int l2), (3, .int l3), (5, .int l5), (6, .int l6)] [] h (f_X12_told_28_b F K28 l0 l1 l2 l3 l5 l6 h) := by
  delta f_X12_told_28_b
  refine g_iload 5 dX12_told_28 rfl ?_
  refine g_iconst (v := 1) dX12_told_30 (by decide) ?_
  refine g_aload_n 0 dX12_told_31 rfl ?_
  refine g_getR fl_RX12_66 rfl dX12_told_32 (fun v5 => ?_)
  refine g_iload_n 1 dX12_told_35 rfl ?_
  refine g_iald dX12_told_36 (fun v6 => ?_)
  refine g_ishl dX12_told_37 ?_
  refine g_icmp_ge (tgt := 69) dX12_told_38 (by decide) (fun c7 => ?_) (fun c7 => ?_)
  · refine g_iload 4 dX12_told_69 rfl ?_
    exact g_iret rfl dX12_told_71
  · refine g_iload 4 dX12_told_41 rfl ?_
    refine g_aload_n 0 dX12_told_43 rfl ?_
    refine g_iload_n 1 dX12_told_44 rfl ?_
    refine g_iload 5 dX12_told_45 rfl ?_
    refine g_iload_n 2 dX12_told_47 rfl ?_
    refine g_iload_n 3 dX12_told_48 rfl ?_
    refine g_callVi (J := I_X12_isTold) (t := 13) (As := [.int l1, .int l6, .int l2, .int l3]) (rest := [.int l5]) mjv_X12_isTold ml_RX12_409 ⟨rfl, by decide, by decide⟩ (by decide) rfl rfl (Nat.le_of_ble_eq_true rfl) dX12_told_49 (T_X12_isTold F l0 l1 l6 l2 l3 h) (fun v8 h9 => ?_)
    refine g_if_eq (tgt := 59) dX12_told_52 (by decide) (fun c10 => ?_) (fun c10 => ?_)
    · refine g_iconst (v := 0) dX12_told_59 (by decide) ?_
      refine G_lv [0, 1, 2, 3, 5] rfl ?_
      exact T_X12_told_60 F hK28 l0 l1 l2 l3 l6 0 l5 h9
    · refine g_iconst (v := 1) dX12_told_55 (by decide) ?_
      refine g_goto (tgt := 60) dX12_told_56 (by decide) ?_
      refine G_lv [0, 1, 2, 3, 5] rfl ?_
      exact T_X12_told_60 F hK28 l0 l1 l2 l3 l6 1 l5 h9
set_option maxRecDepth 100000 in
noncomputable def f_X12_told_28 (F : Nat) : Nat → Nat → Int32 → Int32 → Int32 → Int32 → Int32 → Hp → Option (Int32 × Hp)
  | 0, _, _, _, _, _, _, _ => none
  | n + 1, l0, l1, l2, l3, l5, l6, h => f_X12_told_28_b F (f_X12_told_28 F n) l0 l1 l2 l3 l5 l6 h
set_option maxRecDepth 100000 in
set_option maxHeartbeats 4000000 in
theorem T_X12_told_28 (F : Nat) : ∀ (n : Nat) (l0 : Nat) (l1 : Int32) (l2 : Int32) (l3 : Int32) (l5 : Int32) (l6 : Int32) (h : Hp), G rvI I_X12_told 7 28 [(0, .ref l0), (1, .int l1), (2, .int l2), (3, .int l3), (5, .int l5), (6, .int l6)] [] h (f_X12_told_28 F n l0 l1 l2 l3 l5 l6 h) := by
  intro n
  induction n with
  | zero => intros; exact G_none
  | succ n ih => intro l0 l1 l2 l3 l5 l6 h; exact T_X12_told_28_b F ih l0 l1 l2 l3 l5 l6 h
set_option maxRecDepth 100000 in
noncomputable def f_X12_told (F : Nat) (a0 : Nat) (a1 : Int32) (a2 : Int32) (a3 : Int32) (h : Hp) : Option (Int32 × Hp) :=
  pI 13 h a0 0 0 fun h1 => cV 13 h1 a0 (f_X12_noTold F a0 a1 a2 a3 h1) fun v2 h3 => if v2 = 0 then (f_X12_told_28 F F a0 a1 a2 a3 0 0 h3) else (some (v2, h3))
set_option maxRecDepth 100000 in
set_option maxHeartbeats 4000000 in
theorem T_X12_told (F : Nat) (a0 : Nat) (a1 : Int32) (a2 : Int32) (a3 : Int32) (h : Hp) : GM rvI I_X12_told 7 [.ref a0, .int a1, .int a2, .int a3] h (f_X12_told F a0 a1 a2 a3 h) := by
  delta f_X12_told
  refine GM_of (lv := [(0, .ref a0), (1, .int a1), (2, .int a2), (3, .int a3)]) (by decide +kernel) (Nat.le_of_ble_eq_true rfl) rfl ?_
  refine g_aload_n 0 dX12_told_0 rfl ?_
  refine g_iconst (v := 0) dX12_told_1 (by decide) ?_
  refine g_putI fl_RX12_1 (Or.inl rfl) dX12_told_2 (fun h1 => ?_)
  refine g_aload_n 0 dX12_told_5 rfl ?_
  refine g_iload_n 1 dX12_told_6 rfl ?_
  refine g_iload_n 2 dX12_told_7 rfl ?_
  refine g_iload_n 3 dX12_told_8 rfl ?_
  refine g_callVi (J := I_X12_noTold) (t := 13) (As := [.int a1, .int a2, .int a3]) (rest := []) mjv_X12_noTold ml_RX12_406 ⟨rfl, by decide, by decide⟩ (by decide) rfl rfl (Nat.le_of_ble_eq_true rfl) dX12_told_9 (T_X12_noTold F a0 a1 a2 a3 h1) (fun v2 h3 => ?_)
  refine g_istore (lv' := [(4, .int v2), (0, .ref a0), (1, .int a1), (2, .int a2), (3, .int a3)]) dX12_told_12 (by decide) rfl ?_
  refine g_iload 0 dX12_told_14 rfl ?_
  refine g_if_eq (tgt := 22) dX12_told_16 (by decide) (fun c4 => ?_) (fun c4 => ?_)
  · refine g_iconst (v := 0) dX12_told_22 (by decide) ?_
    refine g_istore (lv' := [(5, .int 0), (4, .int v2), (0, .ref a0), (1, .int a1), (2, .int a2), (3, .int a3)]) dX12_told_23 (by decide) rfl ?_
    refine g_iconst (v := 0) dX12_told_25 (by decide) ?_
    refine g_istore (lv' := [(6, .int 0), (5, .int 0), (4, .int v2), (0, .ref a0), (1, .int a1), (2, .int a2), (3, .int a3)]) dX12_told_26 (by decide) rfl ?_
    refine G_lv [3, 4, 5, 6, 1, 0] rfl ?_
    exact T_X12_told_28 F F a0 a1 a2 a3 0 0 h3
  · refine g_iload 0 dX12_told_19 rfl ?_
    exact g_iret rfl dX12_told_21
set_option maxRecDepth 100000 in
noncomputable def f_X12_undo_44_b (F : Nat) (K44 : Nat → Int32 → Hp → Option (Int32 × Hp)) (l0 : Nat) (l2 : Int32) (h : Hp) : Option (Int32 × Hp) :=
  if 9 ≤ l2 then (gR 13 h l0 1 fun v12 => aI 20 h v12 52 fun v13 => some (v13, h)) else (gR 13 h l0 1 fun v14 => gR 13 h l0 1 fun v15 => gR 13 h l0 1 fun v16 => aI 20 h v16 52 fun v17 => aI 20 h v15 ((53 + (9 * v17)) + l2) fun v18 => wI h v14 (43 + l2) v18 fun h19 => K44 l0 (l2 + 1) h19)
set_option maxRecDepth 100000 in
set_option maxHeartbeats 4000000 in
theorem T_X12_undo_44_b (F : Nat) {K44 : Nat → Int32 → Hp → Option (Int32 × Hp)} (hK44 : ∀ (l0 : Nat) (l2 : Int32) (h : Hp), G rvI I_X12_undo 2 44 [(0, .ref l0), (2, .int l2)] [] h (K44 l0 l2 h)) (l0 : Nat) (l2 : Int32) (h : Hp) : G rvI I_X12_undo 2 44 [(0, .ref l0), (2, .int l2)] [] h (f_X12_undo_44_b F K44 l0 l2 h) := by
  delta f_X12_undo_44_b
  refine g_iload_n 1 dX12_undo_44 rfl ?_
  refine g_bipush (v := 9) dX12_undo_45 (by decide) ?_
  refine g_icmp_ge (tgt := 85) dX12_undo_47 (by decide) (fun c11 => ?_) (fun c11 => ?_)
  · refine g_aload_n 0 dX12_undo_85 rfl ?_
    refine g_getR fl_RX12_13 rfl dX12_undo_86 (fun v12 => ?_)
    refine g_bipush (v := 52) dX12_undo_89 (by decide) ?_
    refine g_iald dX12_undo_91 (fun v13 => ?_)
    exact g_iret rfl dX12_undo_92
  · refine g_aload_n 0 dX12_undo_50 rfl ?_
    refine g_getR fl_RX12_13 rfl dX12_undo_51 (fun v14 => ?_)
    refine g_bipush (v := 43) dX12_undo_54 (by decide) ?_
    refine g_iload_n 1 dX12_undo_56 rfl ?_
    refine g_iadd dX12_undo_57 ?_
    refine g_aload_n 0 dX12_undo_58 rfl ?_
    refine g_getR fl_RX12_13 rfl dX12_undo_59 (fun v15 => ?_)
    refine g_bipush (v := 53) dX12_undo_62 (by decide) ?_
    refine g_bipush (v := 9) dX12_undo_64 (by decide) ?_
    refine g_aload_n 0 dX12_undo_66 rfl ?_
    refine g_getR fl_RX12_13 rfl dX12_undo_67 (fun v16 => ?_)
    refine g_bipush (v := 52) dX12_undo_70 (by decide) ?_
    refine g_iald dX12_undo_72 (fun v17 => ?_)
    refine g_imul dX12_undo_73 ?_
    refine g_iadd dX12_undo_74 ?_
    refine g_iload_n 1 dX12_undo_75 rfl ?_
    refine g_iadd dX12_undo_76 ?_
    refine g_iald dX12_undo_77 (fun v18 => ?_)
    refine g_iast dX12_undo_78 (fun h19 => ?_)
    refine g_iinc (v' := l2 + 1) (lv' := [(2, .int (l2 + 1)), (0, .ref l0)]) 1 dX12_undo_79 rfl rfl (by decide) rfl ?_
    refine g_goto (tgt := 44) dX12_undo_82 (by decide) ?_
    refine G_lv [1, 0] rfl ?_
    exact hK44 l0 (l2 + 1) h19
set_option maxRecDepth 100000 in
noncomputable def f_X12_undo_44 (F : Nat) : Nat → Nat → Int32 → Hp → Option (Int32 × Hp)
  | 0, _, _, _ => none
  | n + 1, l0, l2, h => f_X12_undo_44_b F (f_X12_undo_44 F n) l0 l2 h
set_option maxRecDepth 100000 in
set_option maxHeartbeats 4000000 in
theorem T_X12_undo_44 (F : Nat) : ∀ (n : Nat) (l0 : Nat) (l2 : Int32) (h : Hp), G rvI I_X12_undo 2 44 [(0, .ref l0), (2, .int l2)] [] h (f_X12_undo_44 F n l0 l2 h) := by
  intro n
  induction n with
  | zero => intros; exact G_none
  | succ n ih => intro l0 l2 h; exact T_X12_undo_44_b F ih l0 l2 h
set_option maxRecDepth 100000 in
noncomputable def f_X12_undo (F : Nat) (a0 : Nat) (a1 : Int32) (h : Hp) : Option (Int32 × Hp) :=
  pI 13 h a0 0 0 fun h1 => bd (f_X12_within F (a1.toInt64) 1 10 h1) fun v2 h3 => if v2 = 0 then (some ((-3), h3)) else (gR 13 h3 a0 1 fun v5 => aI 20 h3 v5 52 fun v6 => if a1 ≤ v6 then (gR 13 h3 a0 1 fun v8 => aI 20 h3 v8 52 fun v9 => wI h3 v8 52 (v9 - a1) fun h10 => f_X12_undo_44 F F a0 0 h10) else (some ((-3), h3)))
set_option maxRecDepth 100000 in
set_option maxHeartbeats 4000000 in
theorem T_X12_undo (F : Nat) (a0 : Nat) (a1 : Int32) (h : Hp) : GM rvI I_X12_undo 2 [.ref a0, .int a1] h (f_X12_undo F a0 a1 h) := by
  delta f_X12_undo
  refine GM_of (lv := [(0, .ref a0), (1, .int a1)]) (by decide +kernel) (Nat.le_of_ble_eq_true rfl) rfl ?_
  refine g_aload_n 0 dX12_undo_0 rfl ?_
  refine g_iconst (v := 0) dX12_undo_1 (by decide) ?_
  refine g_putI fl_RX12_1 (Or.inl rfl) dX12_undo_2 (fun h1 => ?_)
  refine g_iload_n 1 dX12_undo_5 rfl ?_
  refine g_i2l dX12_undo_6 ?_
  refine g_lconst (v := 1) dX12_undo_7 (by decide) ?_
  refine g_ldc2 (v := 10) dX12_undo_8 cl_RX12_295 ?_
  refine g_callSi (J := I_X12_within) (As := [.long (a1.toInt64), .long 1, .long 10]) (rest := []) mjs_X12_within ml_RX12_138 (by decide) rfl rfl (Nat.le_of_ble_eq_true rfl) dX12_undo_11 (T_X12_within F (a1.toInt64) 1 10 h1) (fun v2 h3 => ?_)
  refine g_if_eq (tgt := 28) dX12_undo_14 (by decide) (fun c4 => ?_) (fun c4 => ?_)
  · refine g_bipush (v := (-3)) dX12_undo_28 (by decide) ?_
    exact g_iret rfl dX12_undo_30
  · refine g_iload_n 1 dX12_undo_17 rfl ?_
    refine g_aload_n 0 dX12_undo_18 rfl ?_
    refine g_getR fl_RX12_13 rfl dX12_undo_19 (fun v5 => ?_)
    refine g_bipush (v := 52) dX12_undo_22 (by decide) ?_
    refine g_iald dX12_undo_24 (fun v6 => ?_)
    refine g_icmp_le (tgt := 31) dX12_undo_25 (by decide) (fun c7 => ?_) (fun c7 => ?_)
    · refine g_aload_n 0 dX12_undo_31 rfl ?_
      refine g_getR fl_RX12_13 rfl dX12_undo_32 (fun v8 => ?_)
      refine g_bipush (v := 52) dX12_undo_35 (by decide) ?_
      refine g_dup2 dX12_undo_37 rfl rfl ?_
      refine g_iald dX12_undo_38 (fun v9 => ?_)
      refine g_iload_n 1 dX12_undo_39 rfl ?_
      refine g_isub dX12_undo_40 ?_
      refine g_iast dX12_undo_41 (fun h10 => ?_)
      refine g_iconst (v := 0) dX12_undo_42 (by decide) ?_
      refine g_istore_n (lv' := [(2, .int 0), (0, .ref a0), (1, .int a1)]) dX12_undo_43 (by decide) rfl ?_
      refine G_lv [1, 0] rfl ?_
      exact T_X12_undo_44 F F a0 0 h10
    · refine g_bipush (v := (-3)) dX12_undo_28 (by decide) ?_
      exact g_iret rfl dX12_undo_30
set_option maxRecDepth 100000 in
noncomputable def f_X12_way (F : Nat) (a0 : Nat) (a1 : Int32) (a2 : Int32) (a3 : Int32) (h : Hp) : Option (Int32 × Hp) :=
  pI 13 h a0 0 0 fun h1 => cV 13 h1 a0 (f_X12_areSets F a0 a1 a2 h1) fun v2 h3 => if v2 = 0 then (some ((-3), h3)) else (if 0 ≤ a3 then (cV 13 h3 a0 (f_X12_goals F a0 a1 a2 h3) fun v6 h7 => cV 13 h7 a0 (f_X12_laysStill F a0 511 0 h7) fun v8 h9 => cV 13 h9 a0 (f_X12_moveAt F a0 a3 h9) fun v10 h11 => some (v10, h11)) else (some ((-3), h3)))
set_option maxRecDepth 100000 in
set_option maxHeartbeats 4000000 in
theorem T_X12_way (F : Nat) (a0 : Nat) (a1 : Int32) (a2 : Int32) (a3 : Int32) (h : Hp) : GM rvI I_X12_way 9 [.ref a0, .int a1, .int a2, .int a3] h (f_X12_way F a0 a1 a2 a3 h) := by
  delta f_X12_way
  refine GM_of (lv := [(0, .ref a0), (1, .int a1), (2, .int a2), (3, .int a3)]) (by decide +kernel) (Nat.le_of_ble_eq_true rfl) rfl ?_
  refine g_aload_n 0 dX12_way_0 rfl ?_
  refine g_iconst (v := 0) dX12_way_1 (by decide) ?_
  refine g_putI fl_RX12_1 (Or.inl rfl) dX12_way_2 (fun h1 => ?_)
  refine g_aload_n 0 dX12_way_5 rfl ?_
  refine g_iload_n 1 dX12_way_6 rfl ?_
  refine g_iload_n 2 dX12_way_7 rfl ?_
  refine g_callVi (J := I_X12_areSets) (t := 13) (As := [.int a1, .int a2]) (rest := []) mjv_X12_areSets ml_RX12_375 ⟨rfl, by decide, by decide⟩ (by decide) rfl rfl (Nat.le_of_ble_eq_true rfl) dX12_way_8 (T_X12_areSets F a0 a1 a2 h1) (fun v2 h3 => ?_)
  refine g_if_eq (tgt := 18) dX12_way_11 (by decide) (fun c4 => ?_) (fun c4 => ?_)
  · refine g_bipush (v := (-3)) dX12_way_18 (by decide) ?_
    exact g_iret rfl dX12_way_20
  · refine g_iload_n 3 dX12_way_14 rfl ?_
    refine g_if_ge (tgt := 21) dX12_way_15 (by decide) (fun c5 => ?_) (fun c5 => ?_)
    · refine g_aload_n 0 dX12_way_21 rfl ?_
      refine g_iload_n 1 dX12_way_22 rfl ?_
      refine g_iload_n 2 dX12_way_23 rfl ?_
      refine g_callVv (J := I_X12_goals) (t := 13) (As := [.int a1, .int a2]) (rest := []) mjv_X12_goals ml_RX12_379 ⟨rfl, by decide, by decide⟩ (by decide) rfl rfl (Nat.le_of_ble_eq_true rfl) dX12_way_24 (T_X12_goals F a0 a1 a2 h3) (fun v6 h7 => ?_)
      refine g_aload_n 0 dX12_way_27 rfl ?_
      refine g_sipush (v := 511) dX12_way_28 (by decide) ?_
      refine g_iconst (v := 0) dX12_way_31 (by decide) ?_
      refine g_callVi (J := I_X12_laysStill) (t := 13) (As := [.int 511, .int 0]) (rest := []) mjv_X12_laysStill ml_RX12_383 ⟨rfl, by decide, by decide⟩ (by decide) rfl rfl (Nat.le_of_ble_eq_true rfl) dX12_way_32 (T_X12_laysStill F a0 511 0 h7) (fun v8 h9 => ?_)
      refine g_pop dX12_way_35 rfl ?_
      refine g_aload_n 0 dX12_way_36 rfl ?_
      refine g_iload_n 3 dX12_way_37 rfl ?_
      refine g_callVi (J := I_X12_moveAt) (t := 13) (As := [.int a3]) (rest := []) mjv_X12_moveAt ml_RX12_390 ⟨rfl, by decide, by decide⟩ (by decide) rfl rfl (Nat.le_of_ble_eq_true rfl) dX12_way_38 (T_X12_moveAt F a0 a3 h9) (fun v10 h11 => ?_)
      exact g_iret rfl dX12_way_41
    · refine g_bipush (v := (-3)) dX12_way_18 (by decide) ?_
      exact g_iret rfl dX12_way_20
set_option maxRecDepth 100000 in
noncomputable def f_X12_whom_33_b (F : Nat) (K33 : Nat → Int32 → Int32 → Int32 → Int32 → Int32 → Hp → Option (Int32 × Hp)) (l0 : Nat) (l1 : Int32) (l2 : Int32) (l3 : Int32) (l4 : Int32) (l6 : Int32) (h : Hp) : Option (Int32 × Hp) :=
  gR 13 h l0 33 fun v6 => aI 20 h v6 l1 fun v7 => if ((1 : Int32) <<< (v7 &&& 31)) ≤ l6 then (some ((-1), h)) else (gR 13 h l0 33 fun v9 => aI 20 h v9 l1 fun v10 => if v10 ≤ l4 then (some ((-1), h)) else (cV 13 h l0 (f_X12_isTold F l0 l1 l6 l2 l3 h) fun v12 h13 => if v12 = 0 then (K33 l0 l1 l2 l3 l4 (l6 + 1) h13) else (gR 13 h13 l0 33 fun v15 => aI 20 h13 v15 l1 fun v16 => bd (f_X12_twinAt F l6 v16 l4 h13) fun v17 h18 => some (v17, h18))))
set_option maxRecDepth 100000 in
set_option maxHeartbeats 4000000 in
theorem T_X12_whom_33_b (F : Nat) {K33 : Nat → Int32 → Int32 → Int32 → Int32 → Int32 → Hp → Option (Int32 × Hp)} (hK33 : ∀ (l0 : Nat) (l1 : Int32) (l2 : Int32) (l3 : Int32) (l4 : Int32) (l6 : Int32) (h : Hp), G rvI I_X12_whom 7 33 [(0, .ref l0), (1, .int l1), (2, .int l2), (3, .int l3), (4, .int l4), (6, .int l6)] [] h (K33 l0 l1 l2 l3 l4 l6 h)) (l0 : Nat) (l1 : Int32) (l2 : Int32) (l3 : Int32) (l4 : Int32) (l6 : Int32) (h : Hp) : G rvI I_X12_whom 7 33 [(0, .ref l0), (1, .int l1), (2, .int l2), (3, .int l3), (4, .int l4), (6, .int l6)] [] h (f_X12_whom_33_b F K33 l0 l1 l2 l3 l4 l6 h) := by
  delta f_X12_whom_33_b
  refine g_iload 5 dX12_whom_33 rfl ?_
  refine g_iconst (v := 1) dX12_whom_35 (by decide) ?_
  refine g_aload_n 0 dX12_whom_36 rfl ?_
  refine g_getR fl_RX12_66 rfl dX12_whom_37 (fun v6 => ?_)
  refine g_iload_n 1 dX12_whom_40 rfl ?_
  refine g_iald dX12_whom_41 (fun v7 => ?_)
  refine g_ishl dX12_whom_42 ?_
  refine g_icmp_ge (tgt := 89) dX12_whom_43 (by decide) (fun c8 => ?_) (fun c8 => ?_)
  · refine g_iconst (v := (-1)) dX12_whom_89 (by decide) ?_
    exact g_iret rfl dX12_whom_90
  · refine g_iload 4 dX12_whom_46 rfl ?_
    refine g_aload_n 0 dX12_whom_48 rfl ?_
    refine g_getR fl_RX12_66 rfl dX12_whom_49 (fun v9 => ?_)
    refine g_iload_n 1 dX12_whom_52 rfl ?_
    refine g_iald dX12_whom_53 (fun v10 => ?_)
    refine g_icmp_ge (tgt := 89) dX12_whom_54 (by decide) (fun c11 => ?_) (fun c11 => ?_)
    · refine g_iconst (v := (-1)) dX12_whom_89 (by decide) ?_
      exact g_iret rfl dX12_whom_90
    · refine g_aload_n 0 dX12_whom_57 rfl ?_
      refine g_iload_n 1 dX12_whom_58 rfl ?_
      refine g_iload 5 dX12_whom_59 rfl ?_
      refine g_iload_n 2 dX12_whom_61 rfl ?_
      refine g_iload_n 3 dX12_whom_62 rfl ?_
      refine g_callVi (J := I_X12_isTold) (t := 13) (As := [.int l1, .int l6, .int l2, .int l3]) (rest := []) mjv_X12_isTold ml_RX12_409 ⟨rfl, by decide, by decide⟩ (by decide) rfl rfl (Nat.le_of_ble_eq_true rfl) dX12_whom_63 (T_X12_isTold F l0 l1 l6 l2 l3 h) (fun v12 h13 => ?_)
      refine g_if_eq (tgt := 83) dX12_whom_66 (by decide) (fun c14 => ?_) (fun c14 => ?_)
      · refine g_iinc (v' := l6 + 1) (lv' := [(6, .int (l6 + 1)), (0, .ref l0), (1, .int l1), (2, .int l2), (3, .int l3), (4, .int l4)]) 5 dX12_whom_83 rfl rfl (by decide) rfl ?_
        refine g_goto (tgt := 33) dX12_whom_86 (by decide) ?_
        refine G_lv [1, 2, 3, 4, 5, 0] rfl ?_
        exact hK33 l0 l1 l2 l3 l4 (l6 + 1) h13
      · refine g_iload 5 dX12_whom_69 rfl ?_
        refine g_aload_n 0 dX12_whom_71 rfl ?_
        refine g_getR fl_RX12_66 rfl dX12_whom_72 (fun v15 => ?_)
        refine g_iload_n 1 dX12_whom_75 rfl ?_
        refine g_iald dX12_whom_76 (fun v16 => ?_)
        refine g_iload 4 dX12_whom_77 rfl ?_
        refine g_callSi (J := I_X12_twinAt) (As := [.int l6, .int v16, .int l4]) (rest := []) mjs_X12_twinAt ml_RX12_403 (by decide) rfl rfl (Nat.le_of_ble_eq_true rfl) dX12_whom_79 (T_X12_twinAt F l6 v16 l4 h13) (fun v17 h18 => ?_)
        exact g_iret rfl dX12_whom_82
set_option maxRecDepth 100000 in
noncomputable def f_X12_whom_33 (F : Nat) : Nat → Nat → Int32 → Int32 → Int32 → Int32 → Int32 → Hp → Option (Int32 × Hp)
  | 0, _, _, _, _, _, _, _ => none
  | n + 1, l0, l1, l2, l3, l4, l6, h => f_X12_whom_33_b F (f_X12_whom_33 F n) l0 l1 l2 l3 l4 l6 h
set_option maxRecDepth 100000 in
set_option maxHeartbeats 4000000 in
theorem T_X12_whom_33 (F : Nat) : ∀ (n : Nat) (l0 : Nat) (l1 : Int32) (l2 : Int32) (l3 : Int32) (l4 : Int32) (l6 : Int32) (h : Hp), G rvI I_X12_whom 7 33 [(0, .ref l0), (1, .int l1), (2, .int l2), (3, .int l3), (4, .int l4), (6, .int l6)] [] h (f_X12_whom_33 F n l0 l1 l2 l3 l4 l6 h) := by
  intro n
  induction n with
  | zero => intros; exact G_none
  | succ n ih => intro l0 l1 l2 l3 l4 l6 h; exact T_X12_whom_33_b F ih l0 l1 l2 l3 l4 l6 h
set_option maxRecDepth 100000 in
noncomputable def f_X12_whom (F : Nat) (a0 : Nat) (a1 : Int32) (a2 : Int32) (a3 : Int32) (a4 : Int32) (h : Hp) : Option (Int32 × Hp) :=
  pI 13 h a0 0 0 fun h1 => cV 13 h1 a0 (f_X12_noTold F a0 a1 a2 a3 h1) fun v2 h3 => if v2 = 0 then (if 0 ≤ a4 then (f_X12_whom_33 F F a0 a1 a2 a3 a4 0 h3) else (some ((-3), h3))) else (some (v2, h3))
set_option maxRecDepth 100000 in
set_option maxHeartbeats 4000000 in
theorem T_X12_whom (F : Nat) (a0 : Nat) (a1 : Int32) (a2 : Int32) (a3 : Int32) (a4 : Int32) (h : Hp) : GM rvI I_X12_whom 7 [.ref a0, .int a1, .int a2, .int a3, .int a4] h (f_X12_whom F a0 a1 a2 a3 a4 h) := by
  delta f_X12_whom
  refine GM_of (lv := [(0, .ref a0), (1, .int a1), (2, .int a2), (3, .int a3), (4, .int a4)]) (by decide +kernel) (Nat.le_of_ble_eq_true rfl) rfl ?_
  refine g_aload_n 0 dX12_whom_0 rfl ?_
  refine g_iconst (v := 0) dX12_whom_1 (by decide) ?_
  refine g_putI fl_RX12_1 (Or.inl rfl) dX12_whom_2 (fun h1 => ?_)
  refine g_aload_n 0 dX12_whom_5 rfl ?_
  refine g_iload_n 1 dX12_whom_6 rfl ?_
  refine g_iload_n 2 dX12_whom_7 rfl ?_
  refine g_iload_n 3 dX12_whom_8 rfl ?_
  refine g_callVi (J := I_X12_noTold) (t := 13) (As := [.int a1, .int a2, .int a3]) (rest := []) mjv_X12_noTold ml_RX12_406 ⟨rfl, by decide, by decide⟩ (by decide) rfl rfl (Nat.le_of_ble_eq_true rfl) dX12_whom_9 (T_X12_noTold F a0 a1 a2 a3 h1) (fun v2 h3 => ?_)
  refine g_istore (lv' := [(5, .int v2), (0, .ref a0), (1, .int a1), (2, .int a2), (3, .int a3), (4, .int a4)]) dX12_whom_12 (by decide) rfl ?_
  refine g_iload 0 dX12_whom_14 rfl ?_
  refine g_if_eq (tgt := 22) dX12_whom_16 (by decide) (fun c4 => ?_) (fun c4 => ?_)
  · refine g_iload 5 dX12_whom_22 rfl ?_
    refine g_if_ge (tgt := 30) dX12_whom_24 (by decide) (fun c5 => ?_) (fun c5 => ?_)
    · refine g_iconst (v := 0) dX12_whom_30 (by decide) ?_
      refine g_istore (lv' := [(6, .int 0), (5, .int v2), (0, .ref a0), (1, .int a1), (2, .int a2), (3, .int a3), (4, .int a4)]) dX12_whom_31 (by decide) rfl ?_
      refine G_lv [2, 3, 4, 5, 6, 0] rfl ?_
      exact T_X12_whom_33 F F a0 a1 a2 a3 a4 0 h3
    · refine g_bipush (v := (-3)) dX12_whom_27 (by decide) ?_
      exact g_iret rfl dX12_whom_29
  · refine g_iload 0 dX12_whom_19 rfl ?_
    exact g_iret rfl dX12_whom_21
set_option maxRecDepth 100000 in
noncomputable def f_X12_cut (F : Nat) (a0 : Int64) (a1 : Int32) (h : Hp) : Option (Int64 × Hp) :=
  if a1 = 0 then (some (((((((a0 : Int64).toInt32) : Int32).toInt8.toInt32) : Int32).toInt64), h)) else (if a1 = 1 then (some (((((((a0 : Int64).toInt32) : Int32).toInt16.toInt32) : Int32).toInt64), h)) else (if a1 = 2 then (some (((((a0 : Int64).toInt32) : Int32).toInt64), h)) else (some (a0, h))))
set_option maxRecDepth 100000 in
set_option maxHeartbeats 4000000 in
theorem T_X12_cut (F : Nat) (a0 : Int64) (a1 : Int32) (h : Hp) : GM rvL I_X12_cut 1 [.long a0, .int a1] h (f_X12_cut F a0 a1 h) := by
  delta f_X12_cut
  refine GM_of (lv := [(0, .long a0), (2, .int a1)]) (by decide +kernel) (Nat.le_of_ble_eq_true rfl) rfl ?_
  refine g_iload_n 1 dX12_cut_0 rfl ?_
  refine g_if_ne (tgt := 11) dX12_cut_1 (by decide) (fun c1 => ?_) (fun c1 => ?_)
  · refine g_lload_n 0 dX12_cut_4 rfl ?_
    refine g_l2i dX12_cut_5 ?_
    refine g_i2b dX12_cut_6 ?_
    refine g_i2l dX12_cut_7 ?_
    refine g_goto (tgt := 35) dX12_cut_8 (by decide) ?_
    exact g_lret rfl dX12_cut_35
  · refine g_iload_n 1 dX12_cut_11 rfl ?_
    refine g_iconst (v := 1) dX12_cut_12 (by decide) ?_
    refine g_icmp_ne (tgt := 23) dX12_cut_13 (by decide) (fun c2 => ?_) (fun c2 => ?_)
    · refine g_lload_n 0 dX12_cut_16 rfl ?_
      refine g_l2i dX12_cut_17 ?_
      refine g_i2s dX12_cut_18 ?_
      refine g_i2l dX12_cut_19 ?_
      refine g_goto (tgt := 35) dX12_cut_20 (by decide) ?_
      exact g_lret rfl dX12_cut_35
    · refine g_iload_n 1 dX12_cut_23 rfl ?_
      refine g_iconst (v := 2) dX12_cut_24 (by decide) ?_
      refine g_icmp_ne (tgt := 34) dX12_cut_25 (by decide) (fun c3 => ?_) (fun c3 => ?_)
      · refine g_lload_n 0 dX12_cut_28 rfl ?_
        refine g_l2i dX12_cut_29 ?_
        refine g_i2l dX12_cut_30 ?_
        refine g_goto (tgt := 35) dX12_cut_31 (by decide) ?_
        exact g_lret rfl dX12_cut_35
      · refine g_lload_n 0 dX12_cut_34 rfl ?_
        exact g_lret rfl dX12_cut_35
set_option maxRecDepth 100000 in
noncomputable def f_X12_write (F : Nat) (a0 : Nat) (a1 : Int32) (a2 : Int32) (a3 : Int64) (h : Hp) : Option (Int64 × Hp) :=
  pI 13 h a0 0 0 fun h1 => cV 13 h1 a0 (f_X12_noTray F a0 a1 h1) fun v2 h3 => if v2 = 0 then (gR 13 h3 a0 33 fun v5 => aI 20 h3 v5 a1 fun v6 => bd (f_X12_within F (a2.toInt64) 0 (((v6 - 1) : Int32).toInt64) h3) fun v7 h8 => if v7 = 0 then (some ((-7), h8)) else (gR 13 h8 a0 34 fun v10 => gR 13 h8 a0 32 fun v11 => aI 20 h8 v11 a1 fun v12 => bd (f_X12_cut F a3 v12 h8) fun v13 h14 => wL h14 v10 ((40 * a1) + a2) v13 fun h15 => gR 13 h15 a0 34 fun v16 => aL h15 v16 ((40 * a1) + a2) fun v17 => some (v17, h15))) else (some ((v2.toInt64), h3))
set_option maxRecDepth 100000 in
set_option maxHeartbeats 4000000 in
theorem T_X12_write (F : Nat) (a0 : Nat) (a1 : Int32) (a2 : Int32) (a3 : Int64) (h : Hp) : GM rvL I_X12_write 3 [.ref a0, .int a1, .int a2, .long a3] h (f_X12_write F a0 a1 a2 a3 h) := by
  delta f_X12_write
  refine GM_of (lv := [(0, .ref a0), (1, .int a1), (2, .int a2), (3, .long a3)]) (by decide +kernel) (Nat.le_of_ble_eq_true rfl) rfl ?_
  refine g_aload_n 0 dX12_write_0 rfl ?_
  refine g_iconst (v := 0) dX12_write_1 (by decide) ?_
  refine g_putI fl_RX12_1 (Or.inl rfl) dX12_write_2 (fun h1 => ?_)
  refine g_aload_n 0 dX12_write_5 rfl ?_
  refine g_iload_n 1 dX12_write_6 rfl ?_
  refine g_callVi (J := I_X12_noTray) (t := 13) (As := [.int a1]) (rest := []) mjv_X12_noTray ml_RX12_321 ⟨rfl, by decide, by decide⟩ (by decide) rfl rfl (Nat.le_of_ble_eq_true rfl) dX12_write_7 (T_X12_noTray F a0 a1 h1) (fun v2 h3 => ?_)
  refine g_istore (lv' := [(5, .int v2), (0, .ref a0), (1, .int a1), (2, .int a2), (3, .long a3)]) dX12_write_10 (by decide) rfl ?_
  refine g_iload 0 dX12_write_12 rfl ?_
  refine g_if_eq (tgt := 21) dX12_write_14 (by decide) (fun c4 => ?_) (fun c4 => ?_)
  · refine g_iload_n 3 dX12_write_21 rfl ?_
    refine g_i2l dX12_write_22 ?_
    refine g_lconst (v := 0) dX12_write_23 (by decide) ?_
    refine g_aload_n 1 dX12_write_24 rfl ?_
    refine g_getR fl_RX12_66 rfl dX12_write_25 (fun v5 => ?_)
    refine g_iload_n 2 dX12_write_28 rfl ?_
    refine g_iald dX12_write_29 (fun v6 => ?_)
    refine g_iconst (v := 1) dX12_write_30 (by decide) ?_
    refine g_isub dX12_write_31 ?_
    refine g_i2l dX12_write_32 ?_
    refine g_callSi (J := I_X12_within) (As := [.long (a2.toInt64), .long 0, .long (((v6 - 1) : Int32).toInt64)]) (rest := []) mjs_X12_within ml_RX12_138 (by decide) rfl rfl (Nat.le_of_ble_eq_true rfl) dX12_write_33 (T_X12_within F (a2.toInt64) 0 (((v6 - 1) : Int32).toInt64) h3) (fun v7 h8 => ?_)
    refine g_if_ne (tgt := 43) dX12_write_36 (by decide) (fun c9 => ?_) (fun c9 => ?_)
    · refine g_ldc2 (v := (-7)) dX12_write_39 cl_RX12_442 ?_
      exact g_lret rfl dX12_write_42
    · refine g_aload_n 1 dX12_write_43 rfl ?_
      refine g_getR fl_RX12_69 rfl dX12_write_44 (fun v10 => ?_)
      refine g_bipush (v := 40) dX12_write_47 (by decide) ?_
      refine g_iload_n 2 dX12_write_49 rfl ?_
      refine g_imul dX12_write_50 ?_
      refine g_iload_n 3 dX12_write_51 rfl ?_
      refine g_iadd dX12_write_52 ?_
      refine g_lload_n 4 dX12_write_53 rfl ?_
      refine g_aload_n 1 dX12_write_54 rfl ?_
      refine g_getR fl_RX12_63 rfl dX12_write_55 (fun v11 => ?_)
      refine g_iload_n 2 dX12_write_58 rfl ?_
      refine g_iald dX12_write_59 (fun v12 => ?_)
      refine g_callSl (J := I_X12_cut) (As := [.long a3, .int v12]) (rest := [.int ((40 * a1) + a2), .ref v10]) mjs_X12_cut ml_RX12_444 (by decide) rfl rfl (Nat.le_of_ble_eq_true rfl) dX12_write_60 (T_X12_cut F a3 v12 h8) (fun v13 h14 => ?_)
      refine g_last dX12_write_63 (fun h15 => ?_)
      refine g_aload_n 1 dX12_write_64 rfl ?_
      refine g_getR fl_RX12_69 rfl dX12_write_65 (fun v16 => ?_)
      refine g_bipush (v := 40) dX12_write_68 (by decide) ?_
      refine g_iload_n 2 dX12_write_70 rfl ?_
      refine g_imul dX12_write_71 ?_
      refine g_iload_n 3 dX12_write_72 rfl ?_
      refine g_iadd dX12_write_73 ?_
      refine g_lald dX12_write_74 (fun v17 => ?_)
      exact g_lret rfl dX12_write_75
  · refine g_iload 0 dX12_write_17 rfl ?_
    refine g_i2l dX12_write_19 ?_
    exact g_lret rfl dX12_write_20
set_option maxRecDepth 100000 in
noncomputable def f_X12_draw (F : Nat) (a0 : Nat) (a1 : Int32) (h : Hp) : Option (Int32 × Hp) :=
  gI 13 h a0 20 fun v1 => pI 13 h a0 20 ((1103515245 * v1) + 12345) fun h2 => gI 13 h2 a0 20 fun v3 => gd (¬ a1 = 0) <| some (((ju v3 16) - (ju v3 16) / a1 * a1), h2)
set_option maxRecDepth 100000 in
set_option maxHeartbeats 4000000 in
theorem T_X12_draw (F : Nat) (a0 : Nat) (a1 : Int32) (h : Hp) : GM rvI I_X12_draw 1 [.ref a0, .int a1] h (f_X12_draw F a0 a1 h) := by
  delta f_X12_draw
  refine GM_of (lv := [(0, .ref a0), (1, .int a1)]) (by decide +kernel) (Nat.le_of_ble_eq_true rfl) rfl ?_
  refine g_aload_n 0 dX12_draw_0 rfl ?_
  refine g_ldcw (v := 1103515245) dX12_draw_1 co_RX12_330 ?_
  refine g_aload_n 0 dX12_draw_4 rfl ?_
  refine g_getI fl_RX12_331 rfl dX12_draw_5 (fun v1 => ?_)
  refine g_imul dX12_draw_8 ?_
  refine g_sipush (v := 12345) dX12_draw_9 (by decide) ?_
  refine g_iadd dX12_draw_12 ?_
  refine g_putI fl_RX12_331 (Or.inl rfl) dX12_draw_13 (fun h2 => ?_)
  refine g_aload_n 0 dX12_draw_16 rfl ?_
  refine g_getI fl_RX12_331 rfl dX12_draw_17 (fun v3 => ?_)
  refine g_bipush (v := 16) dX12_draw_20 (by decide) ?_
  refine g_iushr dX12_draw_22 ?_
  refine g_iload_n 1 dX12_draw_23 rfl ?_
  refine G_gd (fun z4 => ?_)
  refine g_irem z4 dX12_draw_24 ?_
  exact g_iret rfl dX12_draw_25
set_option maxRecDepth 100000 in
noncomputable def f_X12_drawn_47 (F : Nat) (l0 : Nat) (l2 : Int32) (s0 : Int32) (h : Hp) : Option (Int32 × Hp) :=
  cV 13 h l0 (f_X12_draw F l0 4 h) fun v10 h11 => some (((s0 + (10 * l2)) + v10), h11)
set_option maxRecDepth 100000 in
set_option maxHeartbeats 4000000 in
theorem T_X12_drawn_47 (F : Nat) (l0 : Nat) (l2 : Int32) (s0 : Int32) (h : Hp) : G rvI I_X12_drawn 2 47 [(0, .ref l0), (2, .int l2)] [.int s0] h (f_X12_drawn_47 F l0 l2 s0 h) := by
  delta f_X12_drawn_47
  refine g_bipush (v := 10) dX12_drawn_47 (by decide) ?_
  refine g_iload_n 1 dX12_drawn_49 rfl ?_
  refine g_imul dX12_drawn_50 ?_
  refine g_iadd dX12_drawn_51 ?_
  refine g_aload_n 0 dX12_drawn_52 rfl ?_
  refine g_iconst (v := 4) dX12_drawn_53 (by decide) ?_
  refine g_callVi (J := I_X12_draw) (t := 13) (As := [.int 4]) (rest := [.int (s0 + (10 * l2))]) mjv_X12_draw ml_RX12_334 ⟨rfl, by decide, by decide⟩ (by decide) rfl rfl (Nat.le_of_ble_eq_true rfl) dX12_drawn_54 (T_X12_draw F l0 4 h) (fun v10 h11 => ?_)
  refine g_iadd dX12_drawn_57 ?_
  exact g_iret rfl dX12_drawn_58
set_option maxRecDepth 100000 in
noncomputable def f_X12_drawn (F : Nat) (a0 : Nat) (h : Hp) : Option (Int32 × Hp) :=
  cV 13 h a0 (f_X12_draw F a0 6 h) fun v1 h2 => if v1 = 4 then (some ((-1), h2)) else (if v1 = 5 then (cV 13 h2 a0 (f_X12_draw F a0 10 h2) fun v5 h6 => some ((200 + v5), h6)) else (cV 13 h2 a0 (f_X12_draw F a0 2 h2) fun v7 h8 => if v1 = 3 then (f_X12_drawn_47 F a0 v7 100 h8) else (f_X12_drawn_47 F a0 v7 0 h8)))
set_option maxRecDepth 100000 in
set_option maxHeartbeats 4000000 in
theorem T_X12_drawn (F : Nat) (a0 : Nat) (h : Hp) : GM rvI I_X12_drawn 2 [.ref a0] h (f_X12_drawn F a0 h) := by
  delta f_X12_drawn
  refine GM_of (lv := [(0, .ref a0)]) (by decide +kernel) (Nat.le_of_ble_eq_true rfl) rfl ?_
  refine g_aload_n 0 dX12_drawn_0 rfl ?_
  refine g_bipush (v := 6) dX12_drawn_1 (by decide) ?_
  refine g_callVi (J := I_X12_draw) (t := 13) (As := [.int 6]) (rest := []) mjv_X12_draw ml_RX12_334 ⟨rfl, by decide, by decide⟩ (by decide) rfl rfl (Nat.le_of_ble_eq_true rfl) dX12_drawn_3 (T_X12_draw F a0 6 h) (fun v1 h2 => ?_)
  refine g_istore_n (lv' := [(1, .int v1), (0, .ref a0)]) dX12_drawn_6 (by decide) rfl ?_
  refine g_iload_n 0 dX12_drawn_7 rfl ?_
  refine g_iconst (v := 4) dX12_drawn_8 (by decide) ?_
  refine g_icmp_ne (tgt := 14) dX12_drawn_9 (by decide) (fun c3 => ?_) (fun c3 => ?_)
  · refine g_iconst (v := (-1)) dX12_drawn_12 (by decide) ?_
    exact g_iret rfl dX12_drawn_13
  · refine g_iload_n 0 dX12_drawn_14 rfl ?_
    refine g_iconst (v := 5) dX12_drawn_15 (by decide) ?_
    refine g_icmp_ne (tgt := 30) dX12_drawn_16 (by decide) (fun c4 => ?_) (fun c4 => ?_)
    · refine g_sipush (v := 200) dX12_drawn_19 (by decide) ?_
      refine g_aload_n 1 dX12_drawn_22 rfl ?_
      refine g_bipush (v := 10) dX12_drawn_23 (by decide) ?_
      refine g_callVi (J := I_X12_draw) (t := 13) (As := [.int 10]) (rest := [.int 200]) mjv_X12_draw ml_RX12_334 ⟨rfl, by decide, by decide⟩ (by decide) rfl rfl (Nat.le_of_ble_eq_true rfl) dX12_drawn_25 (T_X12_draw F a0 10 h2) (fun v5 h6 => ?_)
      refine g_iadd dX12_drawn_28 ?_
      exact g_iret rfl dX12_drawn_29
    · refine g_aload_n 1 dX12_drawn_30 rfl ?_
      refine g_iconst (v := 2) dX12_drawn_31 (by decide) ?_
      refine g_callVi (J := I_X12_draw) (t := 13) (As := [.int 2]) (rest := []) mjv_X12_draw ml_RX12_334 ⟨rfl, by decide, by decide⟩ (by decide) rfl rfl (Nat.le_of_ble_eq_true rfl) dX12_drawn_32 (T_X12_draw F a0 2 h2) (fun v7 h8 => ?_)
      refine g_istore_n (lv' := [(2, .int v7), (1, .int v1), (0, .ref a0)]) dX12_drawn_35 (by decide) rfl ?_
      refine g_iload_n 1 dX12_drawn_36 rfl ?_
      refine g_iconst (v := 3) dX12_drawn_37 (by decide) ?_
      refine g_icmp_ne (tgt := 46) dX12_drawn_38 (by decide) (fun c9 => ?_) (fun c9 => ?_)
      · refine g_bipush (v := 100) dX12_drawn_41 (by decide) ?_
        refine g_goto (tgt := 47) dX12_drawn_43 (by decide) ?_
        refine G_lv [2, 0] rfl ?_
        exact T_X12_drawn_47 F a0 v7 100 h8
      · refine g_iconst (v := 0) dX12_drawn_46 (by decide) ?_
        refine G_lv [2, 0] rfl ?_
        exact T_X12_drawn_47 F a0 v7 0 h8
set_option maxRecDepth 100000 in
noncomputable def f_X12_year_68 (F : Nat) (K34 : Nat → Int32 → Int32 → Int32 → Hp → Option (Int32 × Hp)) (l0 : Nat) (l2 : Int32) (l3 : Int32) (l4 : Int32) (h : Hp) : Option (Int32 × Hp) :=
  K34 l0 l2 l3 (l4 + 1) h
set_option maxRecDepth 100000 in
set_option maxHeartbeats 4000000 in
theorem T_X12_year_68 (F : Nat) {K34 : Nat → Int32 → Int32 → Int32 → Hp → Option (Int32 × Hp)} (hK34 : ∀ (l0 : Nat) (l2 : Int32) (l3 : Int32) (l4 : Int32) (h : Hp), G rvI I_X12_year 7 34 [(0, .ref l0), (2, .int l2), (3, .int l3), (4, .int l4)] [] h (K34 l0 l2 l3 l4 h)) (l0 : Nat) (l2 : Int32) (l3 : Int32) (l4 : Int32) (h : Hp) : G rvI I_X12_year 7 68 [(0, .ref l0), (2, .int l2), (3, .int l3), (4, .int l4)] [] h (f_X12_year_68 F K34 l0 l2 l3 l4 h) := by
  delta f_X12_year_68
  refine g_iinc (v' := l4 + 1) (lv' := [(4, .int (l4 + 1)), (0, .ref l0), (2, .int l2), (3, .int l3)]) 3 dX12_year_68 rfl rfl (by decide) rfl ?_
  refine g_goto (tgt := 34) dX12_year_71 (by decide) ?_
  refine G_lv [1, 2, 3, 0] rfl ?_
  exact hK34 l0 l2 l3 (l4 + 1) h
set_option maxRecDepth 100000 in
noncomputable def f_X12_year_34_b (F : Nat) (K34 : Nat → Int32 → Int32 → Int32 → Hp → Option (Int32 × Hp)) (l0 : Nat) (l2 : Int32) (l3 : Int32) (l4 : Int32) (h : Hp) : Option (Int32 × Hp) :=
  if l2 ≤ l4 then (if l3 ≤ 0 then (some (l3, h)) else (cV 13 h l0 (f_X12_notes F l0 h) fun v10 h11 => some (l3, h11))) else (cV 13 h l0 (f_X12_drawn F l0 h) fun v12 h13 => cV 13 h13 l0 (f_X12_whyNot F l0 (v12.toInt64) h13) fun v14 h15 => if v14 = 0 then (cV 13 h15 l0 (f_X12_acts F l0 v12 h15) fun v17 h18 => f_X12_year_68 F K34 l0 l2 (l3 + 1) l4 h18) else (f_X12_year_68 F K34 l0 l2 l3 l4 h15))
set_option maxRecDepth 100000 in
set_option maxHeartbeats 4000000 in
theorem T_X12_year_34_b (F : Nat) {K34 : Nat → Int32 → Int32 → Int32 → Hp → Option (Int32 × Hp)} (hK34 : ∀ (l0 : Nat) (l2 : Int32) (l3 : Int32) (l4 : Int32) (h : Hp), G rvI I_X12_year 7 34 [(0, .ref l0), (2, .int l2), (3, .int l3), (4, .int l4)] [] h (K34 l0 l2 l3 l4 h)) (l0 : Nat) (l2 : Int32) (l3 : Int32) (l4 : Int32) (h : Hp) : G rvI I_X12_year 7 34 [(0, .ref l0), (2, .int l2), (3, .int l3), (4, .int l4)] [] h (f_X12_year_34_b F K34 l0 l2 l3 l4 h) := by
  delta f_X12_year_34_b
  refine g_iload 3 dX12_year_34 rfl ?_
  refine g_iload_n 1 dX12_year_36 rfl ?_
  refine g_icmp_ge (tgt := 74) dX12_year_37 (by decide) (fun c8 => ?_) (fun c8 => ?_)
  · refine g_iload_n 2 dX12_year_74 rfl ?_
    refine g_if_le (tgt := 82) dX12_year_75 (by decide) (fun c9 => ?_) (fun c9 => ?_)
    · refine g_iload_n 2 dX12_year_82 rfl ?_
      exact g_iret rfl dX12_year_83
    · refine g_aload_n 0 dX12_year_78 rfl ?_
      refine g_callVv (J := I_X12_notes) (t := 13) (As := []) (rest := []) mjv_X12_notes ml_RX12_279 ⟨rfl, by decide, by decide⟩ (by decide) rfl rfl (Nat.le_of_ble_eq_true rfl) dX12_year_79 (T_X12_notes F l0 h) (fun v10 h11 => ?_)
      refine g_iload_n 2 dX12_year_82 rfl ?_
      exact g_iret rfl dX12_year_83
  · refine g_aload_n 0 dX12_year_40 rfl ?_
    refine g_callVi (J := I_X12_drawn) (t := 13) (As := []) (rest := []) mjv_X12_drawn ml_RX12_339 ⟨rfl, by decide, by decide⟩ (by decide) rfl rfl (Nat.le_of_ble_eq_true rfl) dX12_year_41 (T_X12_drawn F l0 h) (fun v12 h13 => ?_)
    refine g_istore (lv' := [(5, .int v12), (0, .ref l0), (2, .int l2), (3, .int l3), (4, .int l4)]) dX12_year_44 (by decide) rfl ?_
    refine g_aload_n 1 dX12_year_46 rfl ?_
    refine g_iload 0 dX12_year_47 rfl ?_
    refine g_i2l dX12_year_49 ?_
    refine g_callVi (J := I_X12_whyNot) (t := 13) (As := [.long (v12.toInt64)]) (rest := []) mjv_X12_whyNot ml_RX12_312 ⟨rfl, by decide, by decide⟩ (by decide) rfl rfl (Nat.le_of_ble_eq_true rfl) dX12_year_50 (T_X12_whyNot F l0 (v12.toInt64) h13) (fun v14 h15 => ?_)
    refine g_if_eq (tgt := 59) dX12_year_53 (by decide) (fun c16 => ?_) (fun c16 => ?_)
    · refine g_aload_n 1 dX12_year_59 rfl ?_
      refine g_iload 0 dX12_year_60 rfl ?_
      refine g_callVv (J := I_X12_acts) (t := 13) (As := [.int v12]) (rest := []) mjv_X12_acts ml_RX12_316 ⟨rfl, by decide, by decide⟩ (by decide) rfl rfl (Nat.le_of_ble_eq_true rfl) dX12_year_62 (T_X12_acts F l0 v12 h15) (fun v17 h18 => ?_)
      refine g_iinc (v' := l3 + 1) (lv' := [(3, .int (l3 + 1)), (5, .int v12), (0, .ref l0), (2, .int l2), (4, .int l4)]) 3 dX12_year_65 rfl rfl (by decide) rfl ?_
      refine G_lv [2, 3, 0, 4] rfl ?_
      exact T_X12_year_68 F hK34 l0 l2 (l3 + 1) l4 h18
    · refine g_goto (tgt := 68) dX12_year_56 (by decide) ?_
      refine G_lv [1, 2, 3, 4] rfl ?_
      exact T_X12_year_68 F hK34 l0 l2 l3 l4 h15
set_option maxRecDepth 100000 in
noncomputable def f_X12_year_34 (F : Nat) : Nat → Nat → Int32 → Int32 → Int32 → Hp → Option (Int32 × Hp)
  | 0, _, _, _, _, _ => none
  | n + 1, l0, l2, l3, l4, h => f_X12_year_34_b F (f_X12_year_34 F n) l0 l2 l3 l4 h
set_option maxRecDepth 100000 in
set_option maxHeartbeats 4000000 in
theorem T_X12_year_34 (F : Nat) : ∀ (n : Nat) (l0 : Nat) (l2 : Int32) (l3 : Int32) (l4 : Int32) (h : Hp), G rvI I_X12_year 7 34 [(0, .ref l0), (2, .int l2), (3, .int l3), (4, .int l4)] [] h (f_X12_year_34 F n l0 l2 l3 l4 h) := by
  intro n
  induction n with
  | zero => intros; exact G_none
  | succ n ih => intro l0 l2 l3 l4 h; exact T_X12_year_34_b F ih l0 l2 l3 l4 h
set_option maxRecDepth 100000 in
noncomputable def f_X12_year (F : Nat) (a0 : Nat) (a1 : Int32) (a2 : Int32) (h : Hp) : Option (Int32 × Hp) :=
  pI 13 h a0 0 0 fun h1 => bd (f_X12_within F (a2.toInt64) 1 40 h1) fun v2 h3 => if v2 = 0 then (some ((-3), h3)) else (cV 13 h3 a0 (f_X12_keeps F a0 h3) fun v5 h6 => pI 13 h6 a0 20 a1 fun h7 => f_X12_year_34 F F a0 a2 0 0 h7)
set_option maxRecDepth 100000 in
set_option maxHeartbeats 4000000 in
theorem T_X12_year (F : Nat) (a0 : Nat) (a1 : Int32) (a2 : Int32) (h : Hp) : GM rvI I_X12_year 7 [.ref a0, .int a1, .int a2] h (f_X12_year F a0 a1 a2 h) := by
  delta f_X12_year
  refine GM_of (lv := [(0, .ref a0), (1, .int a1), (2, .int a2)]) (by decide +kernel) (Nat.le_of_ble_eq_true rfl) rfl ?_
  refine g_aload_n 0 dX12_year_0 rfl ?_
  refine g_iconst (v := 0) dX12_year_1 (by decide) ?_
  refine g_putI fl_RX12_1 (Or.inl rfl) dX12_year_2 (fun h1 => ?_)
  refine g_iload_n 2 dX12_year_5 rfl ?_
  refine g_i2l dX12_year_6 ?_
  refine g_lconst (v := 1) dX12_year_7 (by decide) ?_
  refine g_ldc2 (v := 40) dX12_year_8 cl_RX12_337 ?_
  refine g_callSi (J := I_X12_within) (As := [.long (a2.toInt64), .long 1, .long 40]) (rest := []) mjs_X12_within ml_RX12_138 (by decide) rfl rfl (Nat.le_of_ble_eq_true rfl) dX12_year_11 (T_X12_within F (a2.toInt64) 1 40 h1) (fun v2 h3 => ?_)
  refine g_if_ne (tgt := 20) dX12_year_14 (by decide) (fun c4 => ?_) (fun c4 => ?_)
  · refine g_bipush (v := (-3)) dX12_year_17 (by decide) ?_
    exact g_iret rfl dX12_year_19
  · refine g_aload_n 0 dX12_year_20 rfl ?_
    refine g_callVv (J := I_X12_keeps) (t := 13) (As := []) (rest := []) mjv_X12_keeps ml_RX12_273 ⟨rfl, by decide, by decide⟩ (by decide) rfl rfl (Nat.le_of_ble_eq_true rfl) dX12_year_21 (T_X12_keeps F a0 h3) (fun v5 h6 => ?_)
    refine g_aload_n 0 dX12_year_24 rfl ?_
    refine g_iload_n 1 dX12_year_25 rfl ?_
    refine g_putI fl_RX12_331 (Or.inl rfl) dX12_year_26 (fun h7 => ?_)
    refine g_iconst (v := 0) dX12_year_29 (by decide) ?_
    refine g_istore_n (lv' := [(3, .int 0), (0, .ref a0), (1, .int a1), (2, .int a2)]) dX12_year_30 (by decide) rfl ?_
    refine g_iconst (v := 0) dX12_year_31 (by decide) ?_
    refine g_istore (lv' := [(4, .int 0), (3, .int 0), (0, .ref a0), (1, .int a1), (2, .int a2)]) dX12_year_32 (by decide) rfl ?_
    refine G_lv [2, 4, 1, 0] rfl ?_
    exact T_X12_year_34 F F a0 a2 0 0 h7
