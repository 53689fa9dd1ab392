/-! L2, by program (wip/whole/gen/gen.py) -/
set_option maxRecDepth 100000 in
noncomputable def f_X12_best_94 (F : Nat) (K34 : Nat → Int32 → Int32 → Hp → Option (Int32 × Hp)) (l0 : Nat) (l3 : Int32) (l4 : Int32) (h : Hp) : Option (Int32 × Hp) :=
  K34 l0 l3 (l4 + 1) h
set_option maxRecDepth 100000 in
set_option maxHeartbeats 4000000 in
theorem T_X12_best_94 (F : Nat) {K34 : Nat → Int32 → Int32 → Hp → Option (Int32 × Hp)} (hK34 : ∀ (l0 : Nat) (l3 : Int32) (l4 : Int32) (h : Hp), G rvI I_X12_best 9 34 [(0, .ref l0), (3, .int l3), (4, .int l4)] [] h (K34 l0 l3 l4 h)) (l0 : Nat) (l3 : Int32) (l4 : Int32) (h : Hp) : G rvI I_X12_best 9 94 [(0, .ref l0), (3, .int l3), (4, .int l4)] [] h (f_X12_best_94 F K34 l0 l3 l4 h) := by
  delta f_X12_best_94
  refine g_iinc (v' := l4 + 1) (lv' := [(4, .int (l4 + 1)), (0, .ref l0), (3, .int l3)]) 2 dX12_best_94 rfl rfl (by decide) rfl ?_
  refine g_goto (tgt := 34) dX12_best_97 (by decide) ?_
  refine G_lv [1, 2, 0] rfl ?_
  exact hK34 l0 l3 (l4 + 1) h
set_option maxRecDepth 100000 in
noncomputable def f_X12_best_34_b (F : Nat) (K34 : Nat → Int32 → Int32 → Hp → Option (Int32 × Hp)) (l0 : Nat) (l3 : Int32) (l4 : Int32) (h : Hp) : Option (Int32 × Hp) :=
  if 9 ≤ l4 then (some ((-1), h)) else (if l3 ≤ 0 then (some ((-1), h)) else (if 268435456 ≤ l3 then (some ((-1), h)) else (gR 13 h l0 22 fun v13 => cV 13 h l0 (f_X12_standNow F l0 h) fun v14 h15 => aI 20 h15 v13 ((9 * v14) + l4) fun v16 => if v16 = (-1) then (f_X12_best_94 F K34 l0 l3 l4 h15) else (gR 13 h15 l0 31 fun v18 => aI 20 h15 v18 v16 fun v19 => if v19 = (l3 - 1) then (bd (f_X12_toldMove F l4 h15) fun v21 h22 => some (v21, h22)) else (f_X12_best_94 F K34 l0 l3 l4 h15)))))
set_option maxRecDepth 100000 in
set_option maxHeartbeats 4000000 in
theorem T_X12_best_34_b (F : Nat) {K34 : Nat → Int32 → Int32 → Hp → Option (Int32 × Hp)} (hK34 : ∀ (l0 : Nat) (l3 : Int32) (l4 : Int32) (h : Hp), G rvI I_X12_best 9 34 [(0, .ref l0), (3, .int l3), (4, .int l4)] [] h (K34 l0 l3 l4 h)) (l0 : Nat) (l3 : Int32) (l4 : Int32) (h : Hp) : G rvI I_X12_best 9 34 [(0, .ref l0), (3, .int l3), (4, .int l4)] [] h (f_X12_best_34_b F K34 l0 l3 l4 h) := by
  delta f_X12_best_34_b
  refine g_iload 2 dX12_best_34 rfl ?_
  refine g_bipush (v := 9) dX12_best_36 (by decide) ?_
  refine g_icmp_ge (tgt := 100) dX12_best_38 (by decide) (fun c10 => ?_) (fun c10 => ?_)
  · refine g_iconst (v := (-1)) dX12_best_100 (by decide) ?_
    exact g_iret rfl dX12_best_101
  · refine g_iload_n 1 dX12_best_41 rfl ?_
    refine g_if_le (tgt := 100) dX12_best_42 (by decide) (fun c11 => ?_) (fun c11 => ?_)
    · refine g_iconst (v := (-1)) dX12_best_100 (by decide) ?_
      exact g_iret rfl dX12_best_101
    · refine g_iload_n 1 dX12_best_45 rfl ?_
      refine g_ldcw (v := 268435456) dX12_best_46 co_RX12_357 ?_
      refine g_icmp_ge (tgt := 100) dX12_best_49 (by decide) (fun c12 => ?_) (fun c12 => ?_)
      · refine g_iconst (v := (-1)) dX12_best_100 (by decide) ?_
        exact g_iret rfl dX12_best_101
      · refine g_aload_n 0 dX12_best_52 rfl ?_
        refine g_getR fl_RX12_44 rfl dX12_best_53 (fun v13 => ?_)
        refine g_bipush (v := 9) dX12_best_56 (by decide) ?_
        refine g_aload_n 0 dX12_best_58 rfl ?_
        refine g_callVi (J := I_X12_standNow) (t := 13) (As := []) (rest := [.int 9, .ref v13]) mjv_X12_standNow ml_RX12_260 ⟨rfl, by decide, by decide⟩ (by decide) rfl rfl (Nat.le_of_ble_eq_true rfl) dX12_best_59 (T_X12_standNow F l0 h) (fun v14 h15 => ?_)
        refine g_imul dX12_best_62 ?_
        refine g_iload 2 dX12_best_63 rfl ?_
        refine g_iadd dX12_best_65 ?_
        refine g_iald dX12_best_66 (fun v16 => ?_)
        refine g_istore (lv' := [(5, .int v16), (0, .ref l0), (3, .int l3), (4, .int l4)]) dX12_best_67 (by decide) rfl ?_
        refine g_iload 0 dX12_best_69 rfl ?_
        refine g_iconst (v := (-1)) dX12_best_71 (by decide) ?_
        refine g_icmp_eq (tgt := 94) dX12_best_72 (by decide) (fun c17 => ?_) (fun c17 => ?_)
        · refine G_lv [1, 2, 3] rfl ?_
          exact T_X12_best_94 F hK34 l0 l3 l4 h15
        · refine g_aload_n 1 dX12_best_75 rfl ?_
          refine g_getR fl_RX12_60 rfl dX12_best_76 (fun v18 => ?_)
          refine g_iload 0 dX12_best_79 rfl ?_
          refine g_iald dX12_best_81 (fun v19 => ?_)
          refine g_iload_n 2 dX12_best_82 rfl ?_
          refine g_iconst (v := 1) dX12_best_83 (by decide) ?_
          refine g_isub dX12_best_84 ?_
          refine g_icmp_ne (tgt := 94) dX12_best_85 (by decide) (fun c20 => ?_) (fun c20 => ?_)
          · refine g_iload 3 dX12_best_88 rfl ?_
            refine g_callSi (J := I_X12_toldMove) (As := [.int l4]) (rest := []) mjs_X12_toldMove ml_RX12_369 (by decide) rfl rfl (Nat.le_of_ble_eq_true rfl) dX12_best_90 (T_X12_toldMove F l4 h15) (fun v21 h22 => ?_)
            exact g_iret rfl dX12_best_93
          · refine G_lv [1, 2, 3] rfl ?_
            exact T_X12_best_94 F hK34 l0 l3 l4 h15
set_option maxRecDepth 100000 in
noncomputable def f_X12_best_34 (F : Nat) : Nat → Nat → Int32 → Int32 → Hp → Option (Int32 × Hp)
  | 0, _, _, _, _ => none
  | n + 1, l0, l3, l4, h => f_X12_best_34_b F (f_X12_best_34 F n) l0 l3 l4 h
set_option maxRecDepth 100000 in
set_option maxHeartbeats 4000000 in
theorem T_X12_best_34 (F : Nat) : ∀ (n : Nat) (l0 : Nat) (l3 : Int32) (l4 : Int32) (h : Hp), G rvI I_X12_best 9 34 [(0, .ref l0), (3, .int l3), (4, .int l4)] [] h (f_X12_best_34 F n l0 l3 l4 h) := by
  intro n
  induction n with
  | zero => intros; exact G_none
  | succ n ih => intro l0 l3 l4 h; exact T_X12_best_34_b F ih l0 l3 l4 h
set_option maxRecDepth 100000 in
noncomputable def f_X12_best (F : Nat) (a0 : Nat) (a1 : Int32) (a2 : Int32) (h : Hp) : Option (Int32 × Hp) :=
  pI 13 h a0 0 0 fun h1 => bd (f_X12_isTwin F (a1.toInt64) h1) fun v2 h3 => if v2 = 0 then (some ((-2), h3)) else (cV 13 h3 a0 (f_X12_isDoing F a0 a2 h3) fun v5 h6 => if v5 = 0 then (some ((-2), h6)) else (cV 13 h6 a0 (f_X12_laysForced F a0 a1 a2 h6) fun v8 h9 => f_X12_best_34 F F a0 v8 0 h9))
set_option maxRecDepth 100000 in
set_option maxHeartbeats 4000000 in
theorem T_X12_best (F : Nat) (a0 : Nat) (a1 : Int32) (a2 : Int32) (h : Hp) : GM rvI I_X12_best 9 [.ref a0, .int a1, .int a2] h (f_X12_best F a0 a1 a2 h) := by
  delta f_X12_best
  refine GM_of (lv := [(0, .ref a0), (1, .int a1), (2, .int a2)]) (by decide +kernel) (Nat.le_of_ble_eq_true rfl) rfl ?_
  refine g_aload_n 0 dX12_best_0 rfl ?_
  refine g_iconst (v := 0) dX12_best_1 (by decide) ?_
  refine g_putI fl_RX12_1 (Or.inl rfl) dX12_best_2 (fun h1 => ?_)
  refine g_iload_n 1 dX12_best_5 rfl ?_
  refine g_i2l dX12_best_6 ?_
  refine g_callSi (J := I_X12_isTwin) (As := [.long (a1.toInt64)]) (rest := []) mjs_X12_isTwin ml_RX12_250 (by decide) rfl rfl (Nat.le_of_ble_eq_true rfl) dX12_best_7 (T_X12_isTwin F (a1.toInt64) h1) (fun v2 h3 => ?_)
  refine g_if_eq (tgt := 21) dX12_best_10 (by decide) (fun c4 => ?_) (fun c4 => ?_)
  · refine g_bipush (v := (-2)) dX12_best_21 (by decide) ?_
    exact g_iret rfl dX12_best_23
  · refine g_aload_n 0 dX12_best_13 rfl ?_
    refine g_iload_n 2 dX12_best_14 rfl ?_
    refine g_callVi (J := I_X12_isDoing) (t := 13) (As := [.int a2]) (rest := []) mjv_X12_isDoing ml_RX12_257 ⟨rfl, by decide, by decide⟩ (by decide) rfl rfl (Nat.le_of_ble_eq_true rfl) dX12_best_15 (T_X12_isDoing F a0 a2 h3) (fun v5 h6 => ?_)
    refine g_if_ne (tgt := 24) dX12_best_18 (by decide) (fun c7 => ?_) (fun c7 => ?_)
    · refine g_bipush (v := (-2)) dX12_best_21 (by decide) ?_
      exact g_iret rfl dX12_best_23
    · refine g_aload_n 0 dX12_best_24 rfl ?_
      refine g_iload_n 1 dX12_best_25 rfl ?_
      refine g_iload_n 2 dX12_best_26 rfl ?_
      refine g_callVi (J := I_X12_laysForced) (t := 13) (As := [.int a1, .int a2]) (rest := []) mjv_X12_laysForced ml_RX12_431 ⟨rfl, by decide, by decide⟩ (by decide) rfl rfl (Nat.le_of_ble_eq_true rfl) dX12_best_27 (T_X12_laysForced F a0 a1 a2 h6) (fun v8 h9 => ?_)
      refine g_istore_n (lv' := [(3, .int v8), (0, .ref a0), (1, .int a1), (2, .int a2)]) dX12_best_30 (by decide) rfl ?_
      refine g_iconst (v := 0) dX12_best_31 (by decide) ?_
      refine g_istore (lv' := [(4, .int 0), (3, .int v8), (0, .ref a0), (1, .int a1), (2, .int a2)]) dX12_best_32 (by decide) rfl ?_
      refine G_lv [2, 1, 0] rfl ?_
      exact T_X12_best_34 F F a0 v8 0 h9
set_option maxRecDepth 100000 in
noncomputable def f_X12_notes_57_b (F : Nat) (K57 : Nat → Int32 → Hp → Option (Unit × Hp)) (l0 : Nat) (l1 : Int32) (h : Hp) : Option (Unit × Hp) :=
  if 9 ≤ l1 then (gR 13 h l0 1 fun v9 => aI 20 h v9 52 fun v10 => wI h v9 52 (v10 + 1) fun h11 => some ((), h11)) else (gR 13 h l0 1 fun v12 => gR 13 h l0 1 fun v13 => aI 20 h v13 52 fun v14 => gR 13 h l0 18 fun v15 => aI 20 h v15 l1 fun v16 => wI h v12 ((53 + (9 * v14)) + l1) v16 fun h17 => K57 l0 (l1 + 1) h17)
set_option maxRecDepth 100000 in
set_option maxHeartbeats 4000000 in
theorem T_X12_notes_57_b (F : Nat) {K57 : Nat → Int32 → Hp → Option (Unit × Hp)} (hK57 : ∀ (l0 : Nat) (l1 : Int32) (h : Hp), G rvV I_X12_notes 1 57 [(0, .ref l0), (1, .int l1)] [] h (K57 l0 l1 h)) (l0 : Nat) (l1 : Int32) (h : Hp) : G rvV I_X12_notes 1 57 [(0, .ref l0), (1, .int l1)] [] h (f_X12_notes_57_b F K57 l0 l1 h) := by
  delta f_X12_notes_57_b
  refine g_iload_n 1 dX12_notes_57 rfl ?_
  refine g_bipush (v := 9) dX12_notes_58 (by decide) ?_
  refine g_icmp_ge (tgt := 95) dX12_notes_60 (by decide) (fun c8 => ?_) (fun c8 => ?_)
  · refine g_aload_n 0 dX12_notes_95 rfl ?_
    refine g_getR fl_RX12_13 rfl dX12_notes_96 (fun v9 => ?_)
    refine g_bipush (v := 52) dX12_notes_99 (by decide) ?_
    refine g_dup2 dX12_notes_101 rfl rfl ?_
    refine g_iald dX12_notes_102 (fun v10 => ?_)
    refine g_iconst (v := 1) dX12_notes_103 (by decide) ?_
    refine g_iadd dX12_notes_104 ?_
    refine g_iast dX12_notes_105 (fun h11 => ?_)
    exact g_vret rfl dX12_notes_106
  · refine g_aload_n 0 dX12_notes_63 rfl ?_
    refine g_getR fl_RX12_13 rfl dX12_notes_64 (fun v12 => ?_)
    refine g_bipush (v := 53) dX12_notes_67 (by decide) ?_
    refine g_bipush (v := 9) dX12_notes_69 (by decide) ?_
    refine g_aload_n 0 dX12_notes_71 rfl ?_
    refine g_getR fl_RX12_13 rfl dX12_notes_72 (fun v13 => ?_)
    refine g_bipush (v := 52) dX12_notes_75 (by decide) ?_
    refine g_iald dX12_notes_77 (fun v14 => ?_)
    refine g_imul dX12_notes_78 ?_
    refine g_iadd dX12_notes_79 ?_
    refine g_iload_n 1 dX12_notes_80 rfl ?_
    refine g_iadd dX12_notes_81 ?_
    refine g_aload_n 0 dX12_notes_82 rfl ?_
    refine g_getR fl_RX12_36 rfl dX12_notes_83 (fun v15 => ?_)
    refine g_iload_n 1 dX12_notes_86 rfl ?_
    refine g_iald dX12_notes_87 (fun v16 => ?_)
    refine g_iast dX12_notes_88 (fun h17 => ?_)
    refine g_iinc (v' := l1 + 1) (lv' := [(1, .int (l1 + 1)), (0, .ref l0)]) 1 dX12_notes_89 rfl rfl (by decide) rfl ?_
    refine g_goto (tgt := 57) dX12_notes_92 (by decide) ?_
    refine G_lv [1, 0] rfl ?_
    exact hK57 l0 (l1 + 1) h17
set_option maxRecDepth 100000 in
noncomputable def f_X12_notes_57 (F : Nat) : Nat → Nat → Int32 → Hp → Option (Unit × Hp)
  | 0, _, _, _ => none
  | n + 1, l0, l1, h => f_X12_notes_57_b F (f_X12_notes_57 F n) l0 l1 h
set_option maxRecDepth 100000 in
set_option maxHeartbeats 4000000 in
theorem T_X12_notes_57 (F : Nat) : ∀ (n : Nat) (l0 : Nat) (l1 : Int32) (h : Hp), G rvV I_X12_notes 1 57 [(0, .ref l0), (1, .int l1)] [] h (f_X12_notes_57 F n l0 l1 h) := by
  intro n
  induction n with
  | zero => intros; exact G_none
  | succ n ih => intro l0 l1 h; exact T_X12_notes_57_b F ih l0 l1 h
set_option maxRecDepth 100000 in
noncomputable def f_X12_notes_55 (F : Nat) (l0 : Nat) (h : Hp) : Option (Unit × Hp) :=
  f_X12_notes_57 F F l0 0 h
set_option maxRecDepth 100000 in
set_option maxHeartbeats 4000000 in
theorem T_X12_notes_55 (F : Nat) (l0 : Nat) (h : Hp) : G rvV I_X12_notes 1 55 [(0, .ref l0)] [] h (f_X12_notes_55 F l0 h) := by
  delta f_X12_notes_55
  refine g_iconst (v := 0) dX12_notes_55 (by decide) ?_
  refine g_istore_n (lv' := [(1, .int 0), (0, .ref l0)]) dX12_notes_56 (by decide) rfl ?_
  refine G_lv [1, 0] rfl ?_
  exact T_X12_notes_57 F F l0 0 h
set_option maxRecDepth 100000 in
noncomputable def f_X12_notes_14_b (F : Nat) (K14 : Nat → Int32 → Hp → Option (Unit × Hp)) (l0 : Nat) (l1 : Int32) (h : Hp) : Option (Unit × Hp) :=
  if 81 ≤ l1 then (gR 13 h l0 1 fun v5 => aI 20 h v5 52 fun v6 => wI h v5 52 (v6 - 1) fun h7 => f_X12_notes_55 F l0 h7) else (gR 13 h l0 1 fun v18 => gR 13 h l0 1 fun v19 => aI 20 h v19 (62 + l1) fun v20 => wI h v18 (53 + l1) v20 fun h21 => K14 l0 (l1 + 1) h21)
set_option maxRecDepth 100000 in
set_option maxHeartbeats 4000000 in
theorem T_X12_notes_14_b (F : Nat) {K14 : Nat → Int32 → Hp → Option (Unit × Hp)} (hK14 : ∀ (l0 : Nat) (l1 : Int32) (h : Hp), G rvV I_X12_notes 1 14 [(0, .ref l0), (1, .int l1)] [] h (K14 l0 l1 h)) (l0 : Nat) (l1 : Int32) (h : Hp) : G rvV I_X12_notes 1 14 [(0, .ref l0), (1, .int l1)] [] h (f_X12_notes_14_b F K14 l0 l1 h) := by
  delta f_X12_notes_14_b
  refine g_iload_n 1 dX12_notes_14 rfl ?_
  refine g_bipush (v := 81) dX12_notes_15 (by decide) ?_
  refine g_icmp_ge (tgt := 44) dX12_notes_17 (by decide) (fun c4 => ?_) (fun c4 => ?_)
  · refine g_aload_n 0 dX12_notes_44 rfl ?_
    refine g_getR fl_RX12_13 rfl dX12_notes_45 (fun v5 => ?_)
    refine g_bipush (v := 52) dX12_notes_48 (by decide) ?_
    refine g_dup2 dX12_notes_50 rfl rfl ?_
    refine g_iald dX12_notes_51 (fun v6 => ?_)
    refine g_iconst (v := 1) dX12_notes_52 (by decide) ?_
    refine g_isub dX12_notes_53 ?_
    refine g_iast dX12_notes_54 (fun h7 => ?_)
    refine G_lv [0] rfl ?_
    exact T_X12_notes_55 F l0 h7
  · refine g_aload_n 0 dX12_notes_20 rfl ?_
    refine g_getR fl_RX12_13 rfl dX12_notes_21 (fun v18 => ?_)
    refine g_bipush (v := 53) dX12_notes_24 (by decide) ?_
    refine g_iload_n 1 dX12_notes_26 rfl ?_
    refine g_iadd dX12_notes_27 ?_
    refine g_aload_n 0 dX12_notes_28 rfl ?_
    refine g_getR fl_RX12_13 rfl dX12_notes_29 (fun v19 => ?_)
    refine g_bipush (v := 62) dX12_notes_32 (by decide) ?_
    refine g_iload_n 1 dX12_notes_34 rfl ?_
    refine g_iadd dX12_notes_35 ?_
    refine g_iald dX12_notes_36 (fun v20 => ?_)
    refine g_iast dX12_notes_37 (fun h21 => ?_)
    refine g_iinc (v' := l1 + 1) (lv' := [(1, .int (l1 + 1)), (0, .ref l0)]) 1 dX12_notes_38 rfl rfl (by decide) rfl ?_
    refine g_goto (tgt := 14) dX12_notes_41 (by decide) ?_
    refine G_lv [1, 0] rfl ?_
    exact hK14 l0 (l1 + 1) h21
set_option maxRecDepth 100000 in
noncomputable def f_X12_notes_14 (F : Nat) : Nat → Nat → Int32 → Hp → Option (Unit × Hp)
  | 0, _, _, _ => none
  | n + 1, l0, l1, h => f_X12_notes_14_b F (f_X12_notes_14 F n) l0 l1 h
set_option maxRecDepth 100000 in
set_option maxHeartbeats 4000000 in
theorem T_X12_notes_14 (F : Nat) : ∀ (n : Nat) (l0 : Nat) (l1 : Int32) (h : Hp), G rvV I_X12_notes 1 14 [(0, .ref l0), (1, .int l1)] [] h (f_X12_notes_14 F n l0 l1 h) := by
  intro n
  induction n with
  | zero => intros; exact G_none
  | succ n ih => intro l0 l1 h; exact T_X12_notes_14_b F ih l0 l1 h
set_option maxRecDepth 100000 in
noncomputable def f_X12_notes (F : Nat) (a0 : Nat) (h : Hp) : Option (Unit × Hp) :=
  gR 13 h a0 1 fun v1 => aI 20 h v1 52 fun v2 => if v2 = 10 then (f_X12_notes_14 F F a0 0 h) else (f_X12_notes_55 F a0 h)
set_option maxRecDepth 100000 in
set_option maxHeartbeats 4000000 in
theorem T_X12_notes (F : Nat) (a0 : Nat) (h : Hp) : GM rvV I_X12_notes 1 [.ref a0] h (f_X12_notes F a0 h) := by
  delta f_X12_notes
  refine GM_of (lv := [(0, .ref a0)]) (by decide +kernel) (Nat.le_of_ble_eq_true rfl) rfl ?_
  refine g_aload_n 0 dX12_notes_0 rfl ?_
  refine g_getR fl_RX12_13 rfl dX12_notes_1 (fun v1 => ?_)
  refine g_bipush (v := 52) dX12_notes_4 (by decide) ?_
  refine g_iald dX12_notes_6 (fun v2 => ?_)
  refine g_bipush (v := 10) dX12_notes_7 (by decide) ?_
  refine g_icmp_ne (tgt := 55) dX12_notes_9 (by decide) (fun c3 => ?_) (fun c3 => ?_)
  · refine g_iconst (v := 0) dX12_notes_12 (by decide) ?_
    refine g_istore_n (lv' := [(1, .int 0), (0, .ref a0)]) dX12_notes_13 (by decide) rfl ?_
    refine G_lv [1, 0] rfl ?_
    exact T_X12_notes_14 F F a0 0 h
  · refine G_lv [0] rfl ?_
    exact T_X12_notes_55 F a0 h
set_option maxRecDepth 100000 in
noncomputable def f_X12_bond (F : Nat) (a0 : Nat) (a1 : Int32) (h : Hp) : Option (Int32 × Hp) :=
  pI 13 h a0 0 0 fun h1 => bd (f_X12_within F (a1.toInt64) 0 9 h1) fun v2 h3 => if v2 = 0 then (some ((-11), h3)) else (cV 13 h3 a0 (f_X12_keeps F a0 h3) fun v5 h6 => gR 13 h6 a0 1 fun v7 => wI h6 v7 51 a1 fun h8 => cV 13 h8 a0 (f_X12_notes F a0 h8) fun v9 h10 => gR 13 h10 a0 18 fun v11 => aI 20 h10 v11 8 fun v12 => some (v12, h10))
set_option maxRecDepth 100000 in
set_option maxHeartbeats 4000000 in
theorem T_X12_bond (F : Nat) (a0 : Nat) (a1 : Int32) (h : Hp) : GM rvI I_X12_bond 2 [.ref a0, .int a1] h (f_X12_bond F a0 a1 h) := by
  delta f_X12_bond
  refine GM_of (lv := [(0, .ref a0), (1, .int a1)]) (by decide +kernel) (Nat.le_of_ble_eq_true rfl) rfl ?_
  refine g_aload_n 0 dX12_bond_0 rfl ?_
  refine g_iconst (v := 0) dX12_bond_1 (by decide) ?_
  refine g_putI fl_RX12_1 (Or.inl rfl) dX12_bond_2 (fun h1 => ?_)
  refine g_iload_n 1 dX12_bond_5 rfl ?_
  refine g_i2l dX12_bond_6 ?_
  refine g_lconst (v := 0) dX12_bond_7 (by decide) ?_
  refine g_ldc2 (v := 9) dX12_bond_8 cl_RX12_293 ?_
  refine g_callSi (J := I_X12_within) (As := [.long (a1.toInt64), .long 0, .long 9]) (rest := []) mjs_X12_within ml_RX12_138 (by decide) rfl rfl (Nat.le_of_ble_eq_true rfl) dX12_bond_11 (T_X12_within F (a1.toInt64) 0 9 h1) (fun v2 h3 => ?_)
  refine g_if_ne (tgt := 20) dX12_bond_14 (by decide) (fun c4 => ?_) (fun c4 => ?_)
  · refine g_bipush (v := (-11)) dX12_bond_17 (by decide) ?_
    exact g_iret rfl dX12_bond_19
  · refine g_aload_n 0 dX12_bond_20 rfl ?_
    refine g_callVv (J := I_X12_keeps) (t := 13) (As := []) (rest := []) mjv_X12_keeps ml_RX12_273 ⟨rfl, by decide, by decide⟩ (by decide) rfl rfl (Nat.le_of_ble_eq_true rfl) dX12_bond_21 (T_X12_keeps F a0 h3) (fun v5 h6 => ?_)
    refine g_aload_n 0 dX12_bond_24 rfl ?_
    refine g_getR fl_RX12_13 rfl dX12_bond_25 (fun v7 => ?_)
    refine g_bipush (v := 51) dX12_bond_28 (by decide) ?_
    refine g_iload_n 1 dX12_bond_30 rfl ?_
    refine g_iast dX12_bond_31 (fun h8 => ?_)
    refine g_aload_n 0 dX12_bond_32 rfl ?_
    refine g_callVv (J := I_X12_notes) (t := 13) (As := []) (rest := []) mjv_X12_notes ml_RX12_279 ⟨rfl, by decide, by decide⟩ (by decide) rfl rfl (Nat.le_of_ble_eq_true rfl) dX12_bond_33 (T_X12_notes F a0 h8) (fun v9 h10 => ?_)
    refine g_aload_n 0 dX12_bond_36 rfl ?_
    refine g_getR fl_RX12_36 rfl dX12_bond_37 (fun v11 => ?_)
    refine g_bipush (v := 8) dX12_bond_40 (by decide) ?_
    refine g_iald dX12_bond_42 (fun v12 => ?_)
    exact g_iret rfl dX12_bond_43
set_option maxRecDepth 100000 in
noncomputable def f_X12_bonds (F : Nat) (a0 : Nat) (a1 : Int32) (a2 : Int32) (a3 : Int32) (h : Hp) : Option (Int32 × Hp) :=
  pI 13 h a0 0 0 fun h1 => cV 13 h1 a0 (f_X12_noBonds F a0 a1 a2 a3 h1) fun v2 h3 => if v2 = 0 then (cV 13 h3 a0 (f_X12_bondsOf F a0 a1 a2 a3 h3) fun v5 h6 => some (v5, h6)) else (some (v2, h3))
set_option maxRecDepth 100000 in
set_option maxHeartbeats 4000000 in
theorem T_X12_bonds (F : Nat) (a0 : Nat) (a1 : Int32) (a2 : Int32) (a3 : Int32) (h : Hp) : GM rvI I_X12_bonds 9 [.ref a0, .int a1, .int a2, .int a3] h (f_X12_bonds F a0 a1 a2 a3 h) := by
  delta f_X12_bonds
  refine GM_of (lv := [(0, .ref a0), (1, .int a1), (2, .int a2), (3, .int a3)]) (by decide +kernel) (Nat.le_of_ble_eq_true rfl) rfl ?_
  refine g_aload_n 0 dX12_bonds_0 rfl ?_
  refine g_iconst (v := 0) dX12_bonds_1 (by decide) ?_
  refine g_putI fl_RX12_1 (Or.inl rfl) dX12_bonds_2 (fun h1 => ?_)
  refine g_aload_n 0 dX12_bonds_5 rfl ?_
  refine g_iload_n 1 dX12_bonds_6 rfl ?_
  refine g_iload_n 2 dX12_bonds_7 rfl ?_
  refine g_iload_n 3 dX12_bonds_8 rfl ?_
  refine g_callVi (J := I_X12_noBonds) (t := 13) (As := [.int a1, .int a2, .int a3]) (rest := []) mjv_X12_noBonds ml_RX12_416 ⟨rfl, by decide, by decide⟩ (by decide) rfl rfl (Nat.le_of_ble_eq_true rfl) dX12_bonds_9 (T_X12_noBonds F a0 a1 a2 a3 h1) (fun v2 h3 => ?_)
  refine g_istore (lv' := [(4, .int v2), (0, .ref a0), (1, .int a1), (2, .int a2), (3, .int a3)]) dX12_bonds_12 (by decide) rfl ?_
  refine g_iload 0 dX12_bonds_14 rfl ?_
  refine g_if_eq (tgt := 24) dX12_bonds_16 (by decide) (fun c4 => ?_) (fun c4 => ?_)
  · refine g_aload_n 1 dX12_bonds_24 rfl ?_
    refine g_iload_n 2 dX12_bonds_25 rfl ?_
    refine g_iload_n 3 dX12_bonds_26 rfl ?_
    refine g_iload_n 4 dX12_bonds_27 rfl ?_
    refine g_callVi (J := I_X12_bondsOf) (t := 13) (As := [.int a1, .int a2, .int a3]) (rest := []) mjv_X12_bondsOf ml_RX12_419 ⟨rfl, by decide, by decide⟩ (by decide) rfl rfl (Nat.le_of_ble_eq_true rfl) dX12_bonds_28 (T_X12_bondsOf F a0 a1 a2 a3 h3) (fun v5 h6 => ?_)
    exact g_iret rfl dX12_bonds_31
  · refine g_iload 0 dX12_bonds_19 rfl ?_
    refine g_goto (tgt := 31) dX12_bonds_21 (by decide) ?_
    exact g_iret rfl dX12_bonds_31
set_option maxRecDepth 100000 in
noncomputable def f_X12_brings (F : Nat) (a0 : Nat) (a1 : Int32) (a2 : Int32) (a3 : Int32) (h : Hp) : Option (Int32 × Hp) :=
  pI 13 h a0 0 0 fun h1 => bd (f_X12_isTwin F (a1.toInt64) h1) fun v2 h3 => if v2 = 0 then (some ((-2), h3)) else (cV 13 h3 a0 (f_X12_isFact F a0 (a2.toInt64) h3) fun v5 h6 => if v5 = 0 then (some ((-2), h6)) else (bd (f_X12_isTwin F (a3.toInt64) h6) fun v8 h9 => if v8 = 0 then (some ((-2), h9)) else (cV 13 h9 a0 (f_X12_standNow F a0 h9) fun v11 h12 => cV 13 h12 a0 (f_X12_mayTell F a0 v11 a1 a2 h12) fun v13 h14 => if v13 = 0 then (some ((-5), h14)) else (cV 13 h14 a0 (f_X12_standNow F a0 h14) fun v16 h17 => cV 13 h17 a0 (f_X12_toldTo F a0 v16 a1 a2 h17) fun v18 h19 => bd (f_X12_ageIn F v18 a3 a2 h19) fun v20 h21 => some (v20, h21)))))
set_option maxRecDepth 100000 in
set_option maxHeartbeats 4000000 in
theorem T_X12_brings (F : Nat) (a0 : Nat) (a1 : Int32) (a2 : Int32) (a3 : Int32) (h : Hp) : GM rvI I_X12_brings 6 [.ref a0, .int a1, .int a2, .int a3] h (f_X12_brings F a0 a1 a2 a3 h) := by
  delta f_X12_brings
  refine GM_of (lv := [(0, .ref a0), (1, .int a1), (2, .int a2), (3, .int a3)]) (by decide +kernel) (Nat.le_of_ble_eq_true rfl) rfl ?_
  refine g_aload_n 0 dX12_brings_0 rfl ?_
  refine g_iconst (v := 0) dX12_brings_1 (by decide) ?_
  refine g_putI fl_RX12_1 (Or.inl rfl) dX12_brings_2 (fun h1 => ?_)
  refine g_iload_n 1 dX12_brings_5 rfl ?_
  refine g_i2l dX12_brings_6 ?_
  refine g_callSi (J := I_X12_isTwin) (As := [.long (a1.toInt64)]) (rest := []) mjs_X12_isTwin ml_RX12_250 (by decide) rfl rfl (Nat.le_of_ble_eq_true rfl) dX12_brings_7 (T_X12_isTwin F (a1.toInt64) h1) (fun v2 h3 => ?_)
  refine g_if_eq (tgt := 30) dX12_brings_10 (by decide) (fun c4 => ?_) (fun c4 => ?_)
  · refine g_bipush (v := (-2)) dX12_brings_30 (by decide) ?_
    exact g_iret rfl dX12_brings_32
  · refine g_aload_n 0 dX12_brings_13 rfl ?_
    refine g_iload_n 2 dX12_brings_14 rfl ?_
    refine g_i2l dX12_brings_15 ?_
    refine g_callVi (J := I_X12_isFact) (t := 13) (As := [.long (a2.toInt64)]) (rest := []) mjv_X12_isFact ml_RX12_254 ⟨rfl, by decide, by decide⟩ (by decide) rfl rfl (Nat.le_of_ble_eq_true rfl) dX12_brings_16 (T_X12_isFact F a0 (a2.toInt64) h3) (fun v5 h6 => ?_)
    refine g_if_eq (tgt := 30) dX12_brings_19 (by decide) (fun c7 => ?_) (fun c7 => ?_)
    · refine g_bipush (v := (-2)) dX12_brings_30 (by decide) ?_
      exact g_iret rfl dX12_brings_32
    · refine g_iload_n 3 dX12_brings_22 rfl ?_
      refine g_i2l dX12_brings_23 ?_
      refine g_callSi (J := I_X12_isTwin) (As := [.long (a3.toInt64)]) (rest := []) mjs_X12_isTwin ml_RX12_250 (by decide) rfl rfl (Nat.le_of_ble_eq_true rfl) dX12_brings_24 (T_X12_isTwin F (a3.toInt64) h6) (fun v8 h9 => ?_)
      refine g_if_ne (tgt := 33) dX12_brings_27 (by decide) (fun c10 => ?_) (fun c10 => ?_)
      · refine g_bipush (v := (-2)) dX12_brings_30 (by decide) ?_
        exact g_iret rfl dX12_brings_32
      · refine g_aload_n 0 dX12_brings_33 rfl ?_
        refine g_aload_n 0 dX12_brings_34 rfl ?_
        refine g_callVi (J := I_X12_standNow) (t := 13) (As := []) (rest := [.ref a0]) mjv_X12_standNow ml_RX12_260 ⟨rfl, by decide, by decide⟩ (by decide) rfl rfl (Nat.le_of_ble_eq_true rfl) dX12_brings_35 (T_X12_standNow F a0 h9) (fun v11 h12 => ?_)
        refine g_iload_n 1 dX12_brings_38 rfl ?_
        refine g_iload_n 2 dX12_brings_39 rfl ?_
        refine g_callVi (J := I_X12_mayTell) (t := 13) (As := [.int v11, .int a1, .int a2]) (rest := []) mjv_X12_mayTell ml_RX12_263 ⟨rfl, by decide, by decide⟩ (by decide) rfl rfl (Nat.le_of_ble_eq_true rfl) dX12_brings_40 (T_X12_mayTell F a0 v11 a1 a2 h12) (fun v13 h14 => ?_)
        refine g_if_eq (tgt := 64) dX12_brings_43 (by decide) (fun c15 => ?_) (fun c15 => ?_)
        · refine g_bipush (v := (-5)) dX12_brings_64 (by decide) ?_
          exact g_iret rfl dX12_brings_66
        · refine g_aload_n 0 dX12_brings_46 rfl ?_
          refine g_aload_n 0 dX12_brings_47 rfl ?_
          refine g_callVi (J := I_X12_standNow) (t := 13) (As := []) (rest := [.ref a0]) mjv_X12_standNow ml_RX12_260 ⟨rfl, by decide, by decide⟩ (by decide) rfl rfl (Nat.le_of_ble_eq_true rfl) dX12_brings_48 (T_X12_standNow F a0 h14) (fun v16 h17 => ?_)
          refine g_iload_n 1 dX12_brings_51 rfl ?_
          refine g_iload_n 2 dX12_brings_52 rfl ?_
          refine g_callVi (J := I_X12_toldTo) (t := 13) (As := [.int v16, .int a1, .int a2]) (rest := []) mjv_X12_toldTo ml_RX12_266 ⟨rfl, by decide, by decide⟩ (by decide) rfl rfl (Nat.le_of_ble_eq_true rfl) dX12_brings_53 (T_X12_toldTo F a0 v16 a1 a2 h17) (fun v18 h19 => ?_)
          refine g_iload_n 3 dX12_brings_56 rfl ?_
          refine g_iload_n 2 dX12_brings_57 rfl ?_
          refine g_callSi (J := I_X12_ageIn) (As := [.int v18, .int a3, .int a2]) (rest := []) mjs_X12_ageIn ml_RX12_214 (by decide) rfl rfl (Nat.le_of_ble_eq_true rfl) dX12_brings_58 (T_X12_ageIn F v18 a3 a2 h19) (fun v20 h21 => ?_)
          refine g_goto (tgt := 66) dX12_brings_61 (by decide) ?_
          exact g_iret rfl dX12_brings_66
set_option maxRecDepth 100000 in
noncomputable def f_X12_can_53 (F : Nat) (K27 : Nat → Int32 → Int32 → Int32 → Hp → Option (Int32 × Hp)) (l0 : Nat) (l1 : Int32) (l3 : Int32) (s0 : Int32) (s1 : Int32) (h : Hp) : Option (Int32 × Hp) :=
  lt (s1 ||| s0) fun x11 => K27 l0 l1 x11 (l3 + 1) h
set_option maxRecDepth 100000 in
set_option maxHeartbeats 4000000 in
theorem T_X12_can_53 (F : Nat) {K27 : Nat → Int32 → Int32 → Int32 → Hp → Option (Int32 × Hp)} (hK27 : ∀ (l0 : Nat) (l1 : Int32) (l2 : Int32) (l3 : Int32) (h : Hp), G rvI I_X12_can 8 27 [(0, .ref l0), (1, .int l1), (2, .int l2), (3, .int l3)] [] h (K27 l0 l1 l2 l3 h)) (l0 : Nat) (l1 : Int32) (l3 : Int32) (s0 : Int32) (s1 : Int32) (h : Hp) : G rvI I_X12_can 8 53 [(0, .ref l0), (1, .int l1), (3, .int l3)] [.int s0, .int s1] h (f_X12_can_53 F K27 l0 l1 l3 s0 s1 h) := by
  delta f_X12_can_53
  refine g_ior dX12_can_53 ?_
  refine G_lti (fun x11 => ?_)
  refine g_istore_n (lv' := [(2, .int x11), (0, .ref l0), (1, .int l1), (3, .int l3)]) dX12_can_54 (by decide) rfl ?_
  refine g_iinc (v' := l3 + 1) (lv' := [(3, .int (l3 + 1)), (2, .int x11), (0, .ref l0), (1, .int l1)]) 3 dX12_can_55 rfl rfl (by decide) rfl ?_
  refine g_goto (tgt := 27) dX12_can_58 (by decide) ?_
  refine G_lv [2, 3, 1, 0] rfl ?_
  exact hK27 l0 l1 x11 (l3 + 1) h
set_option maxRecDepth 100000 in
noncomputable def f_X12_can_27_b (F : Nat) (K27 : Nat → Int32 → Int32 → Int32 → Hp → Option (Int32 × Hp)) (l0 : Nat) (l1 : Int32) (l2 : Int32) (l3 : Int32) (h : Hp) : Option (Int32 × Hp) :=
  if 65536 ≤ l3 then (some (l2, h)) else (gR 13 h l0 21 fun v8 => aI 22 h v8 l3 fun v9 => if v9 = 0 then (f_X12_can_53 F K27 l0 l1 l3 0 l2 h) else (cV 13 h l0 (f_X12_doesAll F l0 l3 l1 h) fun v12 h13 => f_X12_can_53 F K27 l0 l1 l3 v12 l2 h13))
set_option maxRecDepth 100000 in
set_option maxHeartbeats 4000000 in
theorem T_X12_can_27_b (F : Nat) {K27 : Nat → Int32 → Int32 → Int32 → Hp → Option (Int32 × Hp)} (hK27 : ∀ (l0 : Nat) (l1 : Int32) (l2 : Int32) (l3 : Int32) (h : Hp), G rvI I_X12_can 8 27 [(0, .ref l0), (1, .int l1), (2, .int l2), (3, .int l3)] [] h (K27 l0 l1 l2 l3 h)) (l0 : Nat) (l1 : Int32) (l2 : Int32) (l3 : Int32) (h : Hp) : G rvI I_X12_can 8 27 [(0, .ref l0), (1, .int l1), (2, .int l2), (3, .int l3)] [] h (f_X12_can_27_b F K27 l0 l1 l2 l3 h) := by
  delta f_X12_can_27_b
  refine g_iload_n 3 dX12_can_27 rfl ?_
  refine g_ldc (v := 65536) dX12_can_28 co_RX12_39 ?_
  refine g_icmp_ge (tgt := 61) dX12_can_30 (by decide) (fun c7 => ?_) (fun c7 => ?_)
  · refine g_iload_n 2 dX12_can_61 rfl ?_
    exact g_iret rfl dX12_can_62
  · refine g_iload_n 2 dX12_can_33 rfl ?_
    refine g_aload_n 0 dX12_can_34 rfl ?_
    refine g_getR fl_RX12_40 rfl dX12_can_35 (fun v8 => ?_)
    refine g_iload_n 3 dX12_can_38 rfl ?_
    refine g_zald dX12_can_39 (fun v9 => ?_)
    refine g_if_eq (tgt := 52) dX12_can_40 (by decide) (fun c10 => ?_) (fun c10 => ?_)
    · refine g_iconst (v := 0) dX12_can_52 (by decide) ?_
      refine G_lv [0, 1, 3] rfl ?_
      exact T_X12_can_53 F hK27 l0 l1 l3 0 l2 h
    · refine g_aload_n 0 dX12_can_43 rfl ?_
      refine g_iload_n 3 dX12_can_44 rfl ?_
      refine g_iload_n 1 dX12_can_45 rfl ?_
      refine g_callVi (J := I_X12_doesAll) (t := 13) (As := [.int l3, .int l1]) (rest := [.int l2]) mjv_X12_doesAll ml_RX12_244 ⟨rfl, by decide, by decide⟩ (by decide) rfl rfl (Nat.le_of_ble_eq_true rfl) dX12_can_46 (T_X12_doesAll F l0 l3 l1 h) (fun v12 h13 => ?_)
      refine g_goto (tgt := 53) dX12_can_49 (by decide) ?_
      refine G_lv [0, 1, 3] rfl ?_
      exact T_X12_can_53 F hK27 l0 l1 l3 v12 l2 h13
set_option maxRecDepth 100000 in
noncomputable def f_X12_can_27 (F : Nat) : Nat → Nat → Int32 → Int32 → Int32 → Hp → Option (Int32 × Hp)
  | 0, _, _, _, _, _ => none
  | n + 1, l0, l1, l2, l3, h => f_X12_can_27_b F (f_X12_can_27 F n) l0 l1 l2 l3 h
set_option maxRecDepth 100000 in
set_option maxHeartbeats 4000000 in
theorem T_X12_can_27 (F : Nat) : ∀ (n : Nat) (l0 : Nat) (l1 : Int32) (l2 : Int32) (l3 : Int32) (h : Hp), G rvI I_X12_can 8 27 [(0, .ref l0), (1, .int l1), (2, .int l2), (3, .int l3)] [] h (f_X12_can_27 F n l0 l1 l2 l3 h) := by
  intro n
  induction n with
  | zero => intros; exact G_none
  | succ n ih => intro l0 l1 l2 l3 h; exact T_X12_can_27_b F ih l0 l1 l2 l3 h
set_option maxRecDepth 100000 in
noncomputable def f_X12_can (F : Nat) (a0 : Nat) (a1 : Int32) (h : Hp) : Option (Int32 × Hp) :=
  pI 13 h a0 0 0 fun h1 => bd (f_X12_isTwin F (a1.toInt64) h1) fun v2 h3 => if v2 = 0 then (some ((-2), h3)) else (cV 13 h3 a0 (f_X12_laysReached F a0 511 h3) fun v5 h6 => f_X12_can_27 F F a0 a1 0 0 h6)
set_option maxRecDepth 100000 in
set_option maxHeartbeats 4000000 in
theorem T_X12_can (F : Nat) (a0 : Nat) (a1 : Int32) (h : Hp) : GM rvI I_X12_can 8 [.ref a0, .int a1] h (f_X12_can F a0 a1 h) := by
  delta f_X12_can
  refine GM_of (lv := [(0, .ref a0), (1, .int a1)]) (by decide +kernel) (Nat.le_of_ble_eq_true rfl) rfl ?_
  refine g_aload_n 0 dX12_can_0 rfl ?_
  refine g_iconst (v := 0) dX12_can_1 (by decide) ?_
  refine g_putI fl_RX12_1 (Or.inl rfl) dX12_can_2 (fun h1 => ?_)
  refine g_iload_n 1 dX12_can_5 rfl ?_
  refine g_i2l dX12_can_6 ?_
  refine g_callSi (J := I_X12_isTwin) (As := [.long (a1.toInt64)]) (rest := []) mjs_X12_isTwin ml_RX12_250 (by decide) rfl rfl (Nat.le_of_ble_eq_true rfl) dX12_can_7 (T_X12_isTwin F (a1.toInt64) h1) (fun v2 h3 => ?_)
  refine g_if_ne (tgt := 16) dX12_can_10 (by decide) (fun c4 => ?_) (fun c4 => ?_)
  · refine g_bipush (v := (-2)) dX12_can_13 (by decide) ?_
    exact g_iret rfl dX12_can_15
  · refine g_aload_n 0 dX12_can_16 rfl ?_
    refine g_sipush (v := 511) dX12_can_17 (by decide) ?_
    refine g_callVv (J := I_X12_laysReached) (t := 13) (As := [.int 511]) (rest := []) mjv_X12_laysReached ml_RX12_358 ⟨rfl, by decide, by decide⟩ (by decide) rfl rfl (Nat.le_of_ble_eq_true rfl) dX12_can_20 (T_X12_laysReached F a0 511 h3) (fun v5 h6 => ?_)
    refine g_iconst (v := 0) dX12_can_23 (by decide) ?_
    refine g_istore_n (lv' := [(2, .int 0), (0, .ref a0), (1, .int a1)]) dX12_can_24 (by decide) rfl ?_
    refine g_iconst (v := 0) dX12_can_25 (by decide) ?_
    refine g_istore_n (lv' := [(3, .int 0), (2, .int 0), (0, .ref a0), (1, .int a1)]) dX12_can_26 (by decide) rfl ?_
    refine G_lv [2, 3, 1, 0] rfl ?_
    exact T_X12_can_27 F F a0 a1 0 0 h6
set_option maxRecDepth 100000 in
noncomputable def f_X12_common_w (F : Nat) (Rc : Nat → Int32 → Int32 → Hp → Option (Int32 × Hp)) (a0 : Int32) (a1 : Int32) (h : Hp) : Option (Int32 × Hp) :=
  if a1 = 0 then (some (a0, h)) else (gd (¬ a1 = 0) <| bd (Rc 0 a1 (a0 - a0 / a1 * a1) h) fun v3 h4 => some (v3, h4))
set_option maxRecDepth 100000 in
set_option maxHeartbeats 4000000 in
theorem T_X12_common_w (F : Nat) {d dR : Nat} (hd1 : 1 ≤ d) (hdR : dR + 1 ≤ d) {Rc : Nat → Int32 → Int32 → Hp → Option (Int32 × Hp)} (hR : ∀ (w : Nat) (a0 : Int32) (a1 : Int32) (h : Hp), GM rvI (I_grp_X12_common w) dR [.int a0, .int a1] h (Rc w a0 a1 h)) (a0 : Int32) (a1 : Int32) (h : Hp) : GM rvI I_X12_common d [.int a0, .int a1] h (f_X12_common_w F Rc a0 a1 h) := by
  delta f_X12_common_w
  refine GM_of (lv := [(0, .int a0), (1, .int a1)]) (by decide +kernel) (Nat.le_of_ble_eq_true rfl) rfl ?_
  refine g_iload_n 1 dX12_common_0 rfl ?_
  refine g_if_ne (tgt := 8) dX12_common_1 (by decide) (fun c1 => ?_) (fun c1 => ?_)
  · refine g_iload_n 0 dX12_common_4 rfl ?_
    refine g_goto (tgt := 15) dX12_common_5 (by decide) ?_
    exact g_iret rfl dX12_common_15
  · refine g_iload_n 1 dX12_common_8 rfl ?_
    refine g_iload_n 0 dX12_common_9 rfl ?_
    refine g_iload_n 1 dX12_common_10 rfl ?_
    refine G_gd (fun z2 => ?_)
    refine g_irem z2 dX12_common_11 ?_
    refine g_callSi (J := I_X12_common) (As := [.int a1, .int (a0 - a0 / a1 * a1)]) (rest := []) mjs_X12_common ml_RX12_437 hdR rfl rfl (Nat.le_of_ble_eq_true rfl) dX12_common_12 (hR 0 a1 (a0 - a0 / a1 * a1) h) (fun v3 h4 => ?_)
    exact g_iret rfl dX12_common_15
set_option maxRecDepth 100000 in
noncomputable def f_grp_X12_common (F : Nat) : Nat → Nat → Int32 → Int32 → Hp → Option (Int32 × Hp)
  | 0, _, _, _, _ => none
  | D + 1, w, a0, a1, h => f_X12_common_w F (f_grp_X12_common F D) a0 a1 h
set_option maxRecDepth 100000 in
set_option maxHeartbeats 4000000 in
theorem T_grp_X12_common (F : Nat) : ∀ (D w : Nat) (a0 : Int32) (a1 : Int32) (h : Hp), GM rvI (I_grp_X12_common w) (1 + D) [.int a0, .int a1] h (f_grp_X12_common F D w a0 a1 h) := by
  intro D
  induction D with
  | zero => intros; exact fun x hx => by cases hx
  | succ D ih =>
    intro w a0 a1 h
    show GM _ (I_grp_X12_common w) _ _ _ (f_X12_common_w F (f_grp_X12_common F D) a0 a1 h)
    unfold I_grp_X12_common
    exact T_X12_common_w F (by omega) (by omega) ih a0 a1 h
set_option maxRecDepth 100000 in
noncomputable def f_X12_common (F : Nat) (a0 : Int32) (a1 : Int32) (h : Hp) : Option (Int32 × Hp) := f_grp_X12_common F 64 0 a0 a1 h
set_option maxRecDepth 100000 in
set_option maxHeartbeats 4000000 in
theorem T_X12_common (F : Nat) (a0 : Int32) (a1 : Int32) (h : Hp) : GM rvI I_X12_common 65 [.int a0, .int a1] h (f_X12_common F a0 a1 h) := T_grp_X12_common F 64 0 a0 a1 h
set_option maxRecDepth 100000 in
noncomputable def f_X12_likelyFrom_99 (F : Nat) (Rc : Nat → Nat → Int32 → Int32 → Int32 → Int32 → Hp → Option (Int32 × Hp)) (K51 : Nat → Int32 → Int32 → Int32 → Int32 → Int32 → Int32 → Hp → Option (Int32 × Hp)) (K60 : Nat → Int32 → Int32 → Int32 → Int32 → Int32 → Int32 → Int32 → Hp → Option (Int32 × Hp)) (l0 : Nat) (l1 : Int32) (l2 : Int32) (l3 : Int32) (l4 : Int32) (l6 : Int32) (l7 : Int32) (s0 : Int32) (s1 : Nat) (s2 : Int32) (h : Hp) : Option (Int32 × Hp) :=
  bd (f_X12_dayTo F s0 h) fun v19 h20 => cV 13 h20 s1 (Rc 0 s1 v19 l2 l3 (l4 - 1) h20) fun v21 h22 => lt (s2 + v21) fun x23 => K60 l0 l1 l2 l3 l4 x23 l6 (l7 + 1) h22
set_option maxRecDepth 100000 in
set_option maxHeartbeats 4000000 in
theorem T_X12_likelyFrom_99 (F : Nat) {d dR : Nat} (hd1 : 6 ≤ d) (hdR : dR + 1 ≤ d) {Rc : Nat → Nat → Int32 → Int32 → Int32 → Int32 → Hp → Option (Int32 × Hp)} (hR : ∀ (w : Nat) (a0 : Nat) (a1 : Int32) (a2 : Int32) (a3 : Int32) (a4 : Int32) (h : Hp), GM rvI (I_grp_X12_likelyFrom w) dR [.ref a0, .int a1, .int a2, .int a3, .int a4] h (Rc w a0 a1 a2 a3 a4 h)) {K51 : Nat → Int32 → Int32 → Int32 → Int32 → Int32 → Int32 → Hp → Option (Int32 × Hp)} (hK51 : ∀ (l0 : Nat) (l1 : Int32) (l2 : Int32) (l3 : Int32) (l4 : Int32) (l5 : Int32) (l6 : Int32) (h : Hp), G rvI I_X12_likelyFrom d 51 [(0, .ref l0), (1, .int l1), (2, .int l2), (3, .int l3), (4, .int l4), (5, .int l5), (6, .int l6)] [] h (K51 l0 l1 l2 l3 l4 l5 l6 h)) {K60 : Nat → Int32 → Int32 → Int32 → Int32 → Int32 → Int32 → Int32 → Hp → Option (Int32 × Hp)} (hK60 : ∀ (l0 : Nat) (l1 : Int32) (l2 : Int32) (l3 : Int32) (l4 : Int32) (l5 : Int32) (l6 : Int32) (l7 : Int32) (h : Hp), G rvI I_X12_likelyFrom d 60 [(0, .ref l0), (1, .int l1), (2, .int l2), (3, .int l3), (4, .int l4), (5, .int l5), (6, .int l6), (7, .int l7)] [] h (K60 l0 l1 l2 l3 l4 l5 l6 l7 h)) (l0 : Nat) (l1 : Int32) (l2 : Int32) (l3 : Int32) (l4 : Int32) (l6 : Int32) (l7 : Int32) (s0 : Int32) (s1 : Nat) (s2 : Int32) (h : Hp) : G rvI I_X12_likelyFrom d 99 [(0, .ref l0), (1, .int l1), (2, .int l2), (3, .int l3), (4, .int l4), (6, .int l6), (7, .int l7)] [.int s0, .ref s1, .int s2] h (f_X12_likelyFrom_99 F Rc K51 K60 l0 l1 l2 l3 l4 l6 l7 s0 s1 s2 h) := by
  delta f_X12_likelyFrom_99
  refine g_callSi (J := I_X12_dayTo) (As := [.int s0]) (rest := [.ref s1, .int s2]) mjs_X12_dayTo ml_RX12_284 (Nat.le_trans (by decide) hd1) rfl rfl (Nat.le_of_ble_eq_true rfl) dX12_likelyFrom_99 (T_X12_dayTo F s0 h) (fun v19 h20 => ?_)
  refine g_iload_n 2 dX12_likelyFrom_102 rfl ?_
  refine g_iload_n 3 dX12_likelyFrom_103 rfl ?_
  refine g_iload 4 dX12_likelyFrom_104 rfl ?_
  refine g_iconst (v := 1) dX12_likelyFrom_106 (by decide) ?_
  refine g_isub dX12_likelyFrom_107 ?_
  refine g_callVi (J := I_X12_likelyFrom) (t := 13) (As := [.int v19, .int l2, .int l3, .int (l4 - 1)]) (rest := [.int s2]) mjv_X12_likelyFrom ml_RX12_434 ⟨rfl, by decide, by decide⟩ hdR rfl rfl (Nat.le_of_ble_eq_true rfl) dX12_likelyFrom_108 (hR 0 s1 v19 l2 l3 (l4 - 1) h20) (fun v21 h22 => ?_)
  refine g_iadd dX12_likelyFrom_111 ?_
  refine G_lti (fun x23 => ?_)
  refine g_istore (lv' := [(5, .int x23), (0, .ref l0), (1, .int l1), (2, .int l2), (3, .int l3), (4, .int l4), (6, .int l6), (7, .int l7)]) dX12_likelyFrom_112 (by decide) rfl ?_
  refine g_iinc (v' := l7 + 1) (lv' := [(7, .int (l7 + 1)), (5, .int x23), (0, .ref l0), (1, .int l1), (2, .int l2), (3, .int l3), (4, .int l4), (6, .int l6)]) 7 dX12_likelyFrom_114 rfl rfl (by decide) rfl ?_
  refine g_goto (tgt := 60) dX12_likelyFrom_117 (by decide) ?_
  refine G_lv [2, 3, 4, 5, 6, 1, 7, 0] rfl ?_
  exact hK60 l0 l1 l2 l3 l4 x23 l6 (l7 + 1) h22
set_option maxRecDepth 100000 in
noncomputable def f_X12_likelyFrom_60_b (F : Nat) (Rc : Nat → Nat → Int32 → Int32 → Int32 → Int32 → Hp → Option (Int32 × Hp)) (K51 : Nat → Int32 → Int32 → Int32 → Int32 → Int32 → Int32 → Hp → Option (Int32 × Hp)) (K60 : Nat → Int32 → Int32 → Int32 → Int32 → Int32 → Int32 → Int32 → Hp → Option (Int32 × Hp)) (l0 : Nat) (l1 : Int32) (l2 : Int32) (l3 : Int32) (l4 : Int32) (l5 : Int32) (l6 : Int32) (l7 : Int32) (h : Hp) : Option (Int32 × Hp) :=
  gR 13 h l0 1 fun v13 => aI 20 h v13 1 fun v14 => if v14 ≤ l7 then (K51 l0 l1 l2 l3 l4 l5 (l6 + 1) h) else (cV 13 h l0 (f_X12_mayTell F l0 l1 l6 l7 h) fun v16 h17 => if v16 = 0 then (f_X12_likelyFrom_99 F Rc K51 K60 l0 l1 l2 l3 l4 l6 l7 l1 l0 l5 h17) else (cV 13 h17 l0 (f_X12_toldTo F l0 l1 l6 l7 h17) fun v24 h25 => f_X12_likelyFrom_99 F Rc K51 K60 l0 l1 l2 l3 l4 l6 l7 v24 l0 l5 h25))
set_option maxRecDepth 100000 in
set_option maxHeartbeats 4000000 in
theorem T_X12_likelyFrom_60_b (F : Nat) {d dR : Nat} (hd1 : 6 ≤ d) (hdR : dR + 1 ≤ d) {Rc : Nat → Nat → Int32 → Int32 → Int32 → Int32 → Hp → Option (Int32 × Hp)} (hR : ∀ (w : Nat) (a0 : Nat) (a1 : Int32) (a2 : Int32) (a3 : Int32) (a4 : Int32) (h : Hp), GM rvI (I_grp_X12_likelyFrom w) dR [.ref a0, .int a1, .int a2, .int a3, .int a4] h (Rc w a0 a1 a2 a3 a4 h)) {K51 : Nat → Int32 → Int32 → Int32 → Int32 → Int32 → Int32 → Hp → Option (Int32 × Hp)} (hK51 : ∀ (l0 : Nat) (l1 : Int32) (l2 : Int32) (l3 : Int32) (l4 : Int32) (l5 : Int32) (l6 : Int32) (h : Hp), G rvI I_X12_likelyFrom d 51 [(0, .ref l0), (1, .int l1), (2, .int l2), (3, .int l3), (4, .int l4), (5, .int l5), (6, .int l6)] [] h (K51 l0 l1 l2 l3 l4 l5 l6 h)) {K60 : Nat → Int32 → Int32 → Int32 → Int32 → Int32 → Int32 → Int32 → Hp → Option (Int32 × Hp)} (hK60 : ∀ (l0 : Nat) (l1 : Int32) (l2 : Int32) (l3 : Int32) (l4 : Int32) (l5 : Int32) (l6 : Int32) (l7 : Int32) (h : Hp), G rvI I_X12_likelyFrom d 60 [(0, .ref l0), (1, .int l1), (2, .int l2), (3, .int l3), (4, .int l4), (5, .int l5), (6, .int l6), (7, .int l7)] [] h (K60 l0 l1 l2 l3 l4 l5 l6 l7 h)) (l0 : Nat) (l1 : Int32) (l2 : Int32) (l3 : Int32) (l4 : Int32) (l5 : Int32) (l6 : Int32) (l7 : Int32) (h : Hp) : G rvI I_X12_likelyFrom d 60 [(0, .ref l0), (1, .int l1), (2, .int l2), (3, .int l3), (4, .int l4), (5, .int l5), (6, .int l6), (7, .int l7)] [] h (f_X12_likelyFrom_60_b F Rc K51 K60 l0 l1 l2 l3 l4 l5 l6 l7 h) := by
  delta f_X12_likelyFrom_60_b
  refine g_iload 7 dX12_likelyFrom_60 rfl ?_
  refine g_aload_n 0 dX12_likelyFrom_62 rfl ?_
  refine g_getR fl_RX12_13 rfl dX12_likelyFrom_63 (fun v13 => ?_)
  refine g_iconst (v := 1) dX12_likelyFrom_66 (by decide) ?_
  refine g_iald dX12_likelyFrom_67 (fun v14 => ?_)
  refine g_icmp_ge (tgt := 120) dX12_likelyFrom_68 (by decide) (fun c15 => ?_) (fun c15 => ?_)
  · refine g_iinc (v' := l6 + 1) (lv' := [(6, .int (l6 + 1)), (0, .ref l0), (1, .int l1), (2, .int l2), (3, .int l3), (4, .int l4), (5, .int l5), (7, .int l7)]) 6 dX12_likelyFrom_120 rfl rfl (by decide) rfl ?_
    refine g_goto (tgt := 51) dX12_likelyFrom_123 (by decide) ?_
    refine G_lv [1, 2, 3, 4, 5, 6, 0] rfl ?_
    exact hK51 l0 l1 l2 l3 l4 l5 (l6 + 1) h
  · refine g_iload 5 dX12_likelyFrom_71 rfl ?_
    refine g_aload_n 0 dX12_likelyFrom_73 rfl ?_
    refine g_aload_n 0 dX12_likelyFrom_74 rfl ?_
    refine g_iload_n 1 dX12_likelyFrom_75 rfl ?_
    refine g_iload 6 dX12_likelyFrom_76 rfl ?_
    refine g_iload 7 dX12_likelyFrom_78 rfl ?_
    refine g_callVi (J := I_X12_mayTell) (t := 13) (As := [.int l1, .int l6, .int l7]) (rest := [.ref l0, .int l5]) mjv_X12_mayTell ml_RX12_263 ⟨rfl, by decide, by decide⟩ (Nat.le_trans (by decide) hd1) rfl rfl (Nat.le_of_ble_eq_true rfl) dX12_likelyFrom_80 (T_X12_mayTell F l0 l1 l6 l7 h) (fun v16 h17 => ?_)
    refine g_if_eq (tgt := 98) dX12_likelyFrom_83 (by decide) (fun c18 => ?_) (fun c18 => ?_)
    · refine g_iload_n 1 dX12_likelyFrom_98 rfl ?_
      refine G_lv [0, 1, 2, 3, 4, 6, 7] rfl ?_
      exact T_X12_likelyFrom_99 F hd1 hdR hR hK51 hK60 l0 l1 l2 l3 l4 l6 l7 l1 l0 l5 h17
    · refine g_aload_n 0 dX12_likelyFrom_86 rfl ?_
      refine g_iload_n 1 dX12_likelyFrom_87 rfl ?_
      refine g_iload 6 dX12_likelyFrom_88 rfl ?_
      refine g_iload 7 dX12_likelyFrom_90 rfl ?_
      refine g_callVi (J := I_X12_toldTo) (t := 13) (As := [.int l1, .int l6, .int l7]) (rest := [.ref l0, .int l5]) mjv_X12_toldTo ml_RX12_266 ⟨rfl, by decide, by decide⟩ (Nat.le_trans (by decide) hd1) rfl rfl (Nat.le_of_ble_eq_true rfl) dX12_likelyFrom_92 (T_X12_toldTo F l0 l1 l6 l7 h17) (fun v24 h25 => ?_)
      refine g_goto (tgt := 99) dX12_likelyFrom_95 (by decide) ?_
      refine G_lv [0, 1, 2, 3, 4, 6, 7] rfl ?_
      exact T_X12_likelyFrom_99 F hd1 hdR hR hK51 hK60 l0 l1 l2 l3 l4 l6 l7 v24 l0 l5 h25
set_option maxRecDepth 100000 in
noncomputable def f_X12_likelyFrom_60 (F : Nat) (Rc : Nat → Nat → Int32 → Int32 → Int32 → Int32 → Hp → Option (Int32 × Hp)) (K51 : Nat → Int32 → Int32 → Int32 → Int32 → Int32 → Int32 → Hp → Option (Int32 × Hp)) : Nat → Nat → Int32 → Int32 → Int32 → Int32 → Int32 → Int32 → Int32 → Hp → Option (Int32 × Hp)
  | 0, _, _, _, _, _, _, _, _, _ => none
  | n + 1, l0, l1, l2, l3, l4, l5, l6, l7, h => f_X12_likelyFrom_60_b F Rc K51 (f_X12_likelyFrom_60 F Rc K51 n) l0 l1 l2 l3 l4 l5 l6 l7 h
set_option maxRecDepth 100000 in
set_option maxHeartbeats 4000000 in
theorem T_X12_likelyFrom_60 (F : Nat) {d dR : Nat} (hd1 : 6 ≤ d) (hdR : dR + 1 ≤ d) {Rc : Nat → Nat → Int32 → Int32 → Int32 → Int32 → Hp → Option (Int32 × Hp)} (hR : ∀ (w : Nat) (a0 : Nat) (a1 : Int32) (a2 : Int32) (a3 : Int32) (a4 : Int32) (h : Hp), GM rvI (I_grp_X12_likelyFrom w) dR [.ref a0, .int a1, .int a2, .int a3, .int a4] h (Rc w a0 a1 a2 a3 a4 h)) {K51 : Nat → Int32 → Int32 → Int32 → Int32 → Int32 → Int32 → Hp → Option (Int32 × Hp)} (hK51 : ∀ (l0 : Nat) (l1 : Int32) (l2 : Int32) (l3 : Int32) (l4 : Int32) (l5 : Int32) (l6 : Int32) (h : Hp), G rvI I_X12_likelyFrom d 51 [(0, .ref l0), (1, .int l1), (2, .int l2), (3, .int l3), (4, .int l4), (5, .int l5), (6, .int l6)] [] h (K51 l0 l1 l2 l3 l4 l5 l6 h)) : ∀ (n : Nat) (l0 : Nat) (l1 : Int32) (l2 : Int32) (l3 : Int32) (l4 : Int32) (l5 : Int32) (l6 : Int32) (l7 : Int32) (h : Hp), G rvI I_X12_likelyFrom d 60 [(0, .ref l0), (1, .int l1), (2, .int l2), (3, .int l3), (4, .int l4), (5, .int l5), (6, .int l6), (7, .int l7)] [] h (f_X12_likelyFrom_60 F Rc K51 n l0 l1 l2 l3 l4 l5 l6 l7 h) := by
  intro n
  induction n with
  | zero => intros; exact G_none
  | succ n ih => intro l0 l1 l2 l3 l4 l5 l6 l7 h; exact T_X12_likelyFrom_60_b F hd1 hdR hR hK51 ih l0 l1 l2 l3 l4 l5 l6 l7 h
set_option maxRecDepth 100000 in
noncomputable def f_X12_likelyFrom_51_b (F : Nat) (Rc : Nat → Nat → Int32 → Int32 → Int32 → Int32 → Hp → Option (Int32 × Hp)) (K51 : Nat → Int32 → Int32 → Int32 → Int32 → Int32 → Int32 → Hp → Option (Int32 × Hp)) (l0 : Nat) (l1 : Int32) (l2 : Int32) (l3 : Int32) (l4 : Int32) (l5 : Int32) (l6 : Int32) (h : Hp) : Option (Int32 × Hp) :=
  if 2 ≤ l6 then (some (l5, h)) else (f_X12_likelyFrom_60 F Rc K51 F l0 l1 l2 l3 l4 l5 l6 0 h)
set_option maxRecDepth 100000 in
set_option maxHeartbeats 4000000 in
theorem T_X12_likelyFrom_51_b (F : Nat) {d dR : Nat} (hd1 : 6 ≤ d) (hdR : dR + 1 ≤ d) {Rc : Nat → Nat → Int32 → Int32 → Int32 → Int32 → Hp → Option (Int32 × Hp)} (hR : ∀ (w : Nat) (a0 : Nat) (a1 : Int32) (a2 : Int32) (a3 : Int32) (a4 : Int32) (h : Hp), GM rvI (I_grp_X12_likelyFrom w) dR [.ref a0, .int a1, .int a2, .int a3, .int a4] h (Rc w a0 a1 a2 a3 a4 h)) {K51 : Nat → Int32 → Int32 → Int32 → Int32 → Int32 → Int32 → Hp → Option (Int32 × Hp)} (hK51 : ∀ (l0 : Nat) (l1 : Int32) (l2 : Int32) (l3 : Int32) (l4 : Int32) (l5 : Int32) (l6 : Int32) (h : Hp), G rvI I_X12_likelyFrom d 51 [(0, .ref l0), (1, .int l1), (2, .int l2), (3, .int l3), (4, .int l4), (5, .int l5), (6, .int l6)] [] h (K51 l0 l1 l2 l3 l4 l5 l6 h)) (l0 : Nat) (l1 : Int32) (l2 : Int32) (l3 : Int32) (l4 : Int32) (l5 : Int32) (l6 : Int32) (h : Hp) : G rvI I_X12_likelyFrom d 51 [(0, .ref l0), (1, .int l1), (2, .int l2), (3, .int l3), (4, .int l4), (5, .int l5), (6, .int l6)] [] h (f_X12_likelyFrom_51_b F Rc K51 l0 l1 l2 l3 l4 l5 l6 h) := by
  delta f_X12_likelyFrom_51_b
  refine g_iload 6 dX12_likelyFrom_51 rfl ?_
  refine g_iconst (v := 2) dX12_likelyFrom_53 (by decide) ?_
  refine g_icmp_ge (tgt := 126) dX12_likelyFrom_54 (by decide) (fun c12 => ?_) (fun c12 => ?_)
  · refine g_iload 5 dX12_likelyFrom_126 rfl ?_
    exact g_iret rfl dX12_likelyFrom_128
  · refine g_iconst (v := 0) dX12_likelyFrom_57 (by decide) ?_
    refine g_istore (lv' := [(7, .int 0), (0, .ref l0), (1, .int l1), (2, .int l2), (3, .int l3), (4, .int l4), (5, .int l5), (6, .int l6)]) dX12_likelyFrom_58 (by decide) rfl ?_
    refine G_lv [1, 2, 3, 4, 5, 6, 7, 0] rfl ?_
    exact T_X12_likelyFrom_60 F hd1 hdR hR hK51 F l0 l1 l2 l3 l4 l5 l6 0 h
set_option maxRecDepth 100000 in
noncomputable def f_X12_likelyFrom_51 (F : Nat) (Rc : Nat → Nat → Int32 → Int32 → Int32 → Int32 → Hp → Option (Int32 × Hp)) : Nat → Nat → Int32 → Int32 → Int32 → Int32 → Int32 → Int32 → Hp → Option (Int32 × Hp)
  | 0, _, _, _, _, _, _, _, _ => none
  | n + 1, l0, l1, l2, l3, l4, l5, l6, h => f_X12_likelyFrom_51_b F Rc (f_X12_likelyFrom_51 F Rc n) l0 l1 l2 l3 l4 l5 l6 h
set_option maxRecDepth 100000 in
set_option maxHeartbeats 4000000 in
theorem T_X12_likelyFrom_51 (F : Nat) {d dR : Nat} (hd1 : 6 ≤ d) (hdR : dR + 1 ≤ d) {Rc : Nat → Nat → Int32 → Int32 → Int32 → Int32 → Hp → Option (Int32 × Hp)} (hR : ∀ (w : Nat) (a0 : Nat) (a1 : Int32) (a2 : Int32) (a3 : Int32) (a4 : Int32) (h : Hp), GM rvI (I_grp_X12_likelyFrom w) dR [.ref a0, .int a1, .int a2, .int a3, .int a4] h (Rc w a0 a1 a2 a3 a4 h)) : ∀ (n : Nat) (l0 : Nat) (l1 : Int32) (l2 : Int32) (l3 : Int32) (l4 : Int32) (l5 : Int32) (l6 : Int32) (h : Hp), G rvI I_X12_likelyFrom d 51 [(0, .ref l0), (1, .int l1), (2, .int l2), (3, .int l3), (4, .int l4), (5, .int l5), (6, .int l6)] [] h (f_X12_likelyFrom_51 F Rc n l0 l1 l2 l3 l4 l5 l6 h) := by
  intro n
  induction n with
  | zero => intros; exact G_none
  | succ n ih => intro l0 l1 l2 l3 l4 l5 l6 h; exact T_X12_likelyFrom_51_b F hd1 hdR hR ih l0 l1 l2 l3 l4 l5 l6 h
set_option maxRecDepth 100000 in
noncomputable def f_X12_likelyFrom_w (F : Nat) (Rc : Nat → Nat → Int32 → Int32 → Int32 → Int32 → Hp → Option (Int32 × Hp)) (a0 : Nat) (a1 : Int32) (a2 : Int32) (a3 : Int32) (a4 : Int32) (h : Hp) : Option (Int32 × Hp) :=
  if a4 = 0 then (cV 13 h a0 (f_X12_doesIn F a0 a1 a2 a3 h) fun v2 h3 => if v2 = 0 then (some (0, h3)) else (some (1, h3))) else (gR 13 h a0 1 fun v5 => aI 20 h v5 1 fun v6 => if v6 = 0 then (bd (f_X12_dayTo F a1 h) fun v8 h9 => cV 13 h9 a0 (Rc 0 a0 v8 a2 a3 (a4 - 1) h9) fun v10 h11 => some (v10, h11)) else (f_X12_likelyFrom_51 F Rc F a0 a1 a2 a3 a4 0 0 h))
set_option maxRecDepth 100000 in
set_option maxHeartbeats 4000000 in
theorem T_X12_likelyFrom_w (F : Nat) {d dR : Nat} (hd1 : 6 ≤ d) (hdR : dR + 1 ≤ d) {Rc : Nat → Nat → Int32 → Int32 → Int32 → Int32 → Hp → Option (Int32 × Hp)} (hR : ∀ (w : Nat) (a0 : Nat) (a1 : Int32) (a2 : Int32) (a3 : Int32) (a4 : Int32) (h : Hp), GM rvI (I_grp_X12_likelyFrom w) dR [.ref a0, .int a1, .int a2, .int a3, .int a4] h (Rc w a0 a1 a2 a3 a4 h)) (a0 : Nat) (a1 : Int32) (a2 : Int32) (a3 : Int32) (a4 : Int32) (h : Hp) : GM rvI I_X12_likelyFrom d [.ref a0, .int a1, .int a2, .int a3, .int a4] h (f_X12_likelyFrom_w F Rc a0 a1 a2 a3 a4 h) := by
  delta f_X12_likelyFrom_w
  refine GM_of (lv := [(0, .ref a0), (1, .int a1), (2, .int a2), (3, .int a3), (4, .int a4)]) (by decide +kernel) (Nat.le_of_ble_eq_true rfl) rfl ?_
  refine g_iload 4 dX12_likelyFrom_0 rfl ?_
  refine g_if_ne (tgt := 21) dX12_likelyFrom_2 (by decide) (fun c1 => ?_) (fun c1 => ?_)
  · refine g_aload_n 0 dX12_likelyFrom_5 rfl ?_
    refine g_iload_n 1 dX12_likelyFrom_6 rfl ?_
    refine g_iload_n 2 dX12_likelyFrom_7 rfl ?_
    refine g_iload_n 3 dX12_likelyFrom_8 rfl ?_
    refine g_callVi (J := I_X12_doesIn) (t := 13) (As := [.int a1, .int a2, .int a3]) (rest := []) mjv_X12_doesIn ml_RX12_240 ⟨rfl, by decide, by decide⟩ (Nat.le_trans (by decide) hd1) rfl rfl (Nat.le_of_ble_eq_true rfl) dX12_likelyFrom_9 (T_X12_doesIn F a0 a1 a2 a3 h) (fun v2 h3 => ?_)
    refine g_if_eq (tgt := 19) dX12_likelyFrom_12 (by decide) (fun c4 => ?_) (fun c4 => ?_)
    · refine g_iconst (v := 0) dX12_likelyFrom_19 (by decide) ?_
      exact g_iret rfl dX12_likelyFrom_20
    · refine g_iconst (v := 1) dX12_likelyFrom_15 (by decide) ?_
      refine g_goto (tgt := 20) dX12_likelyFrom_16 (by decide) ?_
      exact g_iret rfl dX12_likelyFrom_20
  · refine g_aload_n 0 dX12_likelyFrom_21 rfl ?_
    refine g_getR fl_RX12_13 rfl dX12_likelyFrom_22 (fun v5 => ?_)
    refine g_iconst (v := 1) dX12_likelyFrom_25 (by decide) ?_
    refine g_iald dX12_likelyFrom_26 (fun v6 => ?_)
    refine g_if_ne (tgt := 45) dX12_likelyFrom_27 (by decide) (fun c7 => ?_) (fun c7 => ?_)
    · refine g_aload_n 0 dX12_likelyFrom_30 rfl ?_
      refine g_iload_n 1 dX12_likelyFrom_31 rfl ?_
      refine g_callSi (J := I_X12_dayTo) (As := [.int a1]) (rest := [.ref a0]) mjs_X12_dayTo ml_RX12_284 (Nat.le_trans (by decide) hd1) rfl rfl (Nat.le_of_ble_eq_true rfl) dX12_likelyFrom_32 (T_X12_dayTo F a1 h) (fun v8 h9 => ?_)
      refine g_iload_n 2 dX12_likelyFrom_35 rfl ?_
      refine g_iload_n 3 dX12_likelyFrom_36 rfl ?_
      refine g_iload 4 dX12_likelyFrom_37 rfl ?_
      refine g_iconst (v := 1) dX12_likelyFrom_39 (by decide) ?_
      refine g_isub dX12_likelyFrom_40 ?_
      refine g_callVi (J := I_X12_likelyFrom) (t := 13) (As := [.int v8, .int a2, .int a3, .int (a4 - 1)]) (rest := []) mjv_X12_likelyFrom ml_RX12_434 ⟨rfl, by decide, by decide⟩ hdR rfl rfl (Nat.le_of_ble_eq_true rfl) dX12_likelyFrom_41 (hR 0 a0 v8 a2 a3 (a4 - 1) h9) (fun v10 h11 => ?_)
      exact g_iret rfl dX12_likelyFrom_44
    · refine g_iconst (v := 0) dX12_likelyFrom_45 (by decide) ?_
      refine g_istore (lv' := [(5, .int 0), (0, .ref a0), (1, .int a1), (2, .int a2), (3, .int a3), (4, .int a4)]) dX12_likelyFrom_46 (by decide) rfl ?_
      refine g_iconst (v := 0) dX12_likelyFrom_48 (by decide) ?_
      refine g_istore (lv' := [(6, .int 0), (5, .int 0), (0, .ref a0), (1, .int a1), (2, .int a2), (3, .int a3), (4, .int a4)]) dX12_likelyFrom_49 (by decide) rfl ?_
      refine G_lv [2, 3, 4, 5, 6, 1, 0] rfl ?_
      exact T_X12_likelyFrom_51 F hd1 hdR hR F a0 a1 a2 a3 a4 0 0 h
set_option maxRecDepth 100000 in
noncomputable def f_grp_X12_likelyFrom (F : Nat) : Nat → Nat → Nat → Int32 → Int32 → Int32 → Int32 → Hp → Option (Int32 × Hp)
  | 0, _, _, _, _, _, _, _ => none
  | D + 1, w, a0, a1, a2, a3, a4, h => f_X12_likelyFrom_w F (f_grp_X12_likelyFrom F D) a0 a1 a2 a3 a4 h
set_option maxRecDepth 100000 in
set_option maxHeartbeats 4000000 in
theorem T_grp_X12_likelyFrom (F : Nat) : ∀ (D w : Nat) (a0 : Nat) (a1 : Int32) (a2 : Int32) (a3 : Int32) (a4 : Int32) (h : Hp), GM rvI (I_grp_X12_likelyFrom w) (6 + D) [.ref a0, .int a1, .int a2, .int a3, .int a4] h (f_grp_X12_likelyFrom F D w a0 a1 a2 a3 a4 h) := by
  intro D
  induction D with
  | zero => intros; exact fun x hx => by cases hx
  | succ D ih =>
    intro w a0 a1 a2 a3 a4 h
    show GM _ (I_grp_X12_likelyFrom w) _ _ _ (f_X12_likelyFrom_w F (f_grp_X12_likelyFrom F D) a0 a1 a2 a3 a4 h)
    unfold I_grp_X12_likelyFrom
    exact T_X12_likelyFrom_w F (by omega) (by omega) ih a0 a1 a2 a3 a4 h
set_option maxRecDepth 100000 in
noncomputable def f_X12_likelyFrom (F : Nat) (a0 : Nat) (a1 : Int32) (a2 : Int32) (a3 : Int32) (a4 : Int32) (h : Hp) : Option (Int32 × Hp) := f_grp_X12_likelyFrom F 8 0 a0 a1 a2 a3 a4 h
set_option maxRecDepth 100000 in
set_option maxHeartbeats 4000000 in
theorem T_X12_likelyFrom (F : Nat) (a0 : Nat) (a1 : Int32) (a2 : Int32) (a3 : Int32) (a4 : Int32) (h : Hp) : GM rvI I_X12_likelyFrom 14 [.ref a0, .int a1, .int a2, .int a3, .int a4] h (f_X12_likelyFrom F a0 a1 a2 a3 a4 h) := T_grp_X12_likelyFrom F 8 0 a0 a1 a2 a3 a4 h
