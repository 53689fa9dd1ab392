/-! L2, by program (wip/whole/gen/gen.py) -/
set_option maxRecDepth 100000 in
noncomputable def f_X12_chance_113 (F : Nat) (l5 : Int32) (l6 : Int32) (s0 : Int32) (h : Hp) : Option (Int32 × Hp) :=
  bd (f_X12_common F l6 l5 h) fun v20 h21 => gd (¬ v20 = 0) <| some ((s0 / v20), h21)
set_option maxRecDepth 100000 in
set_option maxHeartbeats 4000000 in
theorem T_X12_chance_113 (F : Nat) (l5 : Int32) (l6 : Int32) (s0 : Int32) (h : Hp) : G rvI I_X12_chance 66 113 [(5, .int l5), (6, .int l6)] [.int s0] h (f_X12_chance_113 F l5 l6 s0 h) := by
  delta f_X12_chance_113
  refine g_iload 1 dX12_chance_113 rfl ?_
  refine g_iload 0 dX12_chance_115 rfl ?_
  refine g_callSi (J := I_X12_common) (As := [.int l6, .int l5]) (rest := [.int s0]) mjs_X12_common ml_RX12_437 (by decide) rfl rfl (Nat.le_of_ble_eq_true rfl) dX12_chance_117 (T_X12_common F l6 l5 h) (fun v20 h21 => ?_)
  refine G_gd (fun z22 => ?_)
  refine g_idiv z22 dX12_chance_120 ?_
  exact g_iret rfl dX12_chance_121
set_option maxRecDepth 100000 in
noncomputable def f_X12_chance_88 (F : Nat) (l0 : Nat) (l1 : Int32) (l2 : Int32) (l3 : Int32) (l4 : Int32) (l5 : Int32) (h : Hp) : Option (Int32 × Hp) :=
  cV 13 h l0 (f_X12_standNow F l0 h) fun v15 h16 => cV 13 h16 l0 (f_X12_likelyFrom F l0 v15 l1 l2 l3 h16) fun v17 h18 => if l4 = 0 then (f_X12_chance_113 F l5 v17 v17 h18) else (f_X12_chance_113 F l5 v17 l5 h18)
set_option maxRecDepth 100000 in
set_option maxHeartbeats 4000000 in
theorem T_X12_chance_88 (F : Nat) (l0 : Nat) (l1 : Int32) (l2 : Int32) (l3 : Int32) (l4 : Int32) (l5 : Int32) (h : Hp) : G rvI I_X12_chance 66 88 [(0, .ref l0), (1, .int l1), (2, .int l2), (3, .int l3), (4, .int l4), (5, .int l5)] [] h (f_X12_chance_88 F l0 l1 l2 l3 l4 l5 h) := by
  delta f_X12_chance_88
  refine g_aload_n 0 dX12_chance_88 rfl ?_
  refine g_aload_n 0 dX12_chance_89 rfl ?_
  refine g_callVi (J := I_X12_standNow) (t := 13) (As := []) (rest := [.ref l0]) mjv_X12_standNow ml_RX12_260 ⟨rfl, by decide, by decide⟩ (by decide) rfl rfl (Nat.le_of_ble_eq_true rfl) dX12_chance_90 (T_X12_standNow F l0 h) (fun v15 h16 => ?_)
  refine g_iload_n 1 dX12_chance_93 rfl ?_
  refine g_iload_n 2 dX12_chance_94 rfl ?_
  refine g_iload_n 3 dX12_chance_95 rfl ?_
  refine g_callVi (J := I_X12_likelyFrom) (t := 13) (As := [.int v15, .int l1, .int l2, .int l3]) (rest := []) mjv_X12_likelyFrom ml_RX12_434 ⟨rfl, by decide, by decide⟩ (by decide) rfl rfl (Nat.le_of_ble_eq_true rfl) dX12_chance_96 (T_X12_likelyFrom F l0 v15 l1 l2 l3 h16) (fun v17 h18 => ?_)
  refine g_istore (lv' := [(6, .int v17), (0, .ref l0), (1, .int l1), (2, .int l2), (3, .int l3), (4, .int l4), (5, .int l5)]) dX12_chance_99 (by decide) rfl ?_
  refine g_iload 5 dX12_chance_101 rfl ?_
  refine g_if_ne (tgt := 111) dX12_chance_103 (by decide) (fun c19 => ?_) (fun c19 => ?_)
  · refine g_iload 0 dX12_chance_106 rfl ?_
    refine g_goto (tgt := 113) dX12_chance_108 (by decide) ?_
    refine G_lv [6, 0] rfl ?_
    exact T_X12_chance_113 F l5 v17 v17 h18
  · refine g_iload 6 dX12_chance_111 rfl ?_
    refine G_lv [6, 0] rfl ?_
    exact T_X12_chance_113 F l5 v17 l5 h18
set_option maxRecDepth 100000 in
noncomputable def f_X12_chance_54_b (F : Nat) (K54 : Nat → Int32 → Int32 → Int32 → Int32 → Int32 → Int32 → Hp → Option (Int32 × Hp)) (l0 : Nat) (l1 : Int32) (l2 : Int32) (l3 : Int32) (l4 : Int32) (l5 : Int32) (l6 : Int32) (h : Hp) : Option (Int32 × Hp) :=
  if l3 ≤ l6 then (f_X12_chance_88 F l0 l1 l2 l3 l4 l5 h) else (gR 13 h l0 1 fun v23 => aI 20 h v23 1 fun v24 => if v24 ≤ 0 then (f_X12_chance_88 F l0 l1 l2 l3 l4 l5 h) else (gR 13 h l0 1 fun v26 => aI 20 h v26 1 fun v27 => lt (l5 * (2 * v27)) fun x28 => K54 l0 l1 l2 l3 l4 x28 (l6 + 1) h))
set_option maxRecDepth 100000 in
set_option maxHeartbeats 4000000 in
theorem T_X12_chance_54_b (F : Nat) {K54 : Nat → Int32 → Int32 → Int32 → Int32 → Int32 → Int32 → Hp → Option (Int32 × Hp)} (hK54 : ∀ (l0 : Nat) (l1 : Int32) (l2 : Int32) (l3 : Int32) (l4 : Int32) (l5 : Int32) (l6 : Int32) (h : Hp), G rvI I_X12_chance 66 54 [(0, .ref l0), (1, .int l1), (2, .int l2), (3, .int l3), (4, .int l4), (5, .int l5), (6, .int l6)] [] h (K54 l0 l1 l2 l3 l4 l5 l6 h)) (l0 : Nat) (l1 : Int32) (l2 : Int32) (l3 : Int32) (l4 : Int32) (l5 : Int32) (l6 : Int32) (h : Hp) : G rvI I_X12_chance 66 54 [(0, .ref l0), (1, .int l1), (2, .int l2), (3, .int l3), (4, .int l4), (5, .int l5), (6, .int l6)] [] h (f_X12_chance_54_b F K54 l0 l1 l2 l3 l4 l5 l6 h) := by
  delta f_X12_chance_54_b
  refine g_iload 6 dX12_chance_54 rfl ?_
  refine g_iload_n 3 dX12_chance_56 rfl ?_
  refine g_icmp_ge (tgt := 88) dX12_chance_57 (by decide) (fun c14 => ?_) (fun c14 => ?_)
  · refine G_lv [0, 1, 2, 3, 4, 5] rfl ?_
    exact T_X12_chance_88 F l0 l1 l2 l3 l4 l5 h
  · refine g_aload_n 0 dX12_chance_60 rfl ?_
    refine g_getR fl_RX12_13 rfl dX12_chance_61 (fun v23 => ?_)
    refine g_iconst (v := 1) dX12_chance_64 (by decide) ?_
    refine g_iald dX12_chance_65 (fun v24 => ?_)
    refine g_if_le (tgt := 88) dX12_chance_66 (by decide) (fun c25 => ?_) (fun c25 => ?_)
    · refine G_lv [0, 1, 2, 3, 4, 5] rfl ?_
      exact T_X12_chance_88 F l0 l1 l2 l3 l4 l5 h
    · refine g_iload 5 dX12_chance_69 rfl ?_
      refine g_iconst (v := 2) dX12_chance_71 (by decide) ?_
      refine g_aload_n 0 dX12_chance_72 rfl ?_
      refine g_getR fl_RX12_13 rfl dX12_chance_73 (fun v26 => ?_)
      refine g_iconst (v := 1) dX12_chance_76 (by decide) ?_
      refine g_iald dX12_chance_77 (fun v27 => ?_)
      refine g_imul dX12_chance_78 ?_
      refine g_imul dX12_chance_79 ?_
      refine G_lti (fun x28 => ?_)
      refine g_istore (lv' := [(5, .int x28), (0, .ref l0), (1, .int l1), (2, .int l2), (3, .int l3), (4, .int l4), (6, .int l6)]) dX12_chance_80 (by decide) rfl ?_
      refine g_iinc (v' := l6 + 1) (lv' := [(6, .int (l6 + 1)), (5, .int x28), (0, .ref l0), (1, .int l1), (2, .int l2), (3, .int l3), (4, .int l4)]) 6 dX12_chance_82 rfl rfl (by decide) rfl ?_
      refine g_goto (tgt := 54) dX12_chance_85 (by decide) ?_
      refine G_lv [2, 3, 4, 5, 6, 1, 0] rfl ?_
      exact hK54 l0 l1 l2 l3 l4 x28 (l6 + 1) h
set_option maxRecDepth 100000 in
noncomputable def f_X12_chance_54 (F : Nat) : Nat → Nat → Int32 → Int32 → Int32 → Int32 → Int32 → Int32 → Hp → Option (Int32 × Hp)
  | 0, _, _, _, _, _, _, _, _ => none
  | n + 1, l0, l1, l2, l3, l4, l5, l6, h => f_X12_chance_54_b F (f_X12_chance_54 F n) l0 l1 l2 l3 l4 l5 l6 h
set_option maxRecDepth 100000 in
set_option maxHeartbeats 4000000 in
theorem T_X12_chance_54 (F : Nat) : ∀ (n : Nat) (l0 : Nat) (l1 : Int32) (l2 : Int32) (l3 : Int32) (l4 : Int32) (l5 : Int32) (l6 : Int32) (h : Hp), G rvI I_X12_chance 66 54 [(0, .ref l0), (1, .int l1), (2, .int l2), (3, .int l3), (4, .int l4), (5, .int l5), (6, .int l6)] [] h (f_X12_chance_54 F n l0 l1 l2 l3 l4 l5 l6 h) := by
  intro n
  induction n with
  | zero => intros; exact G_none
  | succ n ih => intro l0 l1 l2 l3 l4 l5 l6 h; exact T_X12_chance_54_b F ih l0 l1 l2 l3 l4 l5 l6 h
set_option maxRecDepth 100000 in
noncomputable def f_X12_chance (F : Nat) (a0 : Nat) (a1 : Int32) (a2 : Int32) (a3 : Int32) (a4 : Int32) (h : Hp) : Option (Int32 × Hp) :=
  pI 13 h a0 0 0 fun h1 => bd (f_X12_isTwin F (a1.toInt64) h1) fun v2 h3 => if v2 = 0 then (some ((-2), h3)) else (cV 13 h3 a0 (f_X12_isDoing F a0 a2 h3) fun v5 h6 => if v5 = 0 then (some ((-2), h6)) else (bd (f_X12_isTwin F (a4.toInt64) h6) fun v8 h9 => if v8 = 0 then (some ((-2), h9)) else (bd (f_X12_within F (a3.toInt64) 0 4 h9) fun v11 h12 => if v11 = 0 then (some ((-3), h12)) else (f_X12_chance_54 F F a0 a1 a2 a3 a4 1 0 h12))))
set_option maxRecDepth 100000 in
set_option maxHeartbeats 4000000 in
theorem T_X12_chance (F : Nat) (a0 : Nat) (a1 : Int32) (a2 : Int32) (a3 : Int32) (a4 : Int32) (h : Hp) : GM rvI I_X12_chance 66 [.ref a0, .int a1, .int a2, .int a3, .int a4] h (f_X12_chance F a0 a1 a2 a3 a4 h) := by
  delta f_X12_chance
  refine GM_of (lv := [(0, .ref a0), (1, .int a1), (2, .int a2), (3, .int a3), (4, .int a4)]) (by decide +kernel) (Nat.le_of_ble_eq_true rfl) rfl ?_
  refine g_aload_n 0 dX12_chance_0 rfl ?_
  refine g_iconst (v := 0) dX12_chance_1 (by decide) ?_
  refine g_putI fl_RX12_1 (Or.inl rfl) dX12_chance_2 (fun h1 => ?_)
  refine g_iload_n 1 dX12_chance_5 rfl ?_
  refine g_i2l dX12_chance_6 ?_
  refine g_callSi (J := I_X12_isTwin) (As := [.long (a1.toInt64)]) (rest := []) mjs_X12_isTwin ml_RX12_250 (by decide) rfl rfl (Nat.le_of_ble_eq_true rfl) dX12_chance_7 (T_X12_isTwin F (a1.toInt64) h1) (fun v2 h3 => ?_)
  refine g_if_eq (tgt := 30) dX12_chance_10 (by decide) (fun c4 => ?_) (fun c4 => ?_)
  · refine g_bipush (v := (-2)) dX12_chance_30 (by decide) ?_
    exact g_iret rfl dX12_chance_32
  · refine g_aload_n 0 dX12_chance_13 rfl ?_
    refine g_iload_n 2 dX12_chance_14 rfl ?_
    refine g_callVi (J := I_X12_isDoing) (t := 13) (As := [.int a2]) (rest := []) mjv_X12_isDoing ml_RX12_257 ⟨rfl, by decide, by decide⟩ (by decide) rfl rfl (Nat.le_of_ble_eq_true rfl) dX12_chance_15 (T_X12_isDoing F a0 a2 h3) (fun v5 h6 => ?_)
    refine g_if_eq (tgt := 30) dX12_chance_18 (by decide) (fun c7 => ?_) (fun c7 => ?_)
    · refine g_bipush (v := (-2)) dX12_chance_30 (by decide) ?_
      exact g_iret rfl dX12_chance_32
    · refine g_iload 4 dX12_chance_21 rfl ?_
      refine g_i2l dX12_chance_23 ?_
      refine g_callSi (J := I_X12_isTwin) (As := [.long (a4.toInt64)]) (rest := []) mjs_X12_isTwin ml_RX12_250 (by decide) rfl rfl (Nat.le_of_ble_eq_true rfl) dX12_chance_24 (T_X12_isTwin F (a4.toInt64) h6) (fun v8 h9 => ?_)
      refine g_if_ne (tgt := 33) dX12_chance_27 (by decide) (fun c10 => ?_) (fun c10 => ?_)
      · refine g_bipush (v := (-2)) dX12_chance_30 (by decide) ?_
        exact g_iret rfl dX12_chance_32
      · refine g_iload_n 3 dX12_chance_33 rfl ?_
        refine g_i2l dX12_chance_34 ?_
        refine g_lconst (v := 0) dX12_chance_35 (by decide) ?_
        refine g_ldc2 (v := 4) dX12_chance_36 cl_RX12_440 ?_
        refine g_callSi (J := I_X12_within) (As := [.long (a3.toInt64), .long 0, .long 4]) (rest := []) mjs_X12_within ml_RX12_138 (by decide) rfl rfl (Nat.le_of_ble_eq_true rfl) dX12_chance_39 (T_X12_within F (a3.toInt64) 0 4 h9) (fun v11 h12 => ?_)
        refine g_if_ne (tgt := 48) dX12_chance_42 (by decide) (fun c13 => ?_) (fun c13 => ?_)
        · refine g_bipush (v := (-3)) dX12_chance_45 (by decide) ?_
          exact g_iret rfl dX12_chance_47
        · refine g_iconst (v := 1) dX12_chance_48 (by decide) ?_
          refine g_istore (lv' := [(5, .int 1), (0, .ref a0), (1, .int a1), (2, .int a2), (3, .int a3), (4, .int a4)]) dX12_chance_49 (by decide) rfl ?_
          refine g_iconst (v := 0) dX12_chance_51 (by decide) ?_
          refine g_istore (lv' := [(6, .int 0), (5, .int 1), (0, .ref a0), (1, .int a1), (2, .int a2), (3, .int a3), (4, .int a4)]) dX12_chance_52 (by decide) rfl ?_
          refine G_lv [2, 3, 4, 5, 6, 1, 0] rfl ?_
          exact T_X12_chance_54 F F a0 a1 a2 a3 a4 1 0 h12
set_option maxRecDepth 100000 in
noncomputable def f_X12_bitsOf_4_b (F : Nat) (K4 : Int32 → Int32 → Int32 → Hp → Option (Int32 × Hp)) (l0 : Int32) (l1 : Int32) (l2 : Int32) (h : Hp) : Option (Int32 × Hp) :=
  if 10 ≤ l2 then (some (l1, h)) else (lt (l1 + ((l0 >>> (l2 &&& 31)) &&& 1)) fun x2 => K4 l0 x2 (l2 + 1) h)
set_option maxRecDepth 100000 in
set_option maxHeartbeats 4000000 in
theorem T_X12_bitsOf_4_b (F : Nat) {K4 : Int32 → Int32 → Int32 → Hp → Option (Int32 × Hp)} (hK4 : ∀ (l0 : Int32) (l1 : Int32) (l2 : Int32) (h : Hp), G rvI I_X12_bitsOf 1 4 [(0, .int l0), (1, .int l1), (2, .int l2)] [] h (K4 l0 l1 l2 h)) (l0 : Int32) (l1 : Int32) (l2 : Int32) (h : Hp) : G rvI I_X12_bitsOf 1 4 [(0, .int l0), (1, .int l1), (2, .int l2)] [] h (f_X12_bitsOf_4_b F K4 l0 l1 l2 h) := by
  delta f_X12_bitsOf_4_b
  refine g_iload_n 2 dX12_bitsOf_4 rfl ?_
  refine g_bipush (v := 10) dX12_bitsOf_5 (by decide) ?_
  refine g_icmp_ge (tgt := 24) dX12_bitsOf_7 (by decide) (fun c1 => ?_) (fun c1 => ?_)
  · refine g_iload_n 1 dX12_bitsOf_24 rfl ?_
    exact g_iret rfl dX12_bitsOf_25
  · refine g_iload_n 1 dX12_bitsOf_10 rfl ?_
    refine g_iload_n 0 dX12_bitsOf_11 rfl ?_
    refine g_iload_n 2 dX12_bitsOf_12 rfl ?_
    refine g_ishr dX12_bitsOf_13 ?_
    refine g_iconst (v := 1) dX12_bitsOf_14 (by decide) ?_
    refine g_iand dX12_bitsOf_15 ?_
    refine g_iadd dX12_bitsOf_16 ?_
    refine G_lti (fun x2 => ?_)
    refine g_istore_n (lv' := [(1, .int x2), (0, .int l0), (2, .int l2)]) dX12_bitsOf_17 (by decide) rfl ?_
    refine g_iinc (v' := l2 + 1) (lv' := [(2, .int (l2 + 1)), (1, .int x2), (0, .int l0)]) 2 dX12_bitsOf_18 rfl rfl (by decide) rfl ?_
    refine g_goto (tgt := 4) dX12_bitsOf_21 (by decide) ?_
    refine G_lv [2, 1, 0] rfl ?_
    exact hK4 l0 x2 (l2 + 1) h
set_option maxRecDepth 100000 in
noncomputable def f_X12_bitsOf_4 (F : Nat) : Nat → Int32 → Int32 → Int32 → Hp → Option (Int32 × Hp)
  | 0, _, _, _, _ => none
  | n + 1, l0, l1, l2, h => f_X12_bitsOf_4_b F (f_X12_bitsOf_4 F n) l0 l1 l2 h
set_option maxRecDepth 100000 in
set_option maxHeartbeats 4000000 in
theorem T_X12_bitsOf_4 (F : Nat) : ∀ (n : Nat) (l0 : Int32) (l1 : Int32) (l2 : Int32) (h : Hp), G rvI I_X12_bitsOf 1 4 [(0, .int l0), (1, .int l1), (2, .int l2)] [] h (f_X12_bitsOf_4 F n l0 l1 l2 h) := by
  intro n
  induction n with
  | zero => intros; exact G_none
  | succ n ih => intro l0 l1 l2 h; exact T_X12_bitsOf_4_b F ih l0 l1 l2 h
set_option maxRecDepth 100000 in
noncomputable def f_X12_bitsOf (F : Nat) (a0 : Int32) (h : Hp) : Option (Int32 × Hp) :=
  f_X12_bitsOf_4 F F a0 0 0 h
set_option maxRecDepth 100000 in
set_option maxHeartbeats 4000000 in
theorem T_X12_bitsOf (F : Nat) (a0 : Int32) (h : Hp) : GM rvI I_X12_bitsOf 1 [.int a0] h (f_X12_bitsOf F a0 h) := by
  delta f_X12_bitsOf
  refine GM_of (lv := [(0, .int a0)]) (by decide +kernel) (Nat.le_of_ble_eq_true rfl) rfl ?_
  refine g_iconst (v := 0) dX12_bitsOf_0 (by decide) ?_
  refine g_istore_n (lv' := [(1, .int 0), (0, .int a0)]) dX12_bitsOf_1 (by decide) rfl ?_
  refine g_iconst (v := 0) dX12_bitsOf_2 (by decide) ?_
  refine g_istore_n (lv' := [(2, .int 0), (1, .int 0), (0, .int a0)]) dX12_bitsOf_3 (by decide) rfl ?_
  refine G_lv [2, 1, 0] rfl ?_
  exact T_X12_bitsOf_4 F F a0 0 0 h
set_option maxRecDepth 100000 in
noncomputable def f_X12_doesBoth (F : Nat) (a0 : Nat) (a1 : Int32) (h : Hp) : Option (Int32 × Hp) :=
  cV 13 h a0 (f_X12_doesAll F a0 a1 0 h) fun v1 h2 => bd (f_X12_bitsOf F v1 h2) fun v3 h4 => cV 13 h4 a0 (f_X12_doesAll F a0 a1 1 h4) fun v5 h6 => bd (f_X12_bitsOf F v5 h6) fun v7 h8 => some ((v3 + v7), h8)
set_option maxRecDepth 100000 in
set_option maxHeartbeats 4000000 in
theorem T_X12_doesBoth (F : Nat) (a0 : Nat) (a1 : Int32) (h : Hp) : GM rvI I_X12_doesBoth 4 [.ref a0, .int a1] h (f_X12_doesBoth F a0 a1 h) := by
  delta f_X12_doesBoth
  refine GM_of (lv := [(0, .ref a0), (1, .int a1)]) (by decide +kernel) (Nat.le_of_ble_eq_true rfl) rfl ?_
  refine g_aload_n 0 dX12_doesBoth_0 rfl ?_
  refine g_iload_n 1 dX12_doesBoth_1 rfl ?_
  refine g_iconst (v := 0) dX12_doesBoth_2 (by decide) ?_
  refine g_callVi (J := I_X12_doesAll) (t := 13) (As := [.int a1, .int 0]) (rest := []) mjv_X12_doesAll ml_RX12_244 ⟨rfl, by decide, by decide⟩ (by decide) rfl rfl (Nat.le_of_ble_eq_true rfl) dX12_doesBoth_3 (T_X12_doesAll F a0 a1 0 h) (fun v1 h2 => ?_)
  refine g_callSi (J := I_X12_bitsOf) (As := [.int v1]) (rest := []) mjs_X12_bitsOf ml_RX12_247 (by decide) rfl rfl (Nat.le_of_ble_eq_true rfl) dX12_doesBoth_6 (T_X12_bitsOf F v1 h2) (fun v3 h4 => ?_)
  refine g_aload_n 0 dX12_doesBoth_9 rfl ?_
  refine g_iload_n 1 dX12_doesBoth_10 rfl ?_
  refine g_iconst (v := 1) dX12_doesBoth_11 (by decide) ?_
  refine g_callVi (J := I_X12_doesAll) (t := 13) (As := [.int a1, .int 1]) (rest := [.int v3]) mjv_X12_doesAll ml_RX12_244 ⟨rfl, by decide, by decide⟩ (by decide) rfl rfl (Nat.le_of_ble_eq_true rfl) dX12_doesBoth_12 (T_X12_doesAll F a0 a1 1 h4) (fun v5 h6 => ?_)
  refine g_callSi (J := I_X12_bitsOf) (As := [.int v5]) (rest := [.int v3]) mjs_X12_bitsOf ml_RX12_247 (by decide) rfl rfl (Nat.le_of_ble_eq_true rfl) dX12_doesBoth_15 (T_X12_bitsOf F v5 h6) (fun v7 h8 => ?_)
  refine g_iadd dX12_doesBoth_18 ?_
  exact g_iret rfl dX12_doesBoth_19
set_option maxRecDepth 100000 in
noncomputable def f_X12_count (F : Nat) (a0 : Nat) (a1 : Int32) (h : Hp) : Option (Int32 × Hp) :=
  pI 13 h a0 0 0 fun h1 => if a1 = 0 then (gR 13 h1 a0 1 fun v3 => aI 20 h1 v3 1 fun v4 => some (v4, h1)) else (if a1 = 1 then (gR 13 h1 a0 1 fun v6 => aI 20 h1 v6 2 fun v7 => some (v7, h1)) else (if a1 = 2 then (cV 13 h1 a0 (f_X12_standNow F a0 h1) fun v9 h10 => bd (f_X12_knownIn F v9 0 h10) fun v11 h12 => some (v11, h12)) else (if a1 = 3 then (cV 13 h1 a0 (f_X12_standNow F a0 h1) fun v14 h15 => bd (f_X12_knownIn F v14 1 h15) fun v16 h17 => some (v16, h17)) else (if a1 = 4 then (gR 13 h1 a0 1 fun v19 => aI 20 h1 v19 51 fun v20 => some (v20, h1)) else (if a1 = 5 then (cV 13 h1 a0 (f_X12_standNow F a0 h1) fun v22 h23 => cV 13 h23 a0 (f_X12_doesBoth F a0 v22 h23) fun v24 h25 => some (v24, h25)) else (if a1 = 6 then (gR 13 h1 a0 1 fun v27 => aI 20 h1 v27 52 fun v28 => some (v28, h1)) else (if a1 = 7 then (gI 13 h1 a0 5 fun v30 => some (v30, h1)) else (if a1 = 8 then (gR 13 h1 a0 1 fun v32 => aI 20 h1 v32 0 fun v33 => some (v33, h1)) else (some ((-1), h1))))))))))
set_option maxRecDepth 100000 in
set_option maxHeartbeats 4000000 in
theorem T_X12_count (F : Nat) (a0 : Nat) (a1 : Int32) (h : Hp) : GM rvI I_X12_count 5 [.ref a0, .int a1] h (f_X12_count F a0 a1 h) := by
  delta f_X12_count
  refine GM_of (lv := [(0, .ref a0), (1, .int a1)]) (by decide +kernel) (Nat.le_of_ble_eq_true rfl) rfl ?_
  refine g_aload_n 0 dX12_count_0 rfl ?_
  refine g_iconst (v := 0) dX12_count_1 (by decide) ?_
  refine g_putI fl_RX12_1 (Or.inl rfl) dX12_count_2 (fun h1 => ?_)
  refine g_iload_n 1 dX12_count_5 rfl ?_
  refine G_ite (fun c2 => ?_) (fun c2 => ?_)
  · refine g_tin 0 (50) dX12_count_6 c2 (by decide) (by decide) (by decide) (by decide) (tgt := 56) ?_
    refine g_aload_n 0 dX12_count_56 rfl ?_
    refine g_getR fl_RX12_13 rfl dX12_count_57 (fun v3 => ?_)
    refine g_iconst (v := 1) dX12_count_60 (by decide) ?_
    refine g_iald dX12_count_61 (fun v4 => ?_)
    exact g_iret rfl dX12_count_62
  · refine G_ite (fun c5 => ?_) (fun c5 => ?_)
    · refine g_tin 1 (57) dX12_count_6 c5 (by decide) (by decide) (by decide) (by decide) (tgt := 63) ?_
      refine g_aload_n 0 dX12_count_63 rfl ?_
      refine g_getR fl_RX12_13 rfl dX12_count_64 (fun v6 => ?_)
      refine g_iconst (v := 2) dX12_count_67 (by decide) ?_
      refine g_iald dX12_count_68 (fun v7 => ?_)
      exact g_iret rfl dX12_count_69
    · refine G_ite (fun c8 => ?_) (fun c8 => ?_)
      · refine g_tin 2 (64) dX12_count_6 c8 (by decide) (by decide) (by decide) (by decide) (tgt := 70) ?_
        refine g_aload_n 0 dX12_count_70 rfl ?_
        refine g_callVi (J := I_X12_standNow) (t := 13) (As := []) (rest := []) mjv_X12_standNow ml_RX12_260 ⟨rfl, by decide, by decide⟩ (by decide) rfl rfl (Nat.le_of_ble_eq_true rfl) dX12_count_71 (T_X12_standNow F a0 h1) (fun v9 h10 => ?_)
        refine g_iconst (v := 0) dX12_count_74 (by decide) ?_
        refine g_callSi (J := I_X12_knownIn) (As := [.int v9, .int 0]) (rest := []) mjs_X12_knownIn ml_RX12_217 (by decide) rfl rfl (Nat.le_of_ble_eq_true rfl) dX12_count_75 (T_X12_knownIn F v9 0 h10) (fun v11 h12 => ?_)
        exact g_iret rfl dX12_count_78
      · refine G_ite (fun c13 => ?_) (fun c13 => ?_)
        · refine g_tin 3 (73) dX12_count_6 c13 (by decide) (by decide) (by decide) (by decide) (tgt := 79) ?_
          refine g_aload_n 0 dX12_count_79 rfl ?_
          refine g_callVi (J := I_X12_standNow) (t := 13) (As := []) (rest := []) mjv_X12_standNow ml_RX12_260 ⟨rfl, by decide, by decide⟩ (by decide) rfl rfl (Nat.le_of_ble_eq_true rfl) dX12_count_80 (T_X12_standNow F a0 h1) (fun v14 h15 => ?_)
          refine g_iconst (v := 1) dX12_count_83 (by decide) ?_
          refine g_callSi (J := I_X12_knownIn) (As := [.int v14, .int 1]) (rest := []) mjs_X12_knownIn ml_RX12_217 (by decide) rfl rfl (Nat.le_of_ble_eq_true rfl) dX12_count_84 (T_X12_knownIn F v14 1 h15) (fun v16 h17 => ?_)
          exact g_iret rfl dX12_count_87
        · refine G_ite (fun c18 => ?_) (fun c18 => ?_)
          · refine g_tin 4 (82) dX12_count_6 c18 (by decide) (by decide) (by decide) (by decide) (tgt := 88) ?_
            refine g_aload_n 0 dX12_count_88 rfl ?_
            refine g_getR fl_RX12_13 rfl dX12_count_89 (fun v19 => ?_)
            refine g_bipush (v := 51) dX12_count_92 (by decide) ?_
            refine g_iald dX12_count_94 (fun v20 => ?_)
            exact g_iret rfl dX12_count_95
          · refine G_ite (fun c21 => ?_) (fun c21 => ?_)
            · refine g_tin 5 (90) dX12_count_6 c21 (by decide) (by decide) (by decide) (by decide) (tgt := 96) ?_
              refine g_aload_n 0 dX12_count_96 rfl ?_
              refine g_aload_n 0 dX12_count_97 rfl ?_
              refine g_callVi (J := I_X12_standNow) (t := 13) (As := []) (rest := [.ref a0]) mjv_X12_standNow ml_RX12_260 ⟨rfl, by decide, by decide⟩ (by decide) rfl rfl (Nat.le_of_ble_eq_true rfl) dX12_count_98 (T_X12_standNow F a0 h1) (fun v22 h23 => ?_)
              refine g_callVi (J := I_X12_doesBoth) (t := 13) (As := [.int v22]) (rest := []) mjv_X12_doesBoth ml_RX12_287 ⟨rfl, by decide, by decide⟩ (by decide) rfl rfl (Nat.le_of_ble_eq_true rfl) dX12_count_101 (T_X12_doesBoth F a0 v22 h23) (fun v24 h25 => ?_)
              exact g_iret rfl dX12_count_104
            · refine G_ite (fun c26 => ?_) (fun c26 => ?_)
              · refine g_tin 6 (99) dX12_count_6 c26 (by decide) (by decide) (by decide) (by decide) (tgt := 105) ?_
                refine g_aload_n 0 dX12_count_105 rfl ?_
                refine g_getR fl_RX12_13 rfl dX12_count_106 (fun v27 => ?_)
                refine g_bipush (v := 52) dX12_count_109 (by decide) ?_
                refine g_iald dX12_count_111 (fun v28 => ?_)
                exact g_iret rfl dX12_count_112
              · refine G_ite (fun c29 => ?_) (fun c29 => ?_)
                · refine g_tin 7 (107) dX12_count_6 c29 (by decide) (by decide) (by decide) (by decide) (tgt := 113) ?_
                  refine g_aload_n 0 dX12_count_113 rfl ?_
                  refine g_getI fl_RX12_76 rfl dX12_count_114 (fun v30 => ?_)
                  exact g_iret rfl dX12_count_117
                · refine G_ite (fun c31 => ?_) (fun c31 => ?_)
                  · refine g_tin 8 (112) dX12_count_6 c31 (by decide) (by decide) (by decide) (by decide) (tgt := 118) ?_
                    refine g_aload_n 0 dX12_count_118 rfl ?_
                    refine g_getR fl_RX12_13 rfl dX12_count_119 (fun v32 => ?_)
                    refine g_iconst (v := 0) dX12_count_122 (by decide) ?_
                    refine g_iald dX12_count_123 (fun v33 => ?_)
                    exact g_iret rfl dX12_count_124
                  · refine g_tout (tgt := 125) dX12_count_6 (by have z0 := lv_neT c2 (show (0 : Int32).toInt = 0 by decide); have z1 := lv_neT c5 (show (1 : Int32).toInt = 1 by decide); have z2 := lv_neT c8 (show (2 : Int32).toInt = 2 by decide); have z3 := lv_neT c13 (show (3 : Int32).toInt = 3 by decide); have z4 := lv_neT c18 (show (4 : Int32).toInt = 4 by decide); have z5 := lv_neT c21 (show (5 : Int32).toInt = 5 by decide); have z6 := lv_neT c26 (show (6 : Int32).toInt = 6 by decide); have z7 := lv_neT c29 (show (7 : Int32).toInt = 7 by decide); have z8 := lv_neT c31 (show (8 : Int32).toInt = 8 by decide); omega) (by decide) ?_
                    refine g_iconst (v := (-1)) dX12_count_125 (by decide) ?_
                    exact g_iret rfl dX12_count_126
set_option maxRecDepth 100000 in
noncomputable def f_X12_days_26_b (F : Nat) (K26 : Nat → Int32 → Int32 → Hp → Option (Int32 × Hp)) (l0 : Nat) (l1 : Int32) (l2 : Int32) (h : Hp) : Option (Int32 × Hp) :=
  if l1 ≤ l2 then (cV 13 h l0 (f_X12_notes F l0 h) fun v8 h9 => cV 13 h9 l0 (f_X12_standNow F l0 h9) fun v10 h11 => cV 13 h11 l0 (f_X12_doesBoth F l0 v10 h11) fun v12 h13 => some (v12, h13)) else (cV 13 h l0 (f_X12_standNow F l0 h) fun v14 h15 => bd (f_X12_dayTo F v14 h15) fun v16 h17 => cV 13 h17 l0 (f_X12_isStand F l0 v16 h17) fun v18 h19 => K26 l0 l1 (l2 + 1) h19)
set_option maxRecDepth 100000 in
set_option maxHeartbeats 4000000 in
theorem T_X12_days_26_b (F : Nat) {K26 : Nat → Int32 → Int32 → Hp → Option (Int32 × Hp)} (hK26 : ∀ (l0 : Nat) (l1 : Int32) (l2 : Int32) (h : Hp), G rvI I_X12_days 5 26 [(0, .ref l0), (1, .int l1), (2, .int l2)] [] h (K26 l0 l1 l2 h)) (l0 : Nat) (l1 : Int32) (l2 : Int32) (h : Hp) : G rvI I_X12_days 5 26 [(0, .ref l0), (1, .int l1), (2, .int l2)] [] h (f_X12_days_26_b F K26 l0 l1 l2 h) := by
  delta f_X12_days_26_b
  refine g_iload_n 2 dX12_days_26 rfl ?_
  refine g_iload_n 1 dX12_days_27 rfl ?_
  refine g_icmp_ge (tgt := 48) dX12_days_28 (by decide) (fun c7 => ?_) (fun c7 => ?_)
  · refine g_aload_n 0 dX12_days_48 rfl ?_
    refine g_callVv (J := I_X12_notes) (t := 13) (As := []) (rest := []) mjv_X12_notes ml_RX12_279 ⟨rfl, by decide, by decide⟩ (by decide) rfl rfl (Nat.le_of_ble_eq_true rfl) dX12_days_49 (T_X12_notes F l0 h) (fun v8 h9 => ?_)
    refine g_aload_n 0 dX12_days_52 rfl ?_
    refine g_aload_n 0 dX12_days_53 rfl ?_
    refine g_callVi (J := I_X12_standNow) (t := 13) (As := []) (rest := [.ref l0]) mjv_X12_standNow ml_RX12_260 ⟨rfl, by decide, by decide⟩ (by decide) rfl rfl (Nat.le_of_ble_eq_true rfl) dX12_days_54 (T_X12_standNow F l0 h9) (fun v10 h11 => ?_)
    refine g_callVi (J := I_X12_doesBoth) (t := 13) (As := [.int v10]) (rest := []) mjv_X12_doesBoth ml_RX12_287 ⟨rfl, by decide, by decide⟩ (by decide) rfl rfl (Nat.le_of_ble_eq_true rfl) dX12_days_57 (T_X12_doesBoth F l0 v10 h11) (fun v12 h13 => ?_)
    exact g_iret rfl dX12_days_60
  · refine g_aload_n 0 dX12_days_31 rfl ?_
    refine g_aload_n 0 dX12_days_32 rfl ?_
    refine g_callVi (J := I_X12_standNow) (t := 13) (As := []) (rest := [.ref l0]) mjv_X12_standNow ml_RX12_260 ⟨rfl, by decide, by decide⟩ (by decide) rfl rfl (Nat.le_of_ble_eq_true rfl) dX12_days_33 (T_X12_standNow F l0 h) (fun v14 h15 => ?_)
    refine g_callSi (J := I_X12_dayTo) (As := [.int v14]) (rest := [.ref l0]) mjs_X12_dayTo ml_RX12_284 (by decide) rfl rfl (Nat.le_of_ble_eq_true rfl) dX12_days_36 (T_X12_dayTo F v14 h15) (fun v16 h17 => ?_)
    refine g_callVv (J := I_X12_isStand) (t := 13) (As := [.int v16]) (rest := []) mjv_X12_isStand ml_RX12_276 ⟨rfl, by decide, by decide⟩ (by decide) rfl rfl (Nat.le_of_ble_eq_true rfl) dX12_days_39 (T_X12_isStand F l0 v16 h17) (fun v18 h19 => ?_)
    refine g_iinc (v' := l2 + 1) (lv' := [(2, .int (l2 + 1)), (0, .ref l0), (1, .int l1)]) 2 dX12_days_42 rfl rfl (by decide) rfl ?_
    refine g_goto (tgt := 26) dX12_days_45 (by decide) ?_
    refine G_lv [1, 2, 0] rfl ?_
    exact hK26 l0 l1 (l2 + 1) h19
set_option maxRecDepth 100000 in
noncomputable def f_X12_days_26 (F : Nat) : Nat → Nat → Int32 → Int32 → Hp → Option (Int32 × Hp)
  | 0, _, _, _, _ => none
  | n + 1, l0, l1, l2, h => f_X12_days_26_b F (f_X12_days_26 F n) l0 l1 l2 h
set_option maxRecDepth 100000 in
set_option maxHeartbeats 4000000 in
theorem T_X12_days_26 (F : Nat) : ∀ (n : Nat) (l0 : Nat) (l1 : Int32) (l2 : Int32) (h : Hp), G rvI I_X12_days 5 26 [(0, .ref l0), (1, .int l1), (2, .int l2)] [] h (f_X12_days_26 F n l0 l1 l2 h) := by
  intro n
  induction n with
  | zero => intros; exact G_none
  | succ n ih => intro l0 l1 l2 h; exact T_X12_days_26_b F ih l0 l1 l2 h
set_option maxRecDepth 100000 in
noncomputable def f_X12_days (F : Nat) (a0 : Nat) (a1 : Int32) (h : Hp) : Option (Int32 × Hp) :=
  pI 13 h a0 0 0 fun h1 => bd (f_X12_within F (a1.toInt64) 1 99 h1) fun v2 h3 => if v2 = 0 then (some ((-3), h3)) else (cV 13 h3 a0 (f_X12_keeps F a0 h3) fun v5 h6 => f_X12_days_26 F F a0 a1 0 h6)
set_option maxRecDepth 100000 in
set_option maxHeartbeats 4000000 in
theorem T_X12_days (F : Nat) (a0 : Nat) (a1 : Int32) (h : Hp) : GM rvI I_X12_days 5 [.ref a0, .int a1] h (f_X12_days F a0 a1 h) := by
  delta f_X12_days
  refine GM_of (lv := [(0, .ref a0), (1, .int a1)]) (by decide +kernel) (Nat.le_of_ble_eq_true rfl) rfl ?_
  refine g_aload_n 0 dX12_days_0 rfl ?_
  refine g_iconst (v := 0) dX12_days_1 (by decide) ?_
  refine g_putI fl_RX12_1 (Or.inl rfl) dX12_days_2 (fun h1 => ?_)
  refine g_iload_n 1 dX12_days_5 rfl ?_
  refine g_i2l dX12_days_6 ?_
  refine g_lconst (v := 1) dX12_days_7 (by decide) ?_
  refine g_ldc2 (v := 99) dX12_days_8 cl_RX12_282 ?_
  refine g_callSi (J := I_X12_within) (As := [.long (a1.toInt64), .long 1, .long 99]) (rest := []) mjs_X12_within ml_RX12_138 (by decide) rfl rfl (Nat.le_of_ble_eq_true rfl) dX12_days_11 (T_X12_within F (a1.toInt64) 1 99 h1) (fun v2 h3 => ?_)
  refine g_if_ne (tgt := 20) dX12_days_14 (by decide) (fun c4 => ?_) (fun c4 => ?_)
  · refine g_bipush (v := (-3)) dX12_days_17 (by decide) ?_
    exact g_iret rfl dX12_days_19
  · refine g_aload_n 0 dX12_days_20 rfl ?_
    refine g_callVv (J := I_X12_keeps) (t := 13) (As := []) (rest := []) mjv_X12_keeps ml_RX12_273 ⟨rfl, by decide, by decide⟩ (by decide) rfl rfl (Nat.le_of_ble_eq_true rfl) dX12_days_21 (T_X12_keeps F a0 h3) (fun v5 h6 => ?_)
    refine g_iconst (v := 0) dX12_days_24 (by decide) ?_
    refine g_istore_n (lv' := [(2, .int 0), (0, .ref a0), (1, .int a1)]) dX12_days_25 (by decide) rfl ?_
    refine G_lv [1, 2, 0] rfl ?_
    exact T_X12_days_26 F F a0 a1 0 h6
set_option maxRecDepth 100000 in
noncomputable def f_X12_does (F : Nat) (a0 : Nat) (a1 : Int32) (h : Hp) : Option (Int32 × Hp) :=
  pI 13 h a0 0 0 fun h1 => bd (f_X12_isTwin F (a1.toInt64) h1) fun v2 h3 => if v2 = 0 then (some ((-2), h3)) else (cV 13 h3 a0 (f_X12_standNow F a0 h3) fun v5 h6 => cV 13 h6 a0 (f_X12_doesAll F a0 v5 a1 h6) fun v7 h8 => some (v7, h8))
set_option maxRecDepth 100000 in
set_option maxHeartbeats 4000000 in
theorem T_X12_does (F : Nat) (a0 : Nat) (a1 : Int32) (h : Hp) : GM rvI I_X12_does 4 [.ref a0, .int a1] h (f_X12_does F a0 a1 h) := by
  delta f_X12_does
  refine GM_of (lv := [(0, .ref a0), (1, .int a1)]) (by decide +kernel) (Nat.le_of_ble_eq_true rfl) rfl ?_
  refine g_aload_n 0 dX12_does_0 rfl ?_
  refine g_iconst (v := 0) dX12_does_1 (by decide) ?_
  refine g_putI fl_RX12_1 (Or.inl rfl) dX12_does_2 (fun h1 => ?_)
  refine g_iload_n 1 dX12_does_5 rfl ?_
  refine g_i2l dX12_does_6 ?_
  refine g_callSi (J := I_X12_isTwin) (As := [.long (a1.toInt64)]) (rest := []) mjs_X12_isTwin ml_RX12_250 (by decide) rfl rfl (Nat.le_of_ble_eq_true rfl) dX12_does_7 (T_X12_isTwin F (a1.toInt64) h1) (fun v2 h3 => ?_)
  refine g_if_eq (tgt := 25) dX12_does_10 (by decide) (fun c4 => ?_) (fun c4 => ?_)
  · refine g_bipush (v := (-2)) dX12_does_25 (by decide) ?_
    exact g_iret rfl dX12_does_27
  · refine g_aload_n 0 dX12_does_13 rfl ?_
    refine g_aload_n 0 dX12_does_14 rfl ?_
    refine g_callVi (J := I_X12_standNow) (t := 13) (As := []) (rest := [.ref a0]) mjv_X12_standNow ml_RX12_260 ⟨rfl, by decide, by decide⟩ (by decide) rfl rfl (Nat.le_of_ble_eq_true rfl) dX12_does_15 (T_X12_standNow F a0 h3) (fun v5 h6 => ?_)
    refine g_iload_n 1 dX12_does_18 rfl ?_
    refine g_callVi (J := I_X12_doesAll) (t := 13) (As := [.int v5, .int a1]) (rest := []) mjv_X12_doesAll ml_RX12_244 ⟨rfl, by decide, by decide⟩ (by decide) rfl rfl (Nat.le_of_ble_eq_true rfl) dX12_does_19 (T_X12_doesAll F a0 v5 a1 h6) (fun v7 h8 => ?_)
    refine g_goto (tgt := 27) dX12_does_22 (by decide) ?_
    exact g_iret rfl dX12_does_27
set_option maxRecDepth 100000 in
noncomputable def f_X12_doing_62 (F : Nat) (K25 : Nat → Int32 → Int32 → Int32 → Hp → Option (Int32 × Hp)) (l0 : Nat) (l1 : Int32) (l4 : Int32) (s0 : Int32) (s1 : Int32) (h : Hp) : Option (Int32 × Hp) :=
  lt (s1 ||| s0) fun x12 => K25 l0 l1 x12 (l4 + 1) h
set_option maxRecDepth 100000 in
set_option maxHeartbeats 4000000 in
theorem T_X12_doing_62 (F : Nat) {K25 : Nat → Int32 → Int32 → Int32 → Hp → Option (Int32 × Hp)} (hK25 : ∀ (l0 : Nat) (l1 : Int32) (l3 : Int32) (l4 : Int32) (h : Hp), G rvI I_X12_doing 3 25 [(0, .ref l0), (1, .int l1), (3, .int l3), (4, .int l4)] [] h (K25 l0 l1 l3 l4 h)) (l0 : Nat) (l1 : Int32) (l4 : Int32) (s0 : Int32) (s1 : Int32) (h : Hp) : G rvI I_X12_doing 3 62 [(0, .ref l0), (1, .int l1), (4, .int l4)] [.int s0, .int s1] h (f_X12_doing_62 F K25 l0 l1 l4 s0 s1 h) := by
  delta f_X12_doing_62
  refine g_ior dX12_doing_62 ?_
  refine G_lti (fun x12 => ?_)
  refine g_istore_n (lv' := [(3, .int x12), (0, .ref l0), (1, .int l1), (4, .int l4)]) dX12_doing_63 (by decide) rfl ?_
  refine g_iinc (v' := l4 + 1) (lv' := [(4, .int (l4 + 1)), (3, .int x12), (0, .ref l0), (1, .int l1)]) 3 dX12_doing_64 rfl rfl (by decide) rfl ?_
  refine g_goto (tgt := 25) dX12_doing_67 (by decide) ?_
  refine G_lv [2, 3, 1, 0] rfl ?_
  exact hK25 l0 l1 x12 (l4 + 1) h
set_option maxRecDepth 100000 in
noncomputable def f_X12_doing_25_b (F : Nat) (K25 : Nat → Int32 → Int32 → Int32 → Hp → Option (Int32 × Hp)) (l0 : Nat) (l1 : Int32) (l3 : Int32) (l4 : Int32) (h : Hp) : Option (Int32 × Hp) :=
  gR 13 h l0 1 fun v6 => aI 20 h v6 1 fun v7 => if v7 ≤ l4 then (some (l3, h)) else (gR 13 h l0 1 fun v9 => aI 20 h v9 ((13 + (4 * l1)) + l4) fun v10 => if v10 ≤ 0 then (f_X12_doing_62 F K25 l0 l1 l4 0 l3 h) else (f_X12_doing_62 F K25 l0 l1 l4 ((1 : Int32) <<< (l4 &&& 31)) l3 h))
set_option maxRecDepth 100000 in
set_option maxHeartbeats 4000000 in
theorem T_X12_doing_25_b (F : Nat) {K25 : Nat → Int32 → Int32 → Int32 → Hp → Option (Int32 × Hp)} (hK25 : ∀ (l0 : Nat) (l1 : Int32) (l3 : Int32) (l4 : Int32) (h : Hp), G rvI I_X12_doing 3 25 [(0, .ref l0), (1, .int l1), (3, .int l3), (4, .int l4)] [] h (K25 l0 l1 l3 l4 h)) (l0 : Nat) (l1 : Int32) (l3 : Int32) (l4 : Int32) (h : Hp) : G rvI I_X12_doing 3 25 [(0, .ref l0), (1, .int l1), (3, .int l3), (4, .int l4)] [] h (f_X12_doing_25_b F K25 l0 l1 l3 l4 h) := by
  delta f_X12_doing_25_b
  refine g_iload 3 dX12_doing_25 rfl ?_
  refine g_aload_n 0 dX12_doing_27 rfl ?_
  refine g_getR fl_RX12_13 rfl dX12_doing_28 (fun v6 => ?_)
  refine g_iconst (v := 1) dX12_doing_31 (by decide) ?_
  refine g_iald dX12_doing_32 (fun v7 => ?_)
  refine g_icmp_ge (tgt := 70) dX12_doing_33 (by decide) (fun c8 => ?_) (fun c8 => ?_)
  · refine g_iload_n 2 dX12_doing_70 rfl ?_
    exact g_iret rfl dX12_doing_71
  · refine g_iload_n 2 dX12_doing_36 rfl ?_
    refine g_aload_n 0 dX12_doing_37 rfl ?_
    refine g_getR fl_RX12_13 rfl dX12_doing_38 (fun v9 => ?_)
    refine g_bipush (v := 13) dX12_doing_41 (by decide) ?_
    refine g_iconst (v := 4) dX12_doing_43 (by decide) ?_
    refine g_iload_n 1 dX12_doing_44 rfl ?_
    refine g_imul dX12_doing_45 ?_
    refine g_iadd dX12_doing_46 ?_
    refine g_iload 3 dX12_doing_47 rfl ?_
    refine g_iadd dX12_doing_49 ?_
    refine g_iald dX12_doing_50 (fun v10 => ?_)
    refine g_if_le (tgt := 61) dX12_doing_51 (by decide) (fun c11 => ?_) (fun c11 => ?_)
    · refine g_iconst (v := 0) dX12_doing_61 (by decide) ?_
      refine G_lv [0, 1, 3] rfl ?_
      exact T_X12_doing_62 F hK25 l0 l1 l4 0 l3 h
    · refine g_iconst (v := 1) dX12_doing_54 (by decide) ?_
      refine g_iload 3 dX12_doing_55 rfl ?_
      refine g_ishl dX12_doing_57 ?_
      refine g_goto (tgt := 62) dX12_doing_58 (by decide) ?_
      refine G_lv [0, 1, 3] rfl ?_
      exact T_X12_doing_62 F hK25 l0 l1 l4 ((1 : Int32) <<< (l4 &&& 31)) l3 h
set_option maxRecDepth 100000 in
noncomputable def f_X12_doing_25 (F : Nat) : Nat → Nat → Int32 → Int32 → Int32 → Hp → Option (Int32 × Hp)
  | 0, _, _, _, _, _ => none
  | n + 1, l0, l1, l3, l4, h => f_X12_doing_25_b F (f_X12_doing_25 F n) l0 l1 l3 l4 h
set_option maxRecDepth 100000 in
set_option maxHeartbeats 4000000 in
theorem T_X12_doing_25 (F : Nat) : ∀ (n : Nat) (l0 : Nat) (l1 : Int32) (l3 : Int32) (l4 : Int32) (h : Hp), G rvI I_X12_doing 3 25 [(0, .ref l0), (1, .int l1), (3, .int l3), (4, .int l4)] [] h (f_X12_doing_25 F n l0 l1 l3 l4 h) := by
  intro n
  induction n with
  | zero => intros; exact G_none
  | succ n ih => intro l0 l1 l3 l4 h; exact T_X12_doing_25_b F ih l0 l1 l3 l4 h
set_option maxRecDepth 100000 in
noncomputable def f_X12_doing_110 (F : Nat) (l0 : Nat) (l1 : Int32) (s0 : Int32) (h : Hp) : Option (Int32 × Hp) :=
  cV 13 h l0 (f_X12_standNow F l0 h) fun v22 h23 => cV 13 h23 l0 (f_X12_doesIn F l0 v22 1 l1 h23) fun v24 h25 => if v24 = 0 then (some ((s0 + 0), h25)) else (some ((s0 + 2), h25))
set_option maxRecDepth 100000 in
set_option maxHeartbeats 4000000 in
theorem T_X12_doing_110 (F : Nat) (l0 : Nat) (l1 : Int32) (s0 : Int32) (h : Hp) : G rvI I_X12_doing 3 110 [(0, .ref l0), (1, .int l1)] [.int s0] h (f_X12_doing_110 F l0 l1 s0 h) := by
  delta f_X12_doing_110
  refine g_aload_n 0 dX12_doing_110 rfl ?_
  refine g_aload_n 0 dX12_doing_111 rfl ?_
  refine g_callVi (J := I_X12_standNow) (t := 13) (As := []) (rest := [.ref l0, .int s0]) mjv_X12_standNow ml_RX12_260 ⟨rfl, by decide, by decide⟩ (by decide) rfl rfl (Nat.le_of_ble_eq_true rfl) dX12_doing_112 (T_X12_standNow F l0 h) (fun v22 h23 => ?_)
  refine g_iconst (v := 1) dX12_doing_115 (by decide) ?_
  refine g_iload_n 1 dX12_doing_116 rfl ?_
  refine g_callVi (J := I_X12_doesIn) (t := 13) (As := [.int v22, .int 1, .int l1]) (rest := [.int s0]) mjv_X12_doesIn ml_RX12_240 ⟨rfl, by decide, by decide⟩ (by decide) rfl rfl (Nat.le_of_ble_eq_true rfl) dX12_doing_117 (T_X12_doesIn F l0 v22 1 l1 h23) (fun v24 h25 => ?_)
  refine g_if_eq (tgt := 127) dX12_doing_120 (by decide) (fun c26 => ?_) (fun c26 => ?_)
  · refine g_iconst (v := 0) dX12_doing_127 (by decide) ?_
    refine g_iadd dX12_doing_128 ?_
    exact g_iret rfl dX12_doing_129
  · refine g_iconst (v := 2) dX12_doing_123 (by decide) ?_
    refine g_goto (tgt := 128) dX12_doing_124 (by decide) ?_
    refine g_iadd dX12_doing_128 ?_
    exact g_iret rfl dX12_doing_129
set_option maxRecDepth 100000 in
noncomputable def f_X12_doing (F : Nat) (a0 : Nat) (a1 : Int32) (a2 : Int32) (h : Hp) : Option (Int32 × Hp) :=
  pI 13 h a0 0 0 fun h1 => cV 13 h1 a0 (f_X12_isDoing F a0 a1 h1) fun v2 h3 => if v2 = 0 then (some ((-2), h3)) else (if a2 = 0 then (f_X12_doing_25 F F a0 a1 0 0 h3) else (if a2 = 1 then (gR 13 h3 a0 1 fun v14 => aI 20 h3 v14 (37 + a1) fun v15 => some (v15, h3)) else (if a2 = 2 then (cV 13 h3 a0 (f_X12_standNow F a0 h3) fun v17 h18 => cV 13 h18 a0 (f_X12_doesIn F a0 v17 0 a1 h18) fun v19 h20 => if v19 = 0 then (f_X12_doing_110 F a0 a1 0 h20) else (f_X12_doing_110 F a0 a1 1 h20)) else (if a2 < 10 then (some ((-2), h3)) else (cV 13 h3 a0 (f_X12_isFact F a0 (((a2 - 10) : Int32).toInt64) h3) fun v28 h29 => if v28 = 0 then (some ((-2), h29)) else (gR 13 h29 a0 1 fun v31 => aI 20 h29 v31 (((13 + (4 * a1)) + a2) - 10) fun v32 => some (v32, h29)))))))
set_option maxRecDepth 100000 in
set_option maxHeartbeats 4000000 in
theorem T_X12_doing (F : Nat) (a0 : Nat) (a1 : Int32) (a2 : Int32) (h : Hp) : GM rvI I_X12_doing 3 [.ref a0, .int a1, .int a2] h (f_X12_doing F a0 a1 a2 h) := by
  delta f_X12_doing
  refine GM_of (lv := [(0, .ref a0), (1, .int a1), (2, .int a2)]) (by decide +kernel) (Nat.le_of_ble_eq_true rfl) rfl ?_
  refine g_aload_n 0 dX12_doing_0 rfl ?_
  refine g_iconst (v := 0) dX12_doing_1 (by decide) ?_
  refine g_putI fl_RX12_1 (Or.inl rfl) dX12_doing_2 (fun h1 => ?_)
  refine g_aload_n 0 dX12_doing_5 rfl ?_
  refine g_iload_n 1 dX12_doing_6 rfl ?_
  refine g_callVi (J := I_X12_isDoing) (t := 13) (As := [.int a1]) (rest := []) mjv_X12_isDoing ml_RX12_257 ⟨rfl, by decide, by decide⟩ (by decide) rfl rfl (Nat.le_of_ble_eq_true rfl) dX12_doing_7 (T_X12_isDoing F a0 a1 h1) (fun v2 h3 => ?_)
  refine g_if_ne (tgt := 16) dX12_doing_10 (by decide) (fun c4 => ?_) (fun c4 => ?_)
  · refine g_bipush (v := (-2)) dX12_doing_13 (by decide) ?_
    exact g_iret rfl dX12_doing_15
  · refine g_iload_n 2 dX12_doing_16 rfl ?_
    refine g_if_ne (tgt := 72) dX12_doing_17 (by decide) (fun c5 => ?_) (fun c5 => ?_)
    · refine g_iconst (v := 0) dX12_doing_20 (by decide) ?_
      refine g_istore_n (lv' := [(3, .int 0), (0, .ref a0), (1, .int a1), (2, .int a2)]) dX12_doing_21 (by decide) rfl ?_
      refine g_iconst (v := 0) dX12_doing_22 (by decide) ?_
      refine g_istore (lv' := [(4, .int 0), (3, .int 0), (0, .ref a0), (1, .int a1), (2, .int a2)]) dX12_doing_23 (by decide) rfl ?_
      refine G_lv [2, 3, 1, 0] rfl ?_
      exact T_X12_doing_25 F F a0 a1 0 0 h3
    · refine g_iload_n 2 dX12_doing_72 rfl ?_
      refine g_iconst (v := 1) dX12_doing_73 (by decide) ?_
      refine g_icmp_ne (tgt := 87) dX12_doing_74 (by decide) (fun c13 => ?_) (fun c13 => ?_)
      · refine g_aload_n 0 dX12_doing_77 rfl ?_
        refine g_getR fl_RX12_13 rfl dX12_doing_78 (fun v14 => ?_)
        refine g_bipush (v := 37) dX12_doing_81 (by decide) ?_
        refine g_iload_n 1 dX12_doing_83 rfl ?_
        refine g_iadd dX12_doing_84 ?_
        refine g_iald dX12_doing_85 (fun v15 => ?_)
        exact g_iret rfl dX12_doing_86
      · refine g_iload_n 2 dX12_doing_87 rfl ?_
        refine g_iconst (v := 2) dX12_doing_88 (by decide) ?_
        refine g_icmp_ne (tgt := 130) dX12_doing_89 (by decide) (fun c16 => ?_) (fun c16 => ?_)
        · refine g_aload_n 0 dX12_doing_92 rfl ?_
          refine g_aload_n 0 dX12_doing_93 rfl ?_
          refine g_callVi (J := I_X12_standNow) (t := 13) (As := []) (rest := [.ref a0]) mjv_X12_standNow ml_RX12_260 ⟨rfl, by decide, by decide⟩ (by decide) rfl rfl (Nat.le_of_ble_eq_true rfl) dX12_doing_94 (T_X12_standNow F a0 h3) (fun v17 h18 => ?_)
          refine g_iconst (v := 0) dX12_doing_97 (by decide) ?_
          refine g_iload_n 1 dX12_doing_98 rfl ?_
          refine g_callVi (J := I_X12_doesIn) (t := 13) (As := [.int v17, .int 0, .int a1]) (rest := []) mjv_X12_doesIn ml_RX12_240 ⟨rfl, by decide, by decide⟩ (by decide) rfl rfl (Nat.le_of_ble_eq_true rfl) dX12_doing_99 (T_X12_doesIn F a0 v17 0 a1 h18) (fun v19 h20 => ?_)
          refine g_if_eq (tgt := 109) dX12_doing_102 (by decide) (fun c21 => ?_) (fun c21 => ?_)
          · refine g_iconst (v := 0) dX12_doing_109 (by decide) ?_
            refine G_lv [0, 1] rfl ?_
            exact T_X12_doing_110 F a0 a1 0 h20
          · refine g_iconst (v := 1) dX12_doing_105 (by decide) ?_
            refine g_goto (tgt := 110) dX12_doing_106 (by decide) ?_
            refine G_lv [0, 1] rfl ?_
            exact T_X12_doing_110 F a0 a1 1 h20
        · refine g_iload_n 2 dX12_doing_130 rfl ?_
          refine g_bipush (v := 10) dX12_doing_131 (by decide) ?_
          refine g_icmp_lt (tgt := 167) dX12_doing_133 (by decide) (fun c27 => ?_) (fun c27 => ?_)
          · refine g_bipush (v := (-2)) dX12_doing_167 (by decide) ?_
            exact g_iret rfl dX12_doing_169
          · refine g_aload_n 0 dX12_doing_136 rfl ?_
            refine g_iload_n 2 dX12_doing_137 rfl ?_
            refine g_bipush (v := 10) dX12_doing_138 (by decide) ?_
            refine g_isub dX12_doing_140 ?_
            refine g_i2l dX12_doing_141 ?_
            refine g_callVi (J := I_X12_isFact) (t := 13) (As := [.long (((a2 - 10) : Int32).toInt64)]) (rest := []) mjv_X12_isFact ml_RX12_254 ⟨rfl, by decide, by decide⟩ (by decide) rfl rfl (Nat.le_of_ble_eq_true rfl) dX12_doing_142 (T_X12_isFact F a0 (((a2 - 10) : Int32).toInt64) h3) (fun v28 h29 => ?_)
            refine g_if_eq (tgt := 167) dX12_doing_145 (by decide) (fun c30 => ?_) (fun c30 => ?_)
            · refine g_bipush (v := (-2)) dX12_doing_167 (by decide) ?_
              exact g_iret rfl dX12_doing_169
            · refine g_aload_n 0 dX12_doing_148 rfl ?_
              refine g_getR fl_RX12_13 rfl dX12_doing_149 (fun v31 => ?_)
              refine g_bipush (v := 13) dX12_doing_152 (by decide) ?_
              refine g_iconst (v := 4) dX12_doing_154 (by decide) ?_
              refine g_iload_n 1 dX12_doing_155 rfl ?_
              refine g_imul dX12_doing_156 ?_
              refine g_iadd dX12_doing_157 ?_
              refine g_iload_n 2 dX12_doing_158 rfl ?_
              refine g_iadd dX12_doing_159 ?_
              refine g_bipush (v := 10) dX12_doing_160 (by decide) ?_
              refine g_isub dX12_doing_162 ?_
              refine g_iald dX12_doing_163 (fun v32 => ?_)
              refine g_goto (tgt := 169) dX12_doing_164 (by decide) ?_
              exact g_iret rfl dX12_doing_169
set_option maxRecDepth 100000 in
noncomputable def f_X12_fault (F : Nat) (a0 : Nat) (a1 : Int32) (h : Hp) : Option (Int32 × Hp) :=
  pI 13 h a0 0 0 fun h1 => if a1 = 0 then (gI 13 h1 a0 13 fun v3 => some (v3, h1)) else (if a1 = 1 then (gI 13 h1 a0 14 fun v5 => some (v5, h1)) else (some ((-1), h1)))
set_option maxRecDepth 100000 in
set_option maxHeartbeats 4000000 in
theorem T_X12_fault (F : Nat) (a0 : Nat) (a1 : Int32) (h : Hp) : GM rvI I_X12_fault 1 [.ref a0, .int a1] h (f_X12_fault F a0 a1 h) := by
  delta f_X12_fault
  refine GM_of (lv := [(0, .ref a0), (1, .int a1)]) (by decide +kernel) (Nat.le_of_ble_eq_true rfl) rfl ?_
  refine g_aload_n 0 dX12_fault_0 rfl ?_
  refine g_iconst (v := 0) dX12_fault_1 (by decide) ?_
  refine g_putI fl_RX12_1 (Or.inl rfl) dX12_fault_2 (fun h1 => ?_)
  refine g_iload_n 1 dX12_fault_5 rfl ?_
  refine g_if_ne (tgt := 16) dX12_fault_6 (by decide) (fun c2 => ?_) (fun c2 => ?_)
  · refine g_aload_n 0 dX12_fault_9 rfl ?_
    refine g_getI fl_RX12_203 rfl dX12_fault_10 (fun v3 => ?_)
    refine g_goto (tgt := 29) dX12_fault_13 (by decide) ?_
    exact g_iret rfl dX12_fault_29
  · refine g_iload_n 1 dX12_fault_16 rfl ?_
    refine g_iconst (v := 1) dX12_fault_17 (by decide) ?_
    refine g_icmp_ne (tgt := 28) dX12_fault_18 (by decide) (fun c4 => ?_) (fun c4 => ?_)
    · refine g_aload_n 0 dX12_fault_21 rfl ?_
      refine g_getI fl_RX12_27 rfl dX12_fault_22 (fun v5 => ?_)
      refine g_goto (tgt := 29) dX12_fault_25 (by decide) ?_
      exact g_iret rfl dX12_fault_29
    · refine g_iconst (v := (-1)) dX12_fault_28 (by decide) ?_
      exact g_iret rfl dX12_fault_29
set_option maxRecDepth 100000 in
noncomputable def f_X12_feed_77 (F : Nat) (K24 : Nat → Int32 → Int32 → Int32 → Int32 → Int32 → Int32 → Hp → Option (Int32 × Hp)) (l0 : Nat) (l1 : Int32) (l2 : Int32) (l3 : Int32) (l4 : Int32) (l5 : Int32) (l6 : Int32) (s0 : Int32) (h : Hp) : Option (Int32 × Hp) :=
  gR 13 h l0 3 fun v10 => gI 13 h l0 5 fun v11 => wI h v10 v11 ((s0 >>> ((24 - (8 * (l6 - l6 / 4 * 4))) &&& 31)) &&& 255) fun h12 => gI 13 h12 l0 5 fun v13 => pI 13 h12 l0 5 (v13 + 1) fun h14 => K24 l0 l1 l2 l3 l4 l5 (l6 + 1) h14
set_option maxRecDepth 100000 in
set_option maxHeartbeats 4000000 in
theorem T_X12_feed_77 (F : Nat) {K24 : Nat → Int32 → Int32 → Int32 → Int32 → Int32 → Int32 → Hp → Option (Int32 × Hp)} (hK24 : ∀ (l0 : Nat) (l1 : Int32) (l2 : Int32) (l3 : Int32) (l4 : Int32) (l5 : Int32) (l6 : Int32) (h : Hp), G rvI I_X12_feed 1 24 [(0, .ref l0), (1, .int l1), (2, .int l2), (3, .int l3), (4, .int l4), (5, .int l5), (6, .int l6)] [] h (K24 l0 l1 l2 l3 l4 l5 l6 h)) (l0 : Nat) (l1 : Int32) (l2 : Int32) (l3 : Int32) (l4 : Int32) (l5 : Int32) (l6 : Int32) (s0 : Int32) (h : Hp) : G rvI I_X12_feed 1 77 [(0, .ref l0), (1, .int l1), (2, .int l2), (3, .int l3), (4, .int l4), (5, .int l5), (6, .int l6)] [.int s0] h (f_X12_feed_77 F K24 l0 l1 l2 l3 l4 l5 l6 s0 h) := by
  delta f_X12_feed_77
  refine g_istore (lv' := [(7, .int s0), (0, .ref l0), (1, .int l1), (2, .int l2), (3, .int l3), (4, .int l4), (5, .int l5), (6, .int l6)]) dX12_feed_77 (by decide) rfl ?_
  refine g_aload_n 1 dX12_feed_79 rfl ?_
  refine g_getR fl_RX12_21 rfl dX12_feed_80 (fun v10 => ?_)
  refine g_aload_n 1 dX12_feed_83 rfl ?_
  refine g_getI fl_RX12_76 rfl dX12_feed_84 (fun v11 => ?_)
  refine g_iload 0 dX12_feed_87 rfl ?_
  refine g_bipush (v := 24) dX12_feed_89 (by decide) ?_
  refine g_bipush (v := 8) dX12_feed_91 (by decide) ?_
  refine g_iload 7 dX12_feed_93 rfl ?_
  refine g_iconst (v := 4) dX12_feed_95 (by decide) ?_
  refine g_irem (by decide) dX12_feed_96 ?_
  refine g_imul dX12_feed_97 ?_
  refine g_isub dX12_feed_98 ?_
  refine g_ishr dX12_feed_99 ?_
  refine g_sipush (v := 255) dX12_feed_100 (by decide) ?_
  refine g_iand dX12_feed_103 ?_
  refine g_iast dX12_feed_104 (fun h12 => ?_)
  refine g_aload_n 1 dX12_feed_105 rfl ?_
  refine g_dup dX12_feed_106 rfl ?_
  refine g_getI fl_RX12_76 rfl dX12_feed_107 (fun v13 => ?_)
  refine g_iconst (v := 1) dX12_feed_110 (by decide) ?_
  refine g_iadd dX12_feed_111 ?_
  refine g_putI fl_RX12_76 (Or.inl rfl) dX12_feed_112 (fun h14 => ?_)
  refine g_iinc (v' := l6 + 1) (lv' := [(6, .int (l6 + 1)), (7, .int s0), (0, .ref l0), (1, .int l1), (2, .int l2), (3, .int l3), (4, .int l4), (5, .int l5)]) 7 dX12_feed_115 rfl rfl (by decide) rfl ?_
  refine g_goto (tgt := 24) dX12_feed_118 (by decide) ?_
  refine G_lv [2, 3, 4, 5, 6, 7, 0] rfl ?_
  exact hK24 l0 l1 l2 l3 l4 l5 (l6 + 1) h14
set_option maxRecDepth 100000 in
noncomputable def f_X12_feed_24_b (F : Nat) (K24 : Nat → Int32 → Int32 → Int32 → Int32 → Int32 → Int32 → Hp → Option (Int32 × Hp)) (l0 : Nat) (l1 : Int32) (l2 : Int32) (l3 : Int32) (l4 : Int32) (l5 : Int32) (l6 : Int32) (h : Hp) : Option (Int32 × Hp) :=
  if 20 ≤ l6 then (gI 13 h l0 5 fun v5 => some (v5, h)) else (if 4 ≤ l6 then (if 8 ≤ l6 then (if 12 ≤ l6 then (if 16 ≤ l6 then (f_X12_feed_77 F K24 l0 l1 l2 l3 l4 l5 l6 l5 h) else (f_X12_feed_77 F K24 l0 l1 l2 l3 l4 l5 l6 l4 h)) else (f_X12_feed_77 F K24 l0 l1 l2 l3 l4 l5 l6 l3 h)) else (f_X12_feed_77 F K24 l0 l1 l2 l3 l4 l5 l6 l2 h)) else (f_X12_feed_77 F K24 l0 l1 l2 l3 l4 l5 l6 l1 h))
set_option maxRecDepth 100000 in
set_option maxHeartbeats 4000000 in
theorem T_X12_feed_24_b (F : Nat) {K24 : Nat → Int32 → Int32 → Int32 → Int32 → Int32 → Int32 → Hp → Option (Int32 × Hp)} (hK24 : ∀ (l0 : Nat) (l1 : Int32) (l2 : Int32) (l3 : Int32) (l4 : Int32) (l5 : Int32) (l6 : Int32) (h : Hp), G rvI I_X12_feed 1 24 [(0, .ref l0), (1, .int l1), (2, .int l2), (3, .int l3), (4, .int l4), (5, .int l5), (6, .int l6)] [] h (K24 l0 l1 l2 l3 l4 l5 l6 h)) (l0 : Nat) (l1 : Int32) (l2 : Int32) (l3 : Int32) (l4 : Int32) (l5 : Int32) (l6 : Int32) (h : Hp) : G rvI I_X12_feed 1 24 [(0, .ref l0), (1, .int l1), (2, .int l2), (3, .int l3), (4, .int l4), (5, .int l5), (6, .int l6)] [] h (f_X12_feed_24_b F K24 l0 l1 l2 l3 l4 l5 l6 h) := by
  delta f_X12_feed_24_b
  refine g_iload 6 dX12_feed_24 rfl ?_
  refine g_bipush (v := 20) dX12_feed_26 (by decide) ?_
  refine g_icmp_ge (tgt := 121) dX12_feed_28 (by decide) (fun c4 => ?_) (fun c4 => ?_)
  · refine g_aload_n 0 dX12_feed_121 rfl ?_
    refine g_getI fl_RX12_76 rfl dX12_feed_122 (fun v5 => ?_)
    exact g_iret rfl dX12_feed_125
  · refine g_iload 6 dX12_feed_31 rfl ?_
    refine g_iconst (v := 4) dX12_feed_33 (by decide) ?_
    refine g_icmp_ge (tgt := 41) dX12_feed_34 (by decide) (fun c6 => ?_) (fun c6 => ?_)
    · refine g_iload 6 dX12_feed_41 rfl ?_
      refine g_bipush (v := 8) dX12_feed_43 (by decide) ?_
      refine g_icmp_ge (tgt := 52) dX12_feed_45 (by decide) (fun c7 => ?_) (fun c7 => ?_)
      · refine g_iload 6 dX12_feed_52 rfl ?_
        refine g_bipush (v := 12) dX12_feed_54 (by decide) ?_
        refine g_icmp_ge (tgt := 63) dX12_feed_56 (by decide) (fun c8 => ?_) (fun c8 => ?_)
        · refine g_iload 6 dX12_feed_63 rfl ?_
          refine g_bipush (v := 16) dX12_feed_65 (by decide) ?_
          refine g_icmp_ge (tgt := 75) dX12_feed_67 (by decide) (fun c9 => ?_) (fun c9 => ?_)
          · refine g_iload 5 dX12_feed_75 rfl ?_
            refine G_lv [0, 1, 2, 3, 4, 5, 6] rfl ?_
            exact T_X12_feed_77 F hK24 l0 l1 l2 l3 l4 l5 l6 l5 h
          · refine g_iload 4 dX12_feed_70 rfl ?_
            refine g_goto (tgt := 77) dX12_feed_72 (by decide) ?_
            refine G_lv [0, 1, 2, 3, 4, 5, 6] rfl ?_
            exact T_X12_feed_77 F hK24 l0 l1 l2 l3 l4 l5 l6 l4 h
        · refine g_iload_n 3 dX12_feed_59 rfl ?_
          refine g_goto (tgt := 77) dX12_feed_60 (by decide) ?_
          refine G_lv [0, 1, 2, 3, 4, 5, 6] rfl ?_
          exact T_X12_feed_77 F hK24 l0 l1 l2 l3 l4 l5 l6 l3 h
      · refine g_iload_n 2 dX12_feed_48 rfl ?_
        refine g_goto (tgt := 77) dX12_feed_49 (by decide) ?_
        refine G_lv [0, 1, 2, 3, 4, 5, 6] rfl ?_
        exact T_X12_feed_77 F hK24 l0 l1 l2 l3 l4 l5 l6 l2 h
    · refine g_iload_n 1 dX12_feed_37 rfl ?_
      refine g_goto (tgt := 77) dX12_feed_38 (by decide) ?_
      refine G_lv [0, 1, 2, 3, 4, 5, 6] rfl ?_
      exact T_X12_feed_77 F hK24 l0 l1 l2 l3 l4 l5 l6 l1 h
set_option maxRecDepth 100000 in
noncomputable def f_X12_feed_24 (F : Nat) : Nat → Nat → Int32 → Int32 → Int32 → Int32 → Int32 → Int32 → Hp → Option (Int32 × Hp)
  | 0, _, _, _, _, _, _, _, _ => none
  | n + 1, l0, l1, l2, l3, l4, l5, l6, h => f_X12_feed_24_b F (f_X12_feed_24 F n) l0 l1 l2 l3 l4 l5 l6 h
set_option maxRecDepth 100000 in
set_option maxHeartbeats 4000000 in
theorem T_X12_feed_24 (F : Nat) : ∀ (n : Nat) (l0 : Nat) (l1 : Int32) (l2 : Int32) (l3 : Int32) (l4 : Int32) (l5 : Int32) (l6 : Int32) (h : Hp), G rvI I_X12_feed 1 24 [(0, .ref l0), (1, .int l1), (2, .int l2), (3, .int l3), (4, .int l4), (5, .int l5), (6, .int l6)] [] h (f_X12_feed_24 F n l0 l1 l2 l3 l4 l5 l6 h) := by
  intro n
  induction n with
  | zero => intros; exact G_none
  | succ n ih => intro l0 l1 l2 l3 l4 l5 l6 h; exact T_X12_feed_24_b F ih l0 l1 l2 l3 l4 l5 l6 h
set_option maxRecDepth 100000 in
noncomputable def f_X12_feed (F : Nat) (a0 : Nat) (a1 : Int32) (a2 : Int32) (a3 : Int32) (a4 : Int32) (a5 : Int32) (h : Hp) : Option (Int32 × Hp) :=
  pI 13 h a0 0 0 fun h1 => gI 13 h1 a0 5 fun v2 => if (v2 + 20) ≤ 900 then (f_X12_feed_24 F F a0 a1 a2 a3 a4 a5 0 h1) else (some ((-5), h1))
set_option maxRecDepth 100000 in
set_option maxHeartbeats 4000000 in
theorem T_X12_feed (F : Nat) (a0 : Nat) (a1 : Int32) (a2 : Int32) (a3 : Int32) (a4 : Int32) (a5 : Int32) (h : Hp) : GM rvI I_X12_feed 1 [.ref a0, .int a1, .int a2, .int a3, .int a4, .int a5] h (f_X12_feed F a0 a1 a2 a3 a4 a5 h) := by
  delta f_X12_feed
  refine GM_of (lv := [(0, .ref a0), (1, .int a1), (2, .int a2), (3, .int a3), (4, .int a4), (5, .int a5)]) (by decide +kernel) (Nat.le_of_ble_eq_true rfl) rfl ?_
  refine g_aload_n 0 dX12_feed_0 rfl ?_
  refine g_iconst (v := 0) dX12_feed_1 (by decide) ?_
  refine g_putI fl_RX12_1 (Or.inl rfl) dX12_feed_2 (fun h1 => ?_)
  refine g_aload_n 0 dX12_feed_5 rfl ?_
  refine g_getI fl_RX12_76 rfl dX12_feed_6 (fun v2 => ?_)
  refine g_bipush (v := 20) dX12_feed_9 (by decide) ?_
  refine g_iadd dX12_feed_11 ?_
  refine g_sipush (v := 900) dX12_feed_12 (by decide) ?_
  refine g_icmp_le (tgt := 21) dX12_feed_15 (by decide) (fun c3 => ?_) (fun c3 => ?_)
  · refine g_iconst (v := 0) dX12_feed_21 (by decide) ?_
    refine g_istore (lv' := [(6, .int 0), (0, .ref a0), (1, .int a1), (2, .int a2), (3, .int a3), (4, .int a4), (5, .int a5)]) dX12_feed_22 (by decide) rfl ?_
    refine G_lv [1, 2, 3, 4, 5, 6, 0] rfl ?_
    exact T_X12_feed_24 F F a0 a1 a2 a3 a4 a5 0 h1
  · refine g_bipush (v := (-5)) dX12_feed_18 (by decide) ?_
    exact g_iret rfl dX12_feed_20
set_option maxRecDepth 100000 in
noncomputable def f_X12_forces (F : Nat) (a0 : Nat) (a1 : Int32) (a2 : Int32) (h : Hp) : Option (Int32 × Hp) :=
  pI 13 h a0 0 0 fun h1 => bd (f_X12_isTwin F (a1.toInt64) h1) fun v2 h3 => if v2 = 0 then (some ((-2), h3)) else (cV 13 h3 a0 (f_X12_isDoing F a0 a2 h3) fun v5 h6 => if v5 = 0 then (some ((-2), h6)) else (cV 13 h6 a0 (f_X12_laysForced F a0 a1 a2 h6) fun v8 h9 => bd (f_X12_toldFar F v8 h9) fun v10 h11 => some (v10, h11)))
set_option maxRecDepth 100000 in
set_option maxHeartbeats 4000000 in
theorem T_X12_forces (F : Nat) (a0 : Nat) (a1 : Int32) (a2 : Int32) (h : Hp) : GM rvI I_X12_forces 9 [.ref a0, .int a1, .int a2] h (f_X12_forces F a0 a1 a2 h) := by
  delta f_X12_forces
  refine GM_of (lv := [(0, .ref a0), (1, .int a1), (2, .int a2)]) (by decide +kernel) (Nat.le_of_ble_eq_true rfl) rfl ?_
  refine g_aload_n 0 dX12_forces_0 rfl ?_
  refine g_iconst (v := 0) dX12_forces_1 (by decide) ?_
  refine g_putI fl_RX12_1 (Or.inl rfl) dX12_forces_2 (fun h1 => ?_)
  refine g_iload_n 1 dX12_forces_5 rfl ?_
  refine g_i2l dX12_forces_6 ?_
  refine g_callSi (J := I_X12_isTwin) (As := [.long (a1.toInt64)]) (rest := []) mjs_X12_isTwin ml_RX12_250 (by decide) rfl rfl (Nat.le_of_ble_eq_true rfl) dX12_forces_7 (T_X12_isTwin F (a1.toInt64) h1) (fun v2 h3 => ?_)
  refine g_if_eq (tgt := 33) dX12_forces_10 (by decide) (fun c4 => ?_) (fun c4 => ?_)
  · refine g_bipush (v := (-2)) dX12_forces_33 (by decide) ?_
    exact g_iret rfl dX12_forces_35
  · refine g_aload_n 0 dX12_forces_13 rfl ?_
    refine g_iload_n 2 dX12_forces_14 rfl ?_
    refine g_callVi (J := I_X12_isDoing) (t := 13) (As := [.int a2]) (rest := []) mjv_X12_isDoing ml_RX12_257 ⟨rfl, by decide, by decide⟩ (by decide) rfl rfl (Nat.le_of_ble_eq_true rfl) dX12_forces_15 (T_X12_isDoing F a0 a2 h3) (fun v5 h6 => ?_)
    refine g_if_eq (tgt := 33) dX12_forces_18 (by decide) (fun c7 => ?_) (fun c7 => ?_)
    · refine g_bipush (v := (-2)) dX12_forces_33 (by decide) ?_
      exact g_iret rfl dX12_forces_35
    · refine g_aload_n 0 dX12_forces_21 rfl ?_
      refine g_iload_n 1 dX12_forces_22 rfl ?_
      refine g_iload_n 2 dX12_forces_23 rfl ?_
      refine g_callVi (J := I_X12_laysForced) (t := 13) (As := [.int a1, .int a2]) (rest := []) mjv_X12_laysForced ml_RX12_431 ⟨rfl, by decide, by decide⟩ (by decide) rfl rfl (Nat.le_of_ble_eq_true rfl) dX12_forces_24 (T_X12_laysForced F a0 a1 a2 h6) (fun v8 h9 => ?_)
      refine g_callSi (J := I_X12_toldFar) (As := [.int v8]) (rest := []) mjs_X12_toldFar ml_RX12_387 (by decide) rfl rfl (Nat.le_of_ble_eq_true rfl) dX12_forces_27 (T_X12_toldFar F v8 h9) (fun v10 h11 => ?_)
      refine g_goto (tgt := 35) dX12_forces_30 (by decide) ?_
      exact g_iret rfl dX12_forces_35
set_option maxRecDepth 100000 in
noncomputable def f_X12_forget (F : Nat) (a0 : Nat) (a1 : Int32) (a2 : Int32) (h : Hp) : Option (Int32 × Hp) :=
  pI 13 h a0 0 0 fun h1 => cV 13 h1 a0 (f_X12_whyForget F a0 (a1.toInt64) (a2.toInt64) h1) fun v2 h3 => if v2 = 0 then (cV 13 h3 a0 (f_X12_keeps F a0 h3) fun v5 h6 => gR 13 h6 a0 1 fun v7 => wI h6 v7 ((43 + (4 * a1)) + a2) 0 fun h8 => cV 13 h8 a0 (f_X12_notes F a0 h8) fun v9 h10 => gR 13 h10 a0 18 fun v11 => aI 20 h10 v11 ((4 * a1) + a2) fun v12 => some (v12, h10)) else (some (((-10) - v2), h3))
set_option maxRecDepth 100000 in
set_option maxHeartbeats 4000000 in
theorem T_X12_forget (F : Nat) (a0 : Nat) (a1 : Int32) (a2 : Int32) (h : Hp) : GM rvI I_X12_forget 4 [.ref a0, .int a1, .int a2] h (f_X12_forget F a0 a1 a2 h) := by
  delta f_X12_forget
  refine GM_of (lv := [(0, .ref a0), (1, .int a1), (2, .int a2)]) (by decide +kernel) (Nat.le_of_ble_eq_true rfl) rfl ?_
  refine g_aload_n 0 dX12_forget_0 rfl ?_
  refine g_iconst (v := 0) dX12_forget_1 (by decide) ?_
  refine g_putI fl_RX12_1 (Or.inl rfl) dX12_forget_2 (fun h1 => ?_)
  refine g_aload_n 0 dX12_forget_5 rfl ?_
  refine g_iload_n 1 dX12_forget_6 rfl ?_
  refine g_i2l dX12_forget_7 ?_
  refine g_iload_n 2 dX12_forget_8 rfl ?_
  refine g_i2l dX12_forget_9 ?_
  refine g_callVi (J := I_X12_whyForget) (t := 13) (As := [.long (a1.toInt64), .long (a2.toInt64)]) (rest := []) mjv_X12_whyForget ml_RX12_290 ⟨rfl, by decide, by decide⟩ (by decide) rfl rfl (Nat.le_of_ble_eq_true rfl) dX12_forget_10 (T_X12_whyForget F a0 (a1.toInt64) (a2.toInt64) h1) (fun v2 h3 => ?_)
  refine g_istore_n (lv' := [(3, .int v2), (0, .ref a0), (1, .int a1), (2, .int a2)]) dX12_forget_13 (by decide) rfl ?_
  refine g_iload_n 0 dX12_forget_14 rfl ?_
  refine g_if_eq (tgt := 23) dX12_forget_15 (by decide) (fun c4 => ?_) (fun c4 => ?_)
  · refine g_aload_n 1 dX12_forget_23 rfl ?_
    refine g_callVv (J := I_X12_keeps) (t := 13) (As := []) (rest := []) mjv_X12_keeps ml_RX12_273 ⟨rfl, by decide, by decide⟩ (by decide) rfl rfl (Nat.le_of_ble_eq_true rfl) dX12_forget_24 (T_X12_keeps F a0 h3) (fun v5 h6 => ?_)
    refine g_aload_n 1 dX12_forget_27 rfl ?_
    refine g_getR fl_RX12_13 rfl dX12_forget_28 (fun v7 => ?_)
    refine g_bipush (v := 43) dX12_forget_31 (by decide) ?_
    refine g_iconst (v := 4) dX12_forget_33 (by decide) ?_
    refine g_iload_n 2 dX12_forget_34 rfl ?_
    refine g_imul dX12_forget_35 ?_
    refine g_iadd dX12_forget_36 ?_
    refine g_iload_n 3 dX12_forget_37 rfl ?_
    refine g_iadd dX12_forget_38 ?_
    refine g_iconst (v := 0) dX12_forget_39 (by decide) ?_
    refine g_iast dX12_forget_40 (fun h8 => ?_)
    refine g_aload_n 1 dX12_forget_41 rfl ?_
    refine g_callVv (J := I_X12_notes) (t := 13) (As := []) (rest := []) mjv_X12_notes ml_RX12_279 ⟨rfl, by decide, by decide⟩ (by decide) rfl rfl (Nat.le_of_ble_eq_true rfl) dX12_forget_42 (T_X12_notes F a0 h8) (fun v9 h10 => ?_)
    refine g_aload_n 1 dX12_forget_45 rfl ?_
    refine g_getR fl_RX12_36 rfl dX12_forget_46 (fun v11 => ?_)
    refine g_iconst (v := 4) dX12_forget_49 (by decide) ?_
    refine g_iload_n 2 dX12_forget_50 rfl ?_
    refine g_imul dX12_forget_51 ?_
    refine g_iload_n 3 dX12_forget_52 rfl ?_
    refine g_iadd dX12_forget_53 ?_
    refine g_iald dX12_forget_54 (fun v12 => ?_)
    exact g_iret rfl dX12_forget_55
  · refine g_bipush (v := (-10)) dX12_forget_18 (by decide) ?_
    refine g_iload_n 0 dX12_forget_20 rfl ?_
    refine g_isub dX12_forget_21 ?_
    exact g_iret rfl dX12_forget_22
set_option maxRecDepth 100000 in
noncomputable def f_X12_is (F : Nat) (a0 : Nat) (a1 : Int32) (h : Hp) : Option (Int32 × Hp) :=
  gI 13 h a0 11 fun v1 => if v1 = 0 then (gI 13 h a0 9 fun v3 => if v3 = a1 then (some (1, h)) else (some (0, h))) else (some (0, h))
set_option maxRecDepth 100000 in
set_option maxHeartbeats 4000000 in
theorem T_X12_is (F : Nat) (a0 : Nat) (a1 : Int32) (h : Hp) : GM rvI I_X12_is 1 [.ref a0, .int a1] h (f_X12_is F a0 a1 h) := by
  delta f_X12_is
  refine GM_of (lv := [(0, .ref a0), (1, .int a1)]) (by decide +kernel) (Nat.le_of_ble_eq_true rfl) rfl ?_
  refine g_aload_n 0 dX12_is_0 rfl ?_
  refine g_getI fl_RX12_122 rfl dX12_is_1 (fun v1 => ?_)
  refine g_if_ne (tgt := 19) dX12_is_4 (by decide) (fun c2 => ?_) (fun c2 => ?_)
  · refine g_aload_n 0 dX12_is_7 rfl ?_
    refine g_getI fl_RX12_104 rfl dX12_is_8 (fun v3 => ?_)
    refine g_iload_n 1 dX12_is_11 rfl ?_
    refine g_icmp_ne (tgt := 19) dX12_is_12 (by decide) (fun c4 => ?_) (fun c4 => ?_)
    · refine g_iconst (v := 1) dX12_is_15 (by decide) ?_
      refine g_goto (tgt := 20) dX12_is_16 (by decide) ?_
      exact g_zret (ty := .boolean) rfl rfl dX12_is_20
    · refine g_iconst (v := 0) dX12_is_19 (by decide) ?_
      exact g_zret (ty := .boolean) rfl rfl dX12_is_20
  · refine g_iconst (v := 0) dX12_is_19 (by decide) ?_
    exact g_zret (ty := .boolean) rfl rfl dX12_is_20
