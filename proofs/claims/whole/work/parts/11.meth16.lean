/-! L2, by program (wip/whole/gen/gen.py) -/
set_option maxRecDepth 100000 in
noncomputable def f_X12_laysReached_136 (F : Nat) (K37 : Nat → Int32 → Int32 → Hp → Option (Unit × Hp)) (l0 : Nat) (l1 : Int32) (l3 : Int32) (h : Hp) : Option (Unit × Hp) :=
  K37 l0 l1 (l3 + 1) h
set_option maxRecDepth 100000 in
set_option maxHeartbeats 4000000 in
theorem T_X12_laysReached_136 (F : Nat) {K37 : Nat → Int32 → Int32 → Hp → Option (Unit × Hp)} (hK37 : ∀ (l0 : Nat) (l1 : Int32) (l3 : Int32) (h : Hp), G rvV I_X12_laysReached 7 37 [(0, .ref l0), (1, .int l1), (3, .int l3)] [] h (K37 l0 l1 l3 h)) (l0 : Nat) (l1 : Int32) (l3 : Int32) (h : Hp) : G rvV I_X12_laysReached 7 136 [(0, .ref l0), (1, .int l1), (3, .int l3)] [] h (f_X12_laysReached_136 F K37 l0 l1 l3 h) := by
  delta f_X12_laysReached_136
  refine g_iinc (v' := l3 + 1) (lv' := [(3, .int (l3 + 1)), (0, .ref l0), (1, .int l1)]) 2 dX12_laysReached_136 rfl rfl (by decide) rfl ?_
  refine g_goto (tgt := 37) dX12_laysReached_139 (by decide) ?_
  refine G_lv [1, 2, 0] rfl ?_
  exact hK37 l0 l1 (l3 + 1) h
set_option maxRecDepth 100000 in
noncomputable def f_X12_laysReached_130 (F : Nat) (K37 : Nat → Int32 → Int32 → Hp → Option (Unit × Hp)) (K46 : Nat → Int32 → Int32 → Int32 → Hp → Option (Unit × Hp)) (l0 : Nat) (l1 : Int32) (l3 : Int32) (l4 : Int32) (h : Hp) : Option (Unit × Hp) :=
  K46 l0 l1 l3 (l4 + 1) h
set_option maxRecDepth 100000 in
set_option maxHeartbeats 4000000 in
theorem T_X12_laysReached_130 (F : Nat) {K37 : Nat → Int32 → Int32 → Hp → Option (Unit × Hp)} (hK37 : ∀ (l0 : Nat) (l1 : Int32) (l3 : Int32) (h : Hp), G rvV I_X12_laysReached 7 37 [(0, .ref l0), (1, .int l1), (3, .int l3)] [] h (K37 l0 l1 l3 h)) {K46 : Nat → Int32 → Int32 → Int32 → Hp → Option (Unit × Hp)} (hK46 : ∀ (l0 : Nat) (l1 : Int32) (l3 : Int32) (l4 : Int32) (h : Hp), G rvV I_X12_laysReached 7 46 [(0, .ref l0), (1, .int l1), (3, .int l3), (4, .int l4)] [] h (K46 l0 l1 l3 l4 h)) (l0 : Nat) (l1 : Int32) (l3 : Int32) (l4 : Int32) (h : Hp) : G rvV I_X12_laysReached 7 130 [(0, .ref l0), (1, .int l1), (3, .int l3), (4, .int l4)] [] h (f_X12_laysReached_130 F K37 K46 l0 l1 l3 l4 h) := by
  delta f_X12_laysReached_130
  refine g_iinc (v' := l4 + 1) (lv' := [(4, .int (l4 + 1)), (0, .ref l0), (1, .int l1), (3, .int l3)]) 3 dX12_laysReached_130 rfl rfl (by decide) rfl ?_
  refine g_goto (tgt := 46) dX12_laysReached_133 (by decide) ?_
  refine G_lv [1, 2, 3, 0] rfl ?_
  exact hK46 l0 l1 l3 (l4 + 1) h
set_option maxRecDepth 100000 in
noncomputable def f_X12_laysReached_114 (F : Nat) (K37 : Nat → Int32 → Int32 → Hp → Option (Unit × Hp)) (K46 : Nat → Int32 → Int32 → Int32 → Hp → Option (Unit × Hp)) (l0 : Nat) (l1 : Int32) (l3 : Int32) (l4 : Int32) (s0 : Int32) (h : Hp) : Option (Unit × Hp) :=
  if s0 = (-1) then (f_X12_laysReached_130 F K37 K46 l0 l1 l3 l4 h) else (gR 13 h l0 21 fun v18 => wZ h v18 s0 1 fun h19 => f_X12_laysReached_130 F K37 K46 l0 l1 l3 l4 h19)
set_option maxRecDepth 100000 in
set_option maxHeartbeats 4000000 in
theorem T_X12_laysReached_114 (F : Nat) {K37 : Nat → Int32 → Int32 → Hp → Option (Unit × Hp)} (hK37 : ∀ (l0 : Nat) (l1 : Int32) (l3 : Int32) (h : Hp), G rvV I_X12_laysReached 7 37 [(0, .ref l0), (1, .int l1), (3, .int l3)] [] h (K37 l0 l1 l3 h)) {K46 : Nat → Int32 → Int32 → Int32 → Hp → Option (Unit × Hp)} (hK46 : ∀ (l0 : Nat) (l1 : Int32) (l3 : Int32) (l4 : Int32) (h : Hp), G rvV I_X12_laysReached 7 46 [(0, .ref l0), (1, .int l1), (3, .int l3), (4, .int l4)] [] h (K46 l0 l1 l3 l4 h)) (l0 : Nat) (l1 : Int32) (l3 : Int32) (l4 : Int32) (s0 : Int32) (h : Hp) : G rvV I_X12_laysReached 7 114 [(0, .ref l0), (1, .int l1), (3, .int l3), (4, .int l4)] [.int s0] h (f_X12_laysReached_114 F K37 K46 l0 l1 l3 l4 s0 h) := by
  delta f_X12_laysReached_114
  refine g_istore (lv' := [(5, .int s0), (0, .ref l0), (1, .int l1), (3, .int l3), (4, .int l4)]) dX12_laysReached_114 (by decide) rfl ?_
  refine g_iload 0 dX12_laysReached_116 rfl ?_
  refine g_iconst (v := (-1)) dX12_laysReached_118 (by decide) ?_
  refine g_icmp_eq (tgt := 130) dX12_laysReached_119 (by decide) (fun c17 => ?_) (fun c17 => ?_)
  · refine G_lv [1, 2, 3, 4] rfl ?_
    exact T_X12_laysReached_130 F hK37 hK46 l0 l1 l3 l4 h
  · refine g_aload_n 1 dX12_laysReached_122 rfl ?_
    refine g_getR fl_RX12_40 rfl dX12_laysReached_123 (fun v18 => ?_)
    refine g_iload 0 dX12_laysReached_126 rfl ?_
    refine g_iconst (v := 1) dX12_laysReached_128 (by decide) ?_
    refine g_zast dX12_laysReached_129 (fun h19 => ?_)
    refine G_lv [1, 2, 3, 4] rfl ?_
    exact T_X12_laysReached_130 F hK37 hK46 l0 l1 l3 l4 h19
set_option maxRecDepth 100000 in
noncomputable def f_X12_laysReached_88 (F : Nat) (K37 : Nat → Int32 → Int32 → Hp → Option (Unit × Hp)) (K46 : Nat → Int32 → Int32 → Int32 → Hp → Option (Unit × Hp)) (l0 : Nat) (l1 : Int32) (l3 : Int32) (l4 : Int32) (h : Hp) : Option (Unit × Hp) :=
  bd (f_X12_isIn F (l1.toInt64) l4 h) fun v14 h15 => if v14 = 0 then (f_X12_laysReached_114 F K37 K46 l0 l1 l3 l4 (-1) h15) else (gR 13 h15 l0 22 fun v20 => aI 20 h15 v20 ((9 * l3) + l4) fun v21 => f_X12_laysReached_114 F K37 K46 l0 l1 l3 l4 v21 h15)
set_option maxRecDepth 100000 in
set_option maxHeartbeats 4000000 in
theorem T_X12_laysReached_88 (F : Nat) {K37 : Nat → Int32 → Int32 → Hp → Option (Unit × Hp)} (hK37 : ∀ (l0 : Nat) (l1 : Int32) (l3 : Int32) (h : Hp), G rvV I_X12_laysReached 7 37 [(0, .ref l0), (1, .int l1), (3, .int l3)] [] h (K37 l0 l1 l3 h)) {K46 : Nat → Int32 → Int32 → Int32 → Hp → Option (Unit × Hp)} (hK46 : ∀ (l0 : Nat) (l1 : Int32) (l3 : Int32) (l4 : Int32) (h : Hp), G rvV I_X12_laysReached 7 46 [(0, .ref l0), (1, .int l1), (3, .int l3), (4, .int l4)] [] h (K46 l0 l1 l3 l4 h)) (l0 : Nat) (l1 : Int32) (l3 : Int32) (l4 : Int32) (h : Hp) : G rvV I_X12_laysReached 7 88 [(0, .ref l0), (1, .int l1), (3, .int l3), (4, .int l4)] [] h (f_X12_laysReached_88 F K37 K46 l0 l1 l3 l4 h) := by
  delta f_X12_laysReached_88
  refine g_iload_n 1 dX12_laysReached_88 rfl ?_
  refine g_i2l dX12_laysReached_89 ?_
  refine g_iload 3 dX12_laysReached_90 rfl ?_
  refine g_callSi (J := I_X12_isIn) (As := [.long (l1.toInt64), .int l4]) (rest := []) mjs_X12_isIn ml_RX12_236 (by decide) rfl rfl (Nat.le_of_ble_eq_true rfl) dX12_laysReached_92 (T_X12_isIn F (l1.toInt64) l4 h) (fun v14 h15 => ?_)
  refine g_if_eq (tgt := 113) dX12_laysReached_95 (by decide) (fun c16 => ?_) (fun c16 => ?_)
  · refine g_iconst (v := (-1)) dX12_laysReached_113 (by decide) ?_
    refine G_lv [0, 1, 2, 3] rfl ?_
    exact T_X12_laysReached_114 F hK37 hK46 l0 l1 l3 l4 (-1) h15
  · refine g_aload_n 0 dX12_laysReached_98 rfl ?_
    refine g_getR fl_RX12_44 rfl dX12_laysReached_99 (fun v20 => ?_)
    refine g_bipush (v := 9) dX12_laysReached_102 (by decide) ?_
    refine g_iload_n 2 dX12_laysReached_104 rfl ?_
    refine g_imul dX12_laysReached_105 ?_
    refine g_iload 3 dX12_laysReached_106 rfl ?_
    refine g_iadd dX12_laysReached_108 ?_
    refine g_iald dX12_laysReached_109 (fun v21 => ?_)
    refine g_goto (tgt := 114) dX12_laysReached_110 (by decide) ?_
    refine G_lv [0, 1, 2, 3] rfl ?_
    exact T_X12_laysReached_114 F hK37 hK46 l0 l1 l3 l4 v21 h15
set_option maxRecDepth 100000 in
noncomputable def f_X12_laysReached_46_b (F : Nat) (K37 : Nat → Int32 → Int32 → Hp → Option (Unit × Hp)) (K46 : Nat → Int32 → Int32 → Int32 → Hp → Option (Unit × Hp)) (l0 : Nat) (l1 : Int32) (l3 : Int32) (l4 : Int32) (h : Hp) : Option (Unit × Hp) :=
  if 9 ≤ l4 then (f_X12_laysReached_136 F K37 l0 l1 l3 h) else (gR 13 h l0 21 fun v6 => aI 22 h v6 l3 fun v7 => if v7 = 0 then (f_X12_laysReached_136 F K37 l0 l1 l3 h) else (if l1 = 511 then (gR 13 h l0 22 fun v10 => cV 13 h l0 (f_X12_movedTo F l0 l3 l4 h) fun v11 h12 => wI h12 v10 ((9 * l3) + l4) v11 fun h13 => f_X12_laysReached_88 F K37 K46 l0 l1 l3 l4 h13) else (f_X12_laysReached_88 F K37 K46 l0 l1 l3 l4 h)))
set_option maxRecDepth 100000 in
set_option maxHeartbeats 4000000 in
theorem T_X12_laysReached_46_b (F : Nat) {K37 : Nat → Int32 → Int32 → Hp → Option (Unit × Hp)} (hK37 : ∀ (l0 : Nat) (l1 : Int32) (l3 : Int32) (h : Hp), G rvV I_X12_laysReached 7 37 [(0, .ref l0), (1, .int l1), (3, .int l3)] [] h (K37 l0 l1 l3 h)) {K46 : Nat → Int32 → Int32 → Int32 → Hp → Option (Unit × Hp)} (hK46 : ∀ (l0 : Nat) (l1 : Int32) (l3 : Int32) (l4 : Int32) (h : Hp), G rvV I_X12_laysReached 7 46 [(0, .ref l0), (1, .int l1), (3, .int l3), (4, .int l4)] [] h (K46 l0 l1 l3 l4 h)) (l0 : Nat) (l1 : Int32) (l3 : Int32) (l4 : Int32) (h : Hp) : G rvV I_X12_laysReached 7 46 [(0, .ref l0), (1, .int l1), (3, .int l3), (4, .int l4)] [] h (f_X12_laysReached_46_b F K37 K46 l0 l1 l3 l4 h) := by
  delta f_X12_laysReached_46_b
  refine g_iload 3 dX12_laysReached_46 rfl ?_
  refine g_bipush (v := 9) dX12_laysReached_48 (by decide) ?_
  refine g_icmp_ge (tgt := 136) dX12_laysReached_50 (by decide) (fun c5 => ?_) (fun c5 => ?_)
  · refine G_lv [0, 1, 2] rfl ?_
    exact T_X12_laysReached_136 F hK37 l0 l1 l3 h
  · refine g_aload_n 0 dX12_laysReached_53 rfl ?_
    refine g_getR fl_RX12_40 rfl dX12_laysReached_54 (fun v6 => ?_)
    refine g_iload_n 2 dX12_laysReached_57 rfl ?_
    refine g_zald dX12_laysReached_58 (fun v7 => ?_)
    refine g_if_eq (tgt := 136) dX12_laysReached_59 (by decide) (fun c8 => ?_) (fun c8 => ?_)
    · refine G_lv [0, 1, 2] rfl ?_
      exact T_X12_laysReached_136 F hK37 l0 l1 l3 h
    · refine g_iload_n 1 dX12_laysReached_62 rfl ?_
      refine g_sipush (v := 511) dX12_laysReached_63 (by decide) ?_
      refine g_icmp_ne (tgt := 88) dX12_laysReached_66 (by decide) (fun c9 => ?_) (fun c9 => ?_)
      · refine g_aload_n 0 dX12_laysReached_69 rfl ?_
        refine g_getR fl_RX12_44 rfl dX12_laysReached_70 (fun v10 => ?_)
        refine g_bipush (v := 9) dX12_laysReached_73 (by decide) ?_
        refine g_iload_n 2 dX12_laysReached_75 rfl ?_
        refine g_imul dX12_laysReached_76 ?_
        refine g_iload 3 dX12_laysReached_77 rfl ?_
        refine g_iadd dX12_laysReached_79 ?_
        refine g_aload_n 0 dX12_laysReached_80 rfl ?_
        refine g_iload_n 2 dX12_laysReached_81 rfl ?_
        refine g_iload 3 dX12_laysReached_82 rfl ?_
        refine g_callVi (J := I_X12_movedTo) (t := 13) (As := [.int l3, .int l4]) (rest := [.int ((9 * l3) + l4), .ref v10]) mjv_X12_movedTo ml_RX12_342 ⟨rfl, by decide, by decide⟩ (by decide) rfl rfl (Nat.le_of_ble_eq_true rfl) dX12_laysReached_84 (T_X12_movedTo F l0 l3 l4 h) (fun v11 h12 => ?_)
        refine g_iast dX12_laysReached_87 (fun h13 => ?_)
        refine G_lv [0, 1, 2, 3] rfl ?_
        exact T_X12_laysReached_88 F hK37 hK46 l0 l1 l3 l4 h13
      · refine G_lv [0, 1, 2, 3] rfl ?_
        exact T_X12_laysReached_88 F hK37 hK46 l0 l1 l3 l4 h
set_option maxRecDepth 100000 in
noncomputable def f_X12_laysReached_46 (F : Nat) (K37 : Nat → Int32 → Int32 → Hp → Option (Unit × Hp)) : Nat → Nat → Int32 → Int32 → Int32 → Hp → Option (Unit × Hp)
  | 0, _, _, _, _, _ => none
  | n + 1, l0, l1, l3, l4, h => f_X12_laysReached_46_b F K37 (f_X12_laysReached_46 F K37 n) l0 l1 l3 l4 h
set_option maxRecDepth 100000 in
set_option maxHeartbeats 4000000 in
theorem T_X12_laysReached_46 (F : Nat) {K37 : Nat → Int32 → Int32 → Hp → Option (Unit × Hp)} (hK37 : ∀ (l0 : Nat) (l1 : Int32) (l3 : Int32) (h : Hp), G rvV I_X12_laysReached 7 37 [(0, .ref l0), (1, .int l1), (3, .int l3)] [] h (K37 l0 l1 l3 h)) : ∀ (n : Nat) (l0 : Nat) (l1 : Int32) (l3 : Int32) (l4 : Int32) (h : Hp), G rvV I_X12_laysReached 7 46 [(0, .ref l0), (1, .int l1), (3, .int l3), (4, .int l4)] [] h (f_X12_laysReached_46 F K37 n l0 l1 l3 l4 h) := by
  intro n
  induction n with
  | zero => intros; exact G_none
  | succ n ih => intro l0 l1 l3 l4 h; exact T_X12_laysReached_46_b F hK37 ih l0 l1 l3 l4 h
set_option maxRecDepth 100000 in
noncomputable def f_X12_laysReached_37_b (F : Nat) (K37 : Nat → Int32 → Int32 → Hp → Option (Unit × Hp)) (l0 : Nat) (l1 : Int32) (l3 : Int32) (h : Hp) : Option (Unit × Hp) :=
  if 65536 ≤ l3 then (some ((), h)) else (f_X12_laysReached_46 F K37 F l0 l1 l3 0 h)
set_option maxRecDepth 100000 in
set_option maxHeartbeats 4000000 in
theorem T_X12_laysReached_37_b (F : Nat) {K37 : Nat → Int32 → Int32 → Hp → Option (Unit × Hp)} (hK37 : ∀ (l0 : Nat) (l1 : Int32) (l3 : Int32) (h : Hp), G rvV I_X12_laysReached 7 37 [(0, .ref l0), (1, .int l1), (3, .int l3)] [] h (K37 l0 l1 l3 h)) (l0 : Nat) (l1 : Int32) (l3 : Int32) (h : Hp) : G rvV I_X12_laysReached 7 37 [(0, .ref l0), (1, .int l1), (3, .int l3)] [] h (f_X12_laysReached_37_b F K37 l0 l1 l3 h) := by
  delta f_X12_laysReached_37_b
  refine g_iload_n 2 dX12_laysReached_37 rfl ?_
  refine g_ldc (v := 65536) dX12_laysReached_38 co_RX12_39 ?_
  refine g_icmp_ge (tgt := 142) dX12_laysReached_40 (by decide) (fun c4 => ?_) (fun c4 => ?_)
  · exact g_vret rfl dX12_laysReached_142
  · refine g_iconst (v := 0) dX12_laysReached_43 (by decide) ?_
    refine g_istore (lv' := [(4, .int 0), (0, .ref l0), (1, .int l1), (3, .int l3)]) dX12_laysReached_44 (by decide) rfl ?_
    refine G_lv [1, 2, 3, 0] rfl ?_
    exact T_X12_laysReached_46 F hK37 F l0 l1 l3 0 h
set_option maxRecDepth 100000 in
noncomputable def f_X12_laysReached_37 (F : Nat) : Nat → Nat → Int32 → Int32 → Hp → Option (Unit × Hp)
  | 0, _, _, _, _ => none
  | n + 1, l0, l1, l3, h => f_X12_laysReached_37_b F (f_X12_laysReached_37 F n) l0 l1 l3 h
set_option maxRecDepth 100000 in
set_option maxHeartbeats 4000000 in
theorem T_X12_laysReached_37 (F : Nat) : ∀ (n : Nat) (l0 : Nat) (l1 : Int32) (l3 : Int32) (h : Hp), G rvV I_X12_laysReached 7 37 [(0, .ref l0), (1, .int l1), (3, .int l3)] [] h (f_X12_laysReached_37 F n l0 l1 l3 h) := by
  intro n
  induction n with
  | zero => intros; exact G_none
  | succ n ih => intro l0 l1 l3 h; exact T_X12_laysReached_37_b F ih l0 l1 l3 h
set_option maxRecDepth 100000 in
noncomputable def f_X12_laysReached_28 (F : Nat) (K7 : Nat → Int32 → Int32 → Int32 → Hp → Option (Unit × Hp)) (l0 : Nat) (l1 : Int32) (l2 : Int32) (l3 : Int32) (s0 : Int32) (s1 : Int32) (s2 : Nat) (h : Hp) : Option (Unit × Hp) :=
  wZ h s2 s1 s0 fun h24 => K7 l0 l1 l2 (l3 + 1) h24
set_option maxRecDepth 100000 in
set_option maxHeartbeats 4000000 in
theorem T_X12_laysReached_28 (F : Nat) {K7 : Nat → Int32 → Int32 → Int32 → Hp → Option (Unit × Hp)} (hK7 : ∀ (l0 : Nat) (l1 : Int32) (l2 : Int32) (l3 : Int32) (h : Hp), G rvV I_X12_laysReached 7 7 [(0, .ref l0), (1, .int l1), (2, .int l2), (3, .int l3)] [] h (K7 l0 l1 l2 l3 h)) (l0 : Nat) (l1 : Int32) (l2 : Int32) (l3 : Int32) (s0 : Int32) (s1 : Int32) (s2 : Nat) (h : Hp) : G rvV I_X12_laysReached 7 28 [(0, .ref l0), (1, .int l1), (2, .int l2), (3, .int l3)] [.int s0, .int s1, .ref s2] h (f_X12_laysReached_28 F K7 l0 l1 l2 l3 s0 s1 s2 h) := by
  delta f_X12_laysReached_28
  refine g_zast dX12_laysReached_28 (fun h24 => ?_)
  refine g_iinc (v' := l3 + 1) (lv' := [(3, .int (l3 + 1)), (0, .ref l0), (1, .int l1), (2, .int l2)]) 3 dX12_laysReached_29 rfl rfl (by decide) rfl ?_
  refine g_goto (tgt := 7) dX12_laysReached_32 (by decide) ?_
  refine G_lv [1, 2, 3, 0] rfl ?_
  exact hK7 l0 l1 l2 (l3 + 1) h24
set_option maxRecDepth 100000 in
noncomputable def f_X12_laysReached_7_b (F : Nat) (K7 : Nat → Int32 → Int32 → Int32 → Hp → Option (Unit × Hp)) (l0 : Nat) (l1 : Int32) (l2 : Int32) (l3 : Int32) (h : Hp) : Option (Unit × Hp) :=
  if 65536 ≤ l3 then (f_X12_laysReached_37 F F l0 l1 l2 h) else (gR 13 h l0 21 fun v22 => if l3 = l2 then (f_X12_laysReached_28 F K7 l0 l1 l2 l3 1 l3 v22 h) else (f_X12_laysReached_28 F K7 l0 l1 l2 l3 0 l3 v22 h))
set_option maxRecDepth 100000 in
set_option maxHeartbeats 4000000 in
theorem T_X12_laysReached_7_b (F : Nat) {K7 : Nat → Int32 → Int32 → Int32 → Hp → Option (Unit × Hp)} (hK7 : ∀ (l0 : Nat) (l1 : Int32) (l2 : Int32) (l3 : Int32) (h : Hp), G rvV I_X12_laysReached 7 7 [(0, .ref l0), (1, .int l1), (2, .int l2), (3, .int l3)] [] h (K7 l0 l1 l2 l3 h)) (l0 : Nat) (l1 : Int32) (l2 : Int32) (l3 : Int32) (h : Hp) : G rvV I_X12_laysReached 7 7 [(0, .ref l0), (1, .int l1), (2, .int l2), (3, .int l3)] [] h (f_X12_laysReached_7_b F K7 l0 l1 l2 l3 h) := by
  delta f_X12_laysReached_7_b
  refine g_iload_n 3 dX12_laysReached_7 rfl ?_
  refine g_ldc (v := 65536) dX12_laysReached_8 co_RX12_39 ?_
  refine g_icmp_ge (tgt := 35) dX12_laysReached_10 (by decide) (fun c3 => ?_) (fun c3 => ?_)
  · refine g_iload_n 2 dX12_laysReached_35 rfl ?_
    refine g_istore_n (lv' := [(3, .int l2), (0, .ref l0), (1, .int l1), (2, .int l2)]) dX12_laysReached_36 (by decide) rfl ?_
    refine G_lv [1, 2, 0] rfl ?_
    exact T_X12_laysReached_37 F F l0 l1 l2 h
  · refine g_aload_n 0 dX12_laysReached_13 rfl ?_
    refine g_getR fl_RX12_40 rfl dX12_laysReached_14 (fun v22 => ?_)
    refine g_iload_n 3 dX12_laysReached_17 rfl ?_
    refine g_iload_n 3 dX12_laysReached_18 rfl ?_
    refine g_iload_n 2 dX12_laysReached_19 rfl ?_
    refine g_icmp_ne (tgt := 27) dX12_laysReached_20 (by decide) (fun c23 => ?_) (fun c23 => ?_)
    · refine g_iconst (v := 1) dX12_laysReached_23 (by decide) ?_
      refine g_goto (tgt := 28) dX12_laysReached_24 (by decide) ?_
      refine G_lv [0, 1, 2, 3] rfl ?_
      exact T_X12_laysReached_28 F hK7 l0 l1 l2 l3 1 l3 v22 h
    · refine g_iconst (v := 0) dX12_laysReached_27 (by decide) ?_
      refine G_lv [0, 1, 2, 3] rfl ?_
      exact T_X12_laysReached_28 F hK7 l0 l1 l2 l3 0 l3 v22 h
set_option maxRecDepth 100000 in
noncomputable def f_X12_laysReached_7 (F : Nat) : Nat → Nat → Int32 → Int32 → Int32 → Hp → Option (Unit × Hp)
  | 0, _, _, _, _, _ => none
  | n + 1, l0, l1, l2, l3, h => f_X12_laysReached_7_b F (f_X12_laysReached_7 F n) l0 l1 l2 l3 h
set_option maxRecDepth 100000 in
set_option maxHeartbeats 4000000 in
theorem T_X12_laysReached_7 (F : Nat) : ∀ (n : Nat) (l0 : Nat) (l1 : Int32) (l2 : Int32) (l3 : Int32) (h : Hp), G rvV I_X12_laysReached 7 7 [(0, .ref l0), (1, .int l1), (2, .int l2), (3, .int l3)] [] h (f_X12_laysReached_7 F n l0 l1 l2 l3 h) := by
  intro n
  induction n with
  | zero => intros; exact G_none
  | succ n ih => intro l0 l1 l2 l3 h; exact T_X12_laysReached_7_b F ih l0 l1 l2 l3 h
set_option maxRecDepth 100000 in
noncomputable def f_X12_laysReached (F : Nat) (a0 : Nat) (a1 : Int32) (h : Hp) : Option (Unit × Hp) :=
  cV 13 h a0 (f_X12_standNow F a0 h) fun v1 h2 => f_X12_laysReached_7 F F a0 a1 v1 0 h2
set_option maxRecDepth 100000 in
set_option maxHeartbeats 4000000 in
theorem T_X12_laysReached (F : Nat) (a0 : Nat) (a1 : Int32) (h : Hp) : GM rvV I_X12_laysReached 7 [.ref a0, .int a1] h (f_X12_laysReached F a0 a1 h) := by
  delta f_X12_laysReached
  refine GM_of (lv := [(0, .ref a0), (1, .int a1)]) (by decide +kernel) (Nat.le_of_ble_eq_true rfl) rfl ?_
  refine g_aload_n 0 dX12_laysReached_0 rfl ?_
  refine g_callVi (J := I_X12_standNow) (t := 13) (As := []) (rest := []) mjv_X12_standNow ml_RX12_260 ⟨rfl, by decide, by decide⟩ (by decide) rfl rfl (Nat.le_of_ble_eq_true rfl) dX12_laysReached_1 (T_X12_standNow F a0 h) (fun v1 h2 => ?_)
  refine g_istore_n (lv' := [(2, .int v1), (0, .ref a0), (1, .int a1)]) dX12_laysReached_4 (by decide) rfl ?_
  refine g_iconst (v := 0) dX12_laysReached_5 (by decide) ?_
  refine g_istore_n (lv' := [(3, .int 0), (2, .int v1), (0, .ref a0), (1, .int a1)]) dX12_laysReached_6 (by decide) rfl ?_
  refine G_lv [2, 3, 1, 0] rfl ?_
  exact T_X12_laysReached_7 F F a0 a1 v1 0 h2
set_option maxRecDepth 100000 in
noncomputable def f_X12_stillBy (F : Nat) (a0 : Nat) (a1 : Int32) (a2 : Int32) (a3 : Int32) (h : Hp) : Option (Int32 × Hp) :=
  gR 13 h a0 22 fun v1 => aI 20 h v1 ((9 * a1) + a2) fun v2 => if v2 = (-1) then (some (268435456, h)) else (if v2 = a1 then (some (268435456, h)) else (gR 13 h a0 23 fun v5 => aI 20 h v5 v2 fun v6 => if v6 = 268435456 then (some (268435456, h)) else (gR 13 h a0 23 fun v8 => aI 20 h v8 v2 fun v9 => if a3 = 0 then (some ((v9 + 1), h)) else (if a2 = 8 then (some ((v9 + 0), h)) else (some ((v9 + 1), h))))))
set_option maxRecDepth 100000 in
set_option maxHeartbeats 4000000 in
theorem T_X12_stillBy (F : Nat) (a0 : Nat) (a1 : Int32) (a2 : Int32) (a3 : Int32) (h : Hp) : GM rvI I_X12_stillBy 1 [.ref a0, .int a1, .int a2, .int a3] h (f_X12_stillBy F a0 a1 a2 a3 h) := by
  delta f_X12_stillBy
  refine GM_of (lv := [(0, .ref a0), (1, .int a1), (2, .int a2), (3, .int a3)]) (by decide +kernel) (Nat.le_of_ble_eq_true rfl) rfl ?_
  refine g_aload_n 0 dX12_stillBy_0 rfl ?_
  refine g_getR fl_RX12_44 rfl dX12_stillBy_1 (fun v1 => ?_)
  refine g_bipush (v := 9) dX12_stillBy_4 (by decide) ?_
  refine g_iload_n 1 dX12_stillBy_6 rfl ?_
  refine g_imul dX12_stillBy_7 ?_
  refine g_iload_n 2 dX12_stillBy_8 rfl ?_
  refine g_iadd dX12_stillBy_9 ?_
  refine g_iald dX12_stillBy_10 (fun v2 => ?_)
  refine g_istore (lv' := [(4, .int v2), (0, .ref a0), (1, .int a1), (2, .int a2), (3, .int a3)]) dX12_stillBy_11 (by decide) rfl ?_
  refine g_iload 0 dX12_stillBy_13 rfl ?_
  refine g_iconst (v := (-1)) dX12_stillBy_15 (by decide) ?_
  refine g_icmp_eq (tgt := 38) dX12_stillBy_16 (by decide) (fun c3 => ?_) (fun c3 => ?_)
  · refine g_ldcw (v := 268435456) dX12_stillBy_38 co_RX12_357 ?_
    exact g_iret rfl dX12_stillBy_41
  · refine g_iload 0 dX12_stillBy_19 rfl ?_
    refine g_iload_n 2 dX12_stillBy_21 rfl ?_
    refine g_icmp_eq (tgt := 38) dX12_stillBy_22 (by decide) (fun c4 => ?_) (fun c4 => ?_)
    · refine g_ldcw (v := 268435456) dX12_stillBy_38 co_RX12_357 ?_
      exact g_iret rfl dX12_stillBy_41
    · refine g_aload_n 1 dX12_stillBy_25 rfl ?_
      refine g_getR fl_RX12_47 rfl dX12_stillBy_26 (fun v5 => ?_)
      refine g_iload 0 dX12_stillBy_29 rfl ?_
      refine g_iald dX12_stillBy_31 (fun v6 => ?_)
      refine g_ldcw (v := 268435456) dX12_stillBy_32 co_RX12_357 ?_
      refine g_icmp_ne (tgt := 42) dX12_stillBy_35 (by decide) (fun c7 => ?_) (fun c7 => ?_)
      · refine g_ldcw (v := 268435456) dX12_stillBy_38 co_RX12_357 ?_
        exact g_iret rfl dX12_stillBy_41
      · refine g_aload_n 1 dX12_stillBy_42 rfl ?_
        refine g_getR fl_RX12_47 rfl dX12_stillBy_43 (fun v8 => ?_)
        refine g_iload 0 dX12_stillBy_46 rfl ?_
        refine g_iald dX12_stillBy_48 (fun v9 => ?_)
        refine g_iload_n 4 dX12_stillBy_49 rfl ?_
        refine g_if_eq (tgt := 63) dX12_stillBy_50 (by decide) (fun c10 => ?_) (fun c10 => ?_)
        · refine g_iconst (v := 1) dX12_stillBy_63 (by decide) ?_
          refine g_iadd dX12_stillBy_64 ?_
          exact g_iret rfl dX12_stillBy_65
        · refine g_iload_n 3 dX12_stillBy_53 rfl ?_
          refine g_bipush (v := 8) dX12_stillBy_54 (by decide) ?_
          refine g_icmp_ne (tgt := 63) dX12_stillBy_56 (by decide) (fun c11 => ?_) (fun c11 => ?_)
          · refine g_iconst (v := 0) dX12_stillBy_59 (by decide) ?_
            refine g_goto (tgt := 64) dX12_stillBy_60 (by decide) ?_
            refine g_iadd dX12_stillBy_64 ?_
            exact g_iret rfl dX12_stillBy_65
          · refine g_iconst (v := 1) dX12_stillBy_63 (by decide) ?_
            refine g_iadd dX12_stillBy_64 ?_
            exact g_iret rfl dX12_stillBy_65
set_option maxRecDepth 100000 in
noncomputable def f_X12_laysStill_117 (F : Nat) (K15 : Nat → Int32 → Int32 → Int32 → Int32 → Hp → Option (Int32 × Hp)) (l0 : Nat) (l1 : Int32) (l2 : Int32) (l3 : Int32) (l4 : Int32) (h : Hp) : Option (Int32 × Hp) :=
  K15 l0 l1 l2 l3 (l4 + (-1)) h
set_option maxRecDepth 100000 in
set_option maxHeartbeats 4000000 in
theorem T_X12_laysStill_117 (F : Nat) {K15 : Nat → Int32 → Int32 → Int32 → Int32 → Hp → Option (Int32 × Hp)} (hK15 : ∀ (l0 : Nat) (l1 : Int32) (l2 : Int32) (l3 : Int32) (l4 : Int32) (h : Hp), G rvI I_X12_laysStill 8 15 [(0, .ref l0), (1, .int l1), (2, .int l2), (3, .int l3), (4, .int l4)] [] h (K15 l0 l1 l2 l3 l4 h)) (l0 : Nat) (l1 : Int32) (l2 : Int32) (l3 : Int32) (l4 : Int32) (h : Hp) : G rvI I_X12_laysStill 8 117 [(0, .ref l0), (1, .int l1), (2, .int l2), (3, .int l3), (4, .int l4)] [] h (f_X12_laysStill_117 F K15 l0 l1 l2 l3 l4 h) := by
  delta f_X12_laysStill_117
  refine g_iinc (v' := l4 + (-1)) (lv' := [(4, .int (l4 + (-1))), (0, .ref l0), (1, .int l1), (2, .int l2), (3, .int l3)]) 4 dX12_laysStill_117 rfl rfl (by decide) rfl ?_
  refine g_goto (tgt := 15) dX12_laysStill_120 (by decide) ?_
  refine G_lv [1, 2, 3, 4, 0] rfl ?_
  exact hK15 l0 l1 l2 l3 (l4 + (-1)) h
set_option maxRecDepth 100000 in
noncomputable def f_X12_laysStill_108 (F : Nat) (K15 : Nat → Int32 → Int32 → Int32 → Int32 → Hp → Option (Int32 × Hp)) (l0 : Nat) (l1 : Int32) (l2 : Int32) (l3 : Int32) (l4 : Int32) (l5 : Int32) (h : Hp) : Option (Int32 × Hp) :=
  gR 13 h l0 23 fun v15 => wI h v15 l4 l5 fun h16 => f_X12_laysStill_117 F K15 l0 l1 l2 l3 l4 h16
set_option maxRecDepth 100000 in
set_option maxHeartbeats 4000000 in
theorem T_X12_laysStill_108 (F : Nat) {K15 : Nat → Int32 → Int32 → Int32 → Int32 → Hp → Option (Int32 × Hp)} (hK15 : ∀ (l0 : Nat) (l1 : Int32) (l2 : Int32) (l3 : Int32) (l4 : Int32) (h : Hp), G rvI I_X12_laysStill 8 15 [(0, .ref l0), (1, .int l1), (2, .int l2), (3, .int l3), (4, .int l4)] [] h (K15 l0 l1 l2 l3 l4 h)) (l0 : Nat) (l1 : Int32) (l2 : Int32) (l3 : Int32) (l4 : Int32) (l5 : Int32) (h : Hp) : G rvI I_X12_laysStill 8 108 [(0, .ref l0), (1, .int l1), (2, .int l2), (3, .int l3), (4, .int l4), (5, .int l5)] [] h (f_X12_laysStill_108 F K15 l0 l1 l2 l3 l4 l5 h) := by
  delta f_X12_laysStill_108
  refine g_aload_n 0 dX12_laysStill_108 rfl ?_
  refine g_getR fl_RX12_47 rfl dX12_laysStill_109 (fun v15 => ?_)
  refine g_iload 4 dX12_laysStill_112 rfl ?_
  refine g_iload 5 dX12_laysStill_114 rfl ?_
  refine g_iast dX12_laysStill_116 (fun h16 => ?_)
  refine G_lv [0, 1, 2, 3, 4] rfl ?_
  exact T_X12_laysStill_117 F hK15 l0 l1 l2 l3 l4 h16
set_option maxRecDepth 100000 in
noncomputable def f_X12_laysStill_102 (F : Nat) (K15 : Nat → Int32 → Int32 → Int32 → Int32 → Hp → Option (Int32 × Hp)) (K55 : Nat → Int32 → Int32 → Int32 → Int32 → Int32 → Int32 → Hp → Option (Int32 × Hp)) (l0 : Nat) (l1 : Int32) (l2 : Int32) (l3 : Int32) (l4 : Int32) (l5 : Int32) (l6 : Int32) (h : Hp) : Option (Int32 × Hp) :=
  K55 l0 l1 l2 l3 l4 l5 (l6 + 1) h
set_option maxRecDepth 100000 in
set_option maxHeartbeats 4000000 in
theorem T_X12_laysStill_102 (F : Nat) {K15 : Nat → Int32 → Int32 → Int32 → Int32 → Hp → Option (Int32 × Hp)} (hK15 : ∀ (l0 : Nat) (l1 : Int32) (l2 : Int32) (l3 : Int32) (l4 : Int32) (h : Hp), G rvI I_X12_laysStill 8 15 [(0, .ref l0), (1, .int l1), (2, .int l2), (3, .int l3), (4, .int l4)] [] h (K15 l0 l1 l2 l3 l4 h)) {K55 : Nat → Int32 → Int32 → Int32 → Int32 → Int32 → Int32 → Hp → Option (Int32 × Hp)} (hK55 : ∀ (l0 : Nat) (l1 : Int32) (l2 : Int32) (l3 : Int32) (l4 : Int32) (l5 : Int32) (l6 : Int32) (h : Hp), G rvI I_X12_laysStill 8 55 [(0, .ref l0), (1, .int l1), (2, .int l2), (3, .int l3), (4, .int l4), (5, .int l5), (6, .int l6)] [] h (K55 l0 l1 l2 l3 l4 l5 l6 h)) (l0 : Nat) (l1 : Int32) (l2 : Int32) (l3 : Int32) (l4 : Int32) (l5 : Int32) (l6 : Int32) (h : Hp) : G rvI I_X12_laysStill 8 102 [(0, .ref l0), (1, .int l1), (2, .int l2), (3, .int l3), (4, .int l4), (5, .int l5), (6, .int l6)] [] h (f_X12_laysStill_102 F K15 K55 l0 l1 l2 l3 l4 l5 l6 h) := by
  delta f_X12_laysStill_102
  refine g_iinc (v' := l6 + 1) (lv' := [(6, .int (l6 + 1)), (0, .ref l0), (1, .int l1), (2, .int l2), (3, .int l3), (4, .int l4), (5, .int l5)]) 6 dX12_laysStill_102 rfl rfl (by decide) rfl ?_
  refine g_goto (tgt := 55) dX12_laysStill_105 (by decide) ?_
  refine G_lv [1, 2, 3, 4, 5, 6, 0] rfl ?_
  exact hK55 l0 l1 l2 l3 l4 l5 (l6 + 1) h
set_option maxRecDepth 100000 in
noncomputable def f_X12_laysStill_55_b (F : Nat) (K15 : Nat → Int32 → Int32 → Int32 → Int32 → Hp → Option (Int32 × Hp)) (K55 : Nat → Int32 → Int32 → Int32 → Int32 → Int32 → Int32 → Hp → Option (Int32 × Hp)) (l0 : Nat) (l1 : Int32) (l2 : Int32) (l3 : Int32) (l4 : Int32) (l5 : Int32) (l6 : Int32) (h : Hp) : Option (Int32 × Hp) :=
  if 9 ≤ l6 then (f_X12_laysStill_108 F K15 l0 l1 l2 l3 l4 l5 h) else (if l5 ≤ 0 then (f_X12_laysStill_108 F K15 l0 l1 l2 l3 l4 l5 h) else (bd (f_X12_isIn F (l1.toInt64) l6 h) fun v18 h19 => if v18 = 0 then (f_X12_laysStill_102 F K15 K55 l0 l1 l2 l3 l4 l5 l6 h19) else (cV 13 h19 l0 (f_X12_stillBy F l0 l4 l6 l2 h19) fun v21 h22 => if l5 ≤ v21 then (f_X12_laysStill_102 F K15 K55 l0 l1 l2 l3 l4 l5 l6 h22) else (cV 13 h22 l0 (f_X12_stillBy F l0 l4 l6 l2 h22) fun v24 h25 => f_X12_laysStill_102 F K15 K55 l0 l1 l2 l3 l4 v24 l6 h25))))
set_option maxRecDepth 100000 in
set_option maxHeartbeats 4000000 in
theorem T_X12_laysStill_55_b (F : Nat) {K15 : Nat → Int32 → Int32 → Int32 → Int32 → Hp → Option (Int32 × Hp)} (hK15 : ∀ (l0 : Nat) (l1 : Int32) (l2 : Int32) (l3 : Int32) (l4 : Int32) (h : Hp), G rvI I_X12_laysStill 8 15 [(0, .ref l0), (1, .int l1), (2, .int l2), (3, .int l3), (4, .int l4)] [] h (K15 l0 l1 l2 l3 l4 h)) {K55 : Nat → Int32 → Int32 → Int32 → Int32 → Int32 → Int32 → Hp → Option (Int32 × Hp)} (hK55 : ∀ (l0 : Nat) (l1 : Int32) (l2 : Int32) (l3 : Int32) (l4 : Int32) (l5 : Int32) (l6 : Int32) (h : Hp), G rvI I_X12_laysStill 8 55 [(0, .ref l0), (1, .int l1), (2, .int l2), (3, .int l3), (4, .int l4), (5, .int l5), (6, .int l6)] [] h (K55 l0 l1 l2 l3 l4 l5 l6 h)) (l0 : Nat) (l1 : Int32) (l2 : Int32) (l3 : Int32) (l4 : Int32) (l5 : Int32) (l6 : Int32) (h : Hp) : G rvI I_X12_laysStill 8 55 [(0, .ref l0), (1, .int l1), (2, .int l2), (3, .int l3), (4, .int l4), (5, .int l5), (6, .int l6)] [] h (f_X12_laysStill_55_b F K15 K55 l0 l1 l2 l3 l4 l5 l6 h) := by
  delta f_X12_laysStill_55_b
  refine g_iload 6 dX12_laysStill_55 rfl ?_
  refine g_bipush (v := 9) dX12_laysStill_57 (by decide) ?_
  refine g_icmp_ge (tgt := 108) dX12_laysStill_59 (by decide) (fun c14 => ?_) (fun c14 => ?_)
  · refine G_lv [0, 1, 2, 3, 4, 5] rfl ?_
    exact T_X12_laysStill_108 F hK15 l0 l1 l2 l3 l4 l5 h
  · refine g_iload 5 dX12_laysStill_62 rfl ?_
    refine g_if_le (tgt := 108) dX12_laysStill_64 (by decide) (fun c17 => ?_) (fun c17 => ?_)
    · refine G_lv [0, 1, 2, 3, 4, 5] rfl ?_
      exact T_X12_laysStill_108 F hK15 l0 l1 l2 l3 l4 l5 h
    · refine g_iload_n 1 dX12_laysStill_67 rfl ?_
      refine g_i2l dX12_laysStill_68 ?_
      refine g_iload 6 dX12_laysStill_69 rfl ?_
      refine g_callSi (J := I_X12_isIn) (As := [.long (l1.toInt64), .int l6]) (rest := []) mjs_X12_isIn ml_RX12_236 (by decide) rfl rfl (Nat.le_of_ble_eq_true rfl) dX12_laysStill_71 (T_X12_isIn F (l1.toInt64) l6 h) (fun v18 h19 => ?_)
      refine g_if_eq (tgt := 102) dX12_laysStill_74 (by decide) (fun c20 => ?_) (fun c20 => ?_)
      · refine G_lv [0, 1, 2, 3, 4, 5, 6] rfl ?_
        exact T_X12_laysStill_102 F hK15 hK55 l0 l1 l2 l3 l4 l5 l6 h19
      · refine g_aload_n 0 dX12_laysStill_77 rfl ?_
        refine g_iload 4 dX12_laysStill_78 rfl ?_
        refine g_iload 6 dX12_laysStill_80 rfl ?_
        refine g_iload_n 2 dX12_laysStill_82 rfl ?_
        refine g_callVi (J := I_X12_stillBy) (t := 13) (As := [.int l4, .int l6, .int l2]) (rest := []) mjv_X12_stillBy ml_RX12_365 ⟨rfl, by decide, by decide⟩ (by decide) rfl rfl (Nat.le_of_ble_eq_true rfl) dX12_laysStill_83 (T_X12_stillBy F l0 l4 l6 l2 h19) (fun v21 h22 => ?_)
        refine g_iload 5 dX12_laysStill_86 rfl ?_
        refine g_icmp_ge (tgt := 102) dX12_laysStill_88 (by decide) (fun c23 => ?_) (fun c23 => ?_)
        · refine G_lv [0, 1, 2, 3, 4, 5, 6] rfl ?_
          exact T_X12_laysStill_102 F hK15 hK55 l0 l1 l2 l3 l4 l5 l6 h22
        · refine g_aload_n 0 dX12_laysStill_91 rfl ?_
          refine g_iload 4 dX12_laysStill_92 rfl ?_
          refine g_iload 6 dX12_laysStill_94 rfl ?_
          refine g_iload_n 2 dX12_laysStill_96 rfl ?_
          refine g_callVi (J := I_X12_stillBy) (t := 13) (As := [.int l4, .int l6, .int l2]) (rest := []) mjv_X12_stillBy ml_RX12_365 ⟨rfl, by decide, by decide⟩ (by decide) rfl rfl (Nat.le_of_ble_eq_true rfl) dX12_laysStill_97 (T_X12_stillBy F l0 l4 l6 l2 h22) (fun v24 h25 => ?_)
          refine g_istore (lv' := [(5, .int v24), (0, .ref l0), (1, .int l1), (2, .int l2), (3, .int l3), (4, .int l4), (6, .int l6)]) dX12_laysStill_100 (by decide) rfl ?_
          refine G_lv [1, 2, 3, 4, 5, 0, 6] rfl ?_
          exact T_X12_laysStill_102 F hK15 hK55 l0 l1 l2 l3 l4 v24 l6 h25
set_option maxRecDepth 100000 in
noncomputable def f_X12_laysStill_55 (F : Nat) (K15 : Nat → Int32 → Int32 → Int32 → Int32 → Hp → Option (Int32 × Hp)) : Nat → Nat → Int32 → Int32 → Int32 → Int32 → Int32 → Int32 → Hp → Option (Int32 × Hp)
  | 0, _, _, _, _, _, _, _, _ => none
  | n + 1, l0, l1, l2, l3, l4, l5, l6, h => f_X12_laysStill_55_b F K15 (f_X12_laysStill_55 F K15 n) l0 l1 l2 l3 l4 l5 l6 h
set_option maxRecDepth 100000 in
set_option maxHeartbeats 4000000 in
theorem T_X12_laysStill_55 (F : Nat) {K15 : Nat → Int32 → Int32 → Int32 → Int32 → Hp → Option (Int32 × Hp)} (hK15 : ∀ (l0 : Nat) (l1 : Int32) (l2 : Int32) (l3 : Int32) (l4 : Int32) (h : Hp), G rvI I_X12_laysStill 8 15 [(0, .ref l0), (1, .int l1), (2, .int l2), (3, .int l3), (4, .int l4)] [] h (K15 l0 l1 l2 l3 l4 h)) : ∀ (n : Nat) (l0 : Nat) (l1 : Int32) (l2 : Int32) (l3 : Int32) (l4 : Int32) (l5 : Int32) (l6 : Int32) (h : Hp), G rvI I_X12_laysStill 8 55 [(0, .ref l0), (1, .int l1), (2, .int l2), (3, .int l3), (4, .int l4), (5, .int l5), (6, .int l6)] [] h (f_X12_laysStill_55 F K15 n l0 l1 l2 l3 l4 l5 l6 h) := by
  intro n
  induction n with
  | zero => intros; exact G_none
  | succ n ih => intro l0 l1 l2 l3 l4 l5 l6 h; exact T_X12_laysStill_55_b F hK15 ih l0 l1 l2 l3 l4 l5 l6 h
set_option maxRecDepth 100000 in
noncomputable def f_X12_laysStill_50 (F : Nat) (K15 : Nat → Int32 → Int32 → Int32 → Int32 → Hp → Option (Int32 × Hp)) (l0 : Nat) (l1 : Int32) (l2 : Int32) (l3 : Int32) (l4 : Int32) (s0 : Int32) (h : Hp) : Option (Int32 × Hp) :=
  f_X12_laysStill_55 F K15 F l0 l1 l2 l3 l4 s0 0 h
set_option maxRecDepth 100000 in
set_option maxHeartbeats 4000000 in
theorem T_X12_laysStill_50 (F : Nat) {K15 : Nat → Int32 → Int32 → Int32 → Int32 → Hp → Option (Int32 × Hp)} (hK15 : ∀ (l0 : Nat) (l1 : Int32) (l2 : Int32) (l3 : Int32) (l4 : Int32) (h : Hp), G rvI I_X12_laysStill 8 15 [(0, .ref l0), (1, .int l1), (2, .int l2), (3, .int l3), (4, .int l4)] [] h (K15 l0 l1 l2 l3 l4 h)) (l0 : Nat) (l1 : Int32) (l2 : Int32) (l3 : Int32) (l4 : Int32) (s0 : Int32) (h : Hp) : G rvI I_X12_laysStill 8 50 [(0, .ref l0), (1, .int l1), (2, .int l2), (3, .int l3), (4, .int l4)] [.int s0] h (f_X12_laysStill_50 F K15 l0 l1 l2 l3 l4 s0 h) := by
  delta f_X12_laysStill_50
  refine g_istore (lv' := [(5, .int s0), (0, .ref l0), (1, .int l1), (2, .int l2), (3, .int l3), (4, .int l4)]) dX12_laysStill_50 (by decide) rfl ?_
  refine g_iconst (v := 0) dX12_laysStill_52 (by decide) ?_
  refine g_istore (lv' := [(6, .int 0), (5, .int s0), (0, .ref l0), (1, .int l1), (2, .int l2), (3, .int l3), (4, .int l4)]) dX12_laysStill_53 (by decide) rfl ?_
  refine G_lv [2, 3, 4, 5, 6, 1, 0] rfl ?_
  exact T_X12_laysStill_55 F hK15 F l0 l1 l2 l3 l4 s0 0 h
set_option maxRecDepth 100000 in
noncomputable def f_X12_laysStill_15_b (F : Nat) (K15 : Nat → Int32 → Int32 → Int32 → Int32 → Hp → Option (Int32 × Hp)) (l0 : Nat) (l1 : Int32) (l2 : Int32) (l3 : Int32) (l4 : Int32) (h : Hp) : Option (Int32 × Hp) :=
  if l4 < l3 then (gR 13 h l0 23 fun v6 => aI 20 h v6 l3 fun v7 => some (v7, h)) else (gR 13 h l0 21 fun v8 => aI 22 h v8 l4 fun v9 => if v9 = 0 then (f_X12_laysStill_117 F K15 l0 l1 l2 l3 l4 h) else (cV 13 h l0 (f_X12_isGoal F l0 l4 h) fun v11 h12 => if v11 = 0 then (f_X12_laysStill_50 F K15 l0 l1 l2 l3 l4 268435456 h12) else (f_X12_laysStill_50 F K15 l0 l1 l2 l3 l4 0 h12)))
set_option maxRecDepth 100000 in
set_option maxHeartbeats 4000000 in
theorem T_X12_laysStill_15_b (F : Nat) {K15 : Nat → Int32 → Int32 → Int32 → Int32 → Hp → Option (Int32 × Hp)} (hK15 : ∀ (l0 : Nat) (l1 : Int32) (l2 : Int32) (l3 : Int32) (l4 : Int32) (h : Hp), G rvI I_X12_laysStill 8 15 [(0, .ref l0), (1, .int l1), (2, .int l2), (3, .int l3), (4, .int l4)] [] h (K15 l0 l1 l2 l3 l4 h)) (l0 : Nat) (l1 : Int32) (l2 : Int32) (l3 : Int32) (l4 : Int32) (h : Hp) : G rvI I_X12_laysStill 8 15 [(0, .ref l0), (1, .int l1), (2, .int l2), (3, .int l3), (4, .int l4)] [] h (f_X12_laysStill_15_b F K15 l0 l1 l2 l3 l4 h) := by
  delta f_X12_laysStill_15_b
  refine g_iload 4 dX12_laysStill_15 rfl ?_
  refine g_iload_n 3 dX12_laysStill_17 rfl ?_
  refine g_icmp_lt (tgt := 123) dX12_laysStill_18 (by decide) (fun c5 => ?_) (fun c5 => ?_)
  · refine g_aload_n 0 dX12_laysStill_123 rfl ?_
    refine g_getR fl_RX12_47 rfl dX12_laysStill_124 (fun v6 => ?_)
    refine g_iload_n 3 dX12_laysStill_127 rfl ?_
    refine g_iald dX12_laysStill_128 (fun v7 => ?_)
    exact g_iret rfl dX12_laysStill_129
  · refine g_aload_n 0 dX12_laysStill_21 rfl ?_
    refine g_getR fl_RX12_40 rfl dX12_laysStill_22 (fun v8 => ?_)
    refine g_iload 4 dX12_laysStill_25 rfl ?_
    refine g_zald dX12_laysStill_27 (fun v9 => ?_)
    refine g_if_ne (tgt := 34) dX12_laysStill_28 (by decide) (fun c10 => ?_) (fun c10 => ?_)
    · refine g_goto (tgt := 117) dX12_laysStill_31 (by decide) ?_
      refine G_lv [0, 1, 2, 3, 4] rfl ?_
      exact T_X12_laysStill_117 F hK15 l0 l1 l2 l3 l4 h
    · refine g_aload_n 0 dX12_laysStill_34 rfl ?_
      refine g_iload 4 dX12_laysStill_35 rfl ?_
      refine g_callVi (J := I_X12_isGoal) (t := 13) (As := [.int l4]) (rest := []) mjv_X12_isGoal ml_RX12_362 ⟨rfl, by decide, by decide⟩ (by decide) rfl rfl (Nat.le_of_ble_eq_true rfl) dX12_laysStill_37 (T_X12_isGoal F l0 l4 h) (fun v11 h12 => ?_)
      refine g_if_eq (tgt := 47) dX12_laysStill_40 (by decide) (fun c13 => ?_) (fun c13 => ?_)
      · refine g_ldcw (v := 268435456) dX12_laysStill_47 co_RX12_357 ?_
        refine G_lv [0, 1, 2, 3, 4] rfl ?_
        exact T_X12_laysStill_50 F hK15 l0 l1 l2 l3 l4 268435456 h12
      · refine g_iconst (v := 0) dX12_laysStill_43 (by decide) ?_
        refine g_goto (tgt := 50) dX12_laysStill_44 (by decide) ?_
        refine G_lv [0, 1, 2, 3, 4] rfl ?_
        exact T_X12_laysStill_50 F hK15 l0 l1 l2 l3 l4 0 h12
set_option maxRecDepth 100000 in
noncomputable def f_X12_laysStill_15 (F : Nat) : Nat → Nat → Int32 → Int32 → Int32 → Int32 → Hp → Option (Int32 × Hp)
  | 0, _, _, _, _, _, _ => none
  | n + 1, l0, l1, l2, l3, l4, h => f_X12_laysStill_15_b F (f_X12_laysStill_15 F n) l0 l1 l2 l3 l4 h
set_option maxRecDepth 100000 in
set_option maxHeartbeats 4000000 in
theorem T_X12_laysStill_15 (F : Nat) : ∀ (n : Nat) (l0 : Nat) (l1 : Int32) (l2 : Int32) (l3 : Int32) (l4 : Int32) (h : Hp), G rvI I_X12_laysStill 8 15 [(0, .ref l0), (1, .int l1), (2, .int l2), (3, .int l3), (4, .int l4)] [] h (f_X12_laysStill_15 F n l0 l1 l2 l3 l4 h) := by
  intro n
  induction n with
  | zero => intros; exact G_none
  | succ n ih => intro l0 l1 l2 l3 l4 h; exact T_X12_laysStill_15_b F ih l0 l1 l2 l3 l4 h
set_option maxRecDepth 100000 in
noncomputable def f_X12_laysStill (F : Nat) (a0 : Nat) (a1 : Int32) (a2 : Int32) (h : Hp) : Option (Int32 × Hp) :=
  cV 13 h a0 (f_X12_laysReached F a0 a1 h) fun v1 h2 => cV 13 h2 a0 (f_X12_standNow F a0 h2) fun v3 h4 => f_X12_laysStill_15 F F a0 a1 a2 v3 65535 h4
set_option maxRecDepth 100000 in
set_option maxHeartbeats 4000000 in
theorem T_X12_laysStill (F : Nat) (a0 : Nat) (a1 : Int32) (a2 : Int32) (h : Hp) : GM rvI I_X12_laysStill 8 [.ref a0, .int a1, .int a2] h (f_X12_laysStill F a0 a1 a2 h) := by
  delta f_X12_laysStill
  refine GM_of (lv := [(0, .ref a0), (1, .int a1), (2, .int a2)]) (by decide +kernel) (Nat.le_of_ble_eq_true rfl) rfl ?_
  refine g_aload_n 0 dX12_laysStill_0 rfl ?_
  refine g_iload_n 1 dX12_laysStill_1 rfl ?_
  refine g_callVv (J := I_X12_laysReached) (t := 13) (As := [.int a1]) (rest := []) mjv_X12_laysReached ml_RX12_358 ⟨rfl, by decide, by decide⟩ (by decide) rfl rfl (Nat.le_of_ble_eq_true rfl) dX12_laysStill_2 (T_X12_laysReached F a0 a1 h) (fun v1 h2 => ?_)
  refine g_aload_n 0 dX12_laysStill_5 rfl ?_
  refine g_callVi (J := I_X12_standNow) (t := 13) (As := []) (rest := []) mjv_X12_standNow ml_RX12_260 ⟨rfl, by decide, by decide⟩ (by decide) rfl rfl (Nat.le_of_ble_eq_true rfl) dX12_laysStill_6 (T_X12_standNow F a0 h2) (fun v3 h4 => ?_)
  refine g_istore_n (lv' := [(3, .int v3), (0, .ref a0), (1, .int a1), (2, .int a2)]) dX12_laysStill_9 (by decide) rfl ?_
  refine g_ldcw (v := 65535) dX12_laysStill_10 co_RX12_361 ?_
  refine g_istore (lv' := [(4, .int 65535), (3, .int v3), (0, .ref a0), (1, .int a1), (2, .int a2)]) dX12_laysStill_13 (by decide) rfl ?_
  refine G_lv [2, 3, 4, 1, 0] rfl ?_
  exact T_X12_laysStill_15 F F a0 a1 a2 v3 65535 h4
set_option maxRecDepth 100000 in
noncomputable def f_X12_laysAlone (F : Nat) (a0 : Nat) (a1 : Int32) (a2 : Int32) (h : Hp) : Option (Int32 × Hp) :=
  pI 13 h a0 26 a1 fun h1 => pI 13 h1 a0 27 a2 fun h2 => cV 13 h2 a0 (f_X12_laysStill F a0 511 0 h2) fun v3 h4 => some (v3, h4)
set_option maxRecDepth 100000 in
set_option maxHeartbeats 4000000 in
theorem T_X12_laysAlone (F : Nat) (a0 : Nat) (a1 : Int32) (a2 : Int32) (h : Hp) : GM rvI I_X12_laysAlone 9 [.ref a0, .int a1, .int a2] h (f_X12_laysAlone F a0 a1 a2 h) := by
  delta f_X12_laysAlone
  refine GM_of (lv := [(0, .ref a0), (1, .int a1), (2, .int a2)]) (by decide +kernel) (Nat.le_of_ble_eq_true rfl) rfl ?_
  refine g_aload_n 0 dX12_laysAlone_0 rfl ?_
  refine g_iload_n 1 dX12_laysAlone_1 rfl ?_
  refine g_putI fl_RX12_354 (Or.inl rfl) dX12_laysAlone_2 (fun h1 => ?_)
  refine g_aload_n 0 dX12_laysAlone_5 rfl ?_
  refine g_iload_n 2 dX12_laysAlone_6 rfl ?_
  refine g_putI fl_RX12_351 (Or.inl rfl) dX12_laysAlone_7 (fun h2 => ?_)
  refine g_aload_n 0 dX12_laysAlone_10 rfl ?_
  refine g_sipush (v := 511) dX12_laysAlone_11 (by decide) ?_
  refine g_iconst (v := 0) dX12_laysAlone_14 (by decide) ?_
  refine g_callVi (J := I_X12_laysStill) (t := 13) (As := [.int 511, .int 0]) (rest := []) mjv_X12_laysStill ml_RX12_383 ⟨rfl, by decide, by decide⟩ (by decide) rfl rfl (Nat.le_of_ble_eq_true rfl) dX12_laysAlone_15 (T_X12_laysStill F a0 511 0 h2) (fun v3 h4 => ?_)
  exact g_iret rfl dX12_laysAlone_18
set_option maxRecDepth 100000 in
noncomputable def f_X12_toldFar (F : Nat) (a0 : Int32) (h : Hp) : Option (Int32 × Hp) :=
  if a0 = 268435456 then (some ((-1), h)) else (some (a0, h))
set_option maxRecDepth 100000 in
set_option maxHeartbeats 4000000 in
theorem T_X12_toldFar (F : Nat) (a0 : Int32) (h : Hp) : GM rvI I_X12_toldFar 1 [.int a0] h (f_X12_toldFar F a0 h) := by
  delta f_X12_toldFar
  refine GM_of (lv := [(0, .int a0)]) (by decide +kernel) (Nat.le_of_ble_eq_true rfl) rfl ?_
  refine g_iload_n 0 dX12_toldFar_0 rfl ?_
  refine g_ldcw (v := 268435456) dX12_toldFar_1 co_RX12_357 ?_
  refine g_icmp_ne (tgt := 11) dX12_toldFar_4 (by decide) (fun c1 => ?_) (fun c1 => ?_)
  · refine g_iconst (v := (-1)) dX12_toldFar_7 (by decide) ?_
    refine g_goto (tgt := 12) dX12_toldFar_8 (by decide) ?_
    exact g_iret rfl dX12_toldFar_12
  · refine g_iload_n 0 dX12_toldFar_11 rfl ?_
    exact g_iret rfl dX12_toldFar_12
set_option maxRecDepth 100000 in
noncomputable def f_X12_alone (F : Nat) (a0 : Nat) (a1 : Int32) (a2 : Int32) (h : Hp) : Option (Int32 × Hp) :=
  pI 13 h a0 0 0 fun h1 => bd (f_X12_isTwin F (a1.toInt64) h1) fun v2 h3 => if v2 = 0 then (some ((-2), h3)) else (cV 13 h3 a0 (f_X12_isDoing F a0 a2 h3) fun v5 h6 => if v5 = 0 then (some ((-2), h6)) else (cV 13 h6 a0 (f_X12_laysAlone F a0 a1 a2 h6) fun v8 h9 => bd (f_X12_toldFar F v8 h9) fun v10 h11 => some (v10, h11)))
set_option maxRecDepth 100000 in
set_option maxHeartbeats 4000000 in
theorem T_X12_alone (F : Nat) (a0 : Nat) (a1 : Int32) (a2 : Int32) (h : Hp) : GM rvI I_X12_alone 10 [.ref a0, .int a1, .int a2] h (f_X12_alone F a0 a1 a2 h) := by
  delta f_X12_alone
  refine GM_of (lv := [(0, .ref a0), (1, .int a1), (2, .int a2)]) (by decide +kernel) (Nat.le_of_ble_eq_true rfl) rfl ?_
  refine g_aload_n 0 dX12_alone_0 rfl ?_
  refine g_iconst (v := 0) dX12_alone_1 (by decide) ?_
  refine g_putI fl_RX12_1 (Or.inl rfl) dX12_alone_2 (fun h1 => ?_)
  refine g_iload_n 1 dX12_alone_5 rfl ?_
  refine g_i2l dX12_alone_6 ?_
  refine g_callSi (J := I_X12_isTwin) (As := [.long (a1.toInt64)]) (rest := []) mjs_X12_isTwin ml_RX12_250 (by decide) rfl rfl (Nat.le_of_ble_eq_true rfl) dX12_alone_7 (T_X12_isTwin F (a1.toInt64) h1) (fun v2 h3 => ?_)
  refine g_if_eq (tgt := 33) dX12_alone_10 (by decide) (fun c4 => ?_) (fun c4 => ?_)
  · refine g_bipush (v := (-2)) dX12_alone_33 (by decide) ?_
    exact g_iret rfl dX12_alone_35
  · refine g_aload_n 0 dX12_alone_13 rfl ?_
    refine g_iload_n 2 dX12_alone_14 rfl ?_
    refine g_callVi (J := I_X12_isDoing) (t := 13) (As := [.int a2]) (rest := []) mjv_X12_isDoing ml_RX12_257 ⟨rfl, by decide, by decide⟩ (by decide) rfl rfl (Nat.le_of_ble_eq_true rfl) dX12_alone_15 (T_X12_isDoing F a0 a2 h3) (fun v5 h6 => ?_)
    refine g_if_eq (tgt := 33) dX12_alone_18 (by decide) (fun c7 => ?_) (fun c7 => ?_)
    · refine g_bipush (v := (-2)) dX12_alone_33 (by decide) ?_
      exact g_iret rfl dX12_alone_35
    · refine g_aload_n 0 dX12_alone_21 rfl ?_
      refine g_iload_n 1 dX12_alone_22 rfl ?_
      refine g_iload_n 2 dX12_alone_23 rfl ?_
      refine g_callVi (J := I_X12_laysAlone) (t := 13) (As := [.int a1, .int a2]) (rest := []) mjv_X12_laysAlone ml_RX12_393 ⟨rfl, by decide, by decide⟩ (by decide) rfl rfl (Nat.le_of_ble_eq_true rfl) dX12_alone_24 (T_X12_laysAlone F a0 a1 a2 h6) (fun v8 h9 => ?_)
      refine g_callSi (J := I_X12_toldFar) (As := [.int v8]) (rest := []) mjs_X12_toldFar ml_RX12_387 (by decide) rfl rfl (Nat.le_of_ble_eq_true rfl) dX12_alone_27 (T_X12_toldFar F v8 h9) (fun v10 h11 => ?_)
      refine g_goto (tgt := 35) dX12_alone_30 (by decide) ?_
      exact g_iret rfl dX12_alone_35
set_option maxRecDepth 100000 in
noncomputable def f_X12_toldMove (F : Nat) (a0 : Int32) (h : Hp) : Option (Int32 × Hp) :=
  if a0 = 8 then (some (99, h)) else (some (((10 * (a0 / 4)) + (a0 - a0 / 4 * 4)), h))
set_option maxRecDepth 100000 in
set_option maxHeartbeats 4000000 in
theorem T_X12_toldMove (F : Nat) (a0 : Int32) (h : Hp) : GM rvI I_X12_toldMove 1 [.int a0] h (f_X12_toldMove F a0 h) := by
  delta f_X12_toldMove
  refine GM_of (lv := [(0, .int a0)]) (by decide +kernel) (Nat.le_of_ble_eq_true rfl) rfl ?_
  refine g_iload_n 0 dX12_toldMove_0 rfl ?_
  refine g_bipush (v := 8) dX12_toldMove_1 (by decide) ?_
  refine g_icmp_ne (tgt := 11) dX12_toldMove_3 (by decide) (fun c1 => ?_) (fun c1 => ?_)
  · refine g_bipush (v := 99) dX12_toldMove_6 (by decide) ?_
    refine g_goto (tgt := 21) dX12_toldMove_8 (by decide) ?_
    exact g_iret rfl dX12_toldMove_21
  · refine g_bipush (v := 10) dX12_toldMove_11 (by decide) ?_
    refine g_iload_n 0 dX12_toldMove_13 rfl ?_
    refine g_iconst (v := 4) dX12_toldMove_14 (by decide) ?_
    refine g_idiv (by decide) dX12_toldMove_15 ?_
    refine g_imul dX12_toldMove_16 ?_
    refine g_iload_n 0 dX12_toldMove_17 rfl ?_
    refine g_iconst (v := 4) dX12_toldMove_18 (by decide) ?_
    refine g_irem (by decide) dX12_toldMove_19 ?_
    refine g_iadd dX12_toldMove_20 ?_
    exact g_iret rfl dX12_toldMove_21
set_option maxRecDepth 100000 in
noncomputable def f_X12_moveAt_33_b (F : Nat) (K21 : Nat → Int32 → Int32 → Int32 → Hp → Option (Int32 × Hp)) (K33 : Nat → Int32 → Int32 → Int32 → Int32 → Hp → Option (Int32 × Hp)) (l0 : Nat) (l1 : Int32) (l2 : Int32) (l3 : Int32) (l4 : Int32) (h : Hp) : Option (Int32 × Hp) :=
  cV 13 h l0 (f_X12_stillBy F l0 l2 l4 0 h) fun v9 h10 => gR 13 h10 l0 23 fun v11 => aI 20 h10 v11 l2 fun v12 => if v9 = v12 then (if l3 = l1 then (bd (f_X12_toldMove F l4 h10) fun v15 h16 => some (v15, h16)) else (gR 13 h10 l0 22 fun v17 => aI 20 h10 v17 ((9 * l2) + l4) fun v18 => K21 l0 l1 v18 (l3 + 1) h10)) else (K33 l0 l1 l2 l3 (l4 + 1) h10)
set_option maxRecDepth 100000 in
set_option maxHeartbeats 4000000 in
theorem T_X12_moveAt_33_b (F : Nat) {K21 : Nat → Int32 → Int32 → Int32 → Hp → Option (Int32 × Hp)} (hK21 : ∀ (l0 : Nat) (l1 : Int32) (l2 : Int32) (l3 : Int32) (h : Hp), G rvI I_X12_moveAt 2 21 [(0, .ref l0), (1, .int l1), (2, .int l2), (3, .int l3)] [] h (K21 l0 l1 l2 l3 h)) {K33 : Nat → Int32 → Int32 → Int32 → Int32 → Hp → Option (Int32 × Hp)} (hK33 : ∀ (l0 : Nat) (l1 : Int32) (l2 : Int32) (l3 : Int32) (l4 : Int32) (h : Hp), G rvI I_X12_moveAt 2 33 [(0, .ref l0), (1, .int l1), (2, .int l2), (3, .int l3), (4, .int l4)] [] h (K33 l0 l1 l2 l3 l4 h)) (l0 : Nat) (l1 : Int32) (l2 : Int32) (l3 : Int32) (l4 : Int32) (h : Hp) : G rvI I_X12_moveAt 2 33 [(0, .ref l0), (1, .int l1), (2, .int l2), (3, .int l3), (4, .int l4)] [] h (f_X12_moveAt_33_b F K21 K33 l0 l1 l2 l3 l4 h) := by
  delta f_X12_moveAt_33_b
  refine g_aload_n 0 dX12_moveAt_33 rfl ?_
  refine g_iload_n 2 dX12_moveAt_34 rfl ?_
  refine g_iload 4 dX12_moveAt_35 rfl ?_
  refine g_iconst (v := 0) dX12_moveAt_37 (by decide) ?_
  refine g_callVi (J := I_X12_stillBy) (t := 13) (As := [.int l2, .int l4, .int 0]) (rest := []) mjv_X12_stillBy ml_RX12_365 ⟨rfl, by decide, by decide⟩ (by decide) rfl rfl (Nat.le_of_ble_eq_true rfl) dX12_moveAt_38 (T_X12_stillBy F l0 l2 l4 0 h) (fun v9 h10 => ?_)
  refine g_aload_n 0 dX12_moveAt_41 rfl ?_
  refine g_getR fl_RX12_47 rfl dX12_moveAt_42 (fun v11 => ?_)
  refine g_iload_n 2 dX12_moveAt_45 rfl ?_
  refine g_iald dX12_moveAt_46 (fun v12 => ?_)
  refine g_icmp_eq (tgt := 56) dX12_moveAt_47 (by decide) (fun c13 => ?_) (fun c13 => ?_)
  · refine g_iload_n 3 dX12_moveAt_56 rfl ?_
    refine g_iload_n 1 dX12_moveAt_57 rfl ?_
    refine g_icmp_ne (tgt := 67) dX12_moveAt_58 (by decide) (fun c14 => ?_) (fun c14 => ?_)
    · refine g_iload 4 dX12_moveAt_61 rfl ?_
      refine g_callSi (J := I_X12_toldMove) (As := [.int l4]) (rest := []) mjs_X12_toldMove ml_RX12_369 (by decide) rfl rfl (Nat.le_of_ble_eq_true rfl) dX12_moveAt_63 (T_X12_toldMove F l4 h10) (fun v15 h16 => ?_)
      exact g_iret rfl dX12_moveAt_66
    · refine g_aload_n 0 dX12_moveAt_67 rfl ?_
      refine g_getR fl_RX12_44 rfl dX12_moveAt_68 (fun v17 => ?_)
      refine g_bipush (v := 9) dX12_moveAt_71 (by decide) ?_
      refine g_iload_n 2 dX12_moveAt_73 rfl ?_
      refine g_imul dX12_moveAt_74 ?_
      refine g_iload 4 dX12_moveAt_75 rfl ?_
      refine g_iadd dX12_moveAt_77 ?_
      refine g_iald dX12_moveAt_78 (fun v18 => ?_)
      refine g_istore_n (lv' := [(2, .int v18), (0, .ref l0), (1, .int l1), (3, .int l3), (4, .int l4)]) dX12_moveAt_79 (by decide) rfl ?_
      refine g_iinc (v' := l3 + 1) (lv' := [(3, .int (l3 + 1)), (2, .int v18), (0, .ref l0), (1, .int l1), (4, .int l4)]) 3 dX12_moveAt_80 rfl rfl (by decide) rfl ?_
      refine g_goto (tgt := 21) dX12_moveAt_83 (by decide) ?_
      refine G_lv [2, 3, 1, 0] rfl ?_
      exact hK21 l0 l1 v18 (l3 + 1) h10
  · refine g_iinc (v' := l4 + 1) (lv' := [(4, .int (l4 + 1)), (0, .ref l0), (1, .int l1), (2, .int l2), (3, .int l3)]) 4 dX12_moveAt_50 rfl rfl (by decide) rfl ?_
    refine g_goto (tgt := 33) dX12_moveAt_53 (by decide) ?_
    refine G_lv [1, 2, 3, 4, 0] rfl ?_
    exact hK33 l0 l1 l2 l3 (l4 + 1) h10
set_option maxRecDepth 100000 in
noncomputable def f_X12_moveAt_33 (F : Nat) (K21 : Nat → Int32 → Int32 → Int32 → Hp → Option (Int32 × Hp)) : Nat → Nat → Int32 → Int32 → Int32 → Int32 → Hp → Option (Int32 × Hp)
  | 0, _, _, _, _, _, _ => none
  | n + 1, l0, l1, l2, l3, l4, h => f_X12_moveAt_33_b F K21 (f_X12_moveAt_33 F K21 n) l0 l1 l2 l3 l4 h
set_option maxRecDepth 100000 in
set_option maxHeartbeats 4000000 in
theorem T_X12_moveAt_33 (F : Nat) {K21 : Nat → Int32 → Int32 → Int32 → Hp → Option (Int32 × Hp)} (hK21 : ∀ (l0 : Nat) (l1 : Int32) (l2 : Int32) (l3 : Int32) (h : Hp), G rvI I_X12_moveAt 2 21 [(0, .ref l0), (1, .int l1), (2, .int l2), (3, .int l3)] [] h (K21 l0 l1 l2 l3 h)) : ∀ (n : Nat) (l0 : Nat) (l1 : Int32) (l2 : Int32) (l3 : Int32) (l4 : Int32) (h : Hp), G rvI I_X12_moveAt 2 33 [(0, .ref l0), (1, .int l1), (2, .int l2), (3, .int l3), (4, .int l4)] [] h (f_X12_moveAt_33 F K21 n l0 l1 l2 l3 l4 h) := by
  intro n
  induction n with
  | zero => intros; exact G_none
  | succ n ih => intro l0 l1 l2 l3 l4 h; exact T_X12_moveAt_33_b F hK21 ih l0 l1 l2 l3 l4 h
set_option maxRecDepth 100000 in
noncomputable def f_X12_moveAt_21_b (F : Nat) (K21 : Nat → Int32 → Int32 → Int32 → Hp → Option (Int32 × Hp)) (l0 : Nat) (l1 : Int32) (l2 : Int32) (l3 : Int32) (h : Hp) : Option (Int32 × Hp) :=
  gR 13 h l0 23 fun v6 => aI 20 h v6 l2 fun v7 => if v7 ≤ 0 then (some ((-1), h)) else (f_X12_moveAt_33 F K21 F l0 l1 l2 l3 0 h)
set_option maxRecDepth 100000 in
set_option maxHeartbeats 4000000 in
theorem T_X12_moveAt_21_b (F : Nat) {K21 : Nat → Int32 → Int32 → Int32 → Hp → Option (Int32 × Hp)} (hK21 : ∀ (l0 : Nat) (l1 : Int32) (l2 : Int32) (l3 : Int32) (h : Hp), G rvI I_X12_moveAt 2 21 [(0, .ref l0), (1, .int l1), (2, .int l2), (3, .int l3)] [] h (K21 l0 l1 l2 l3 h)) (l0 : Nat) (l1 : Int32) (l2 : Int32) (l3 : Int32) (h : Hp) : G rvI I_X12_moveAt 2 21 [(0, .ref l0), (1, .int l1), (2, .int l2), (3, .int l3)] [] h (f_X12_moveAt_21_b F K21 l0 l1 l2 l3 h) := by
  delta f_X12_moveAt_21_b
  refine g_aload_n 0 dX12_moveAt_21 rfl ?_
  refine g_getR fl_RX12_47 rfl dX12_moveAt_22 (fun v6 => ?_)
  refine g_iload_n 2 dX12_moveAt_25 rfl ?_
  refine g_iald dX12_moveAt_26 (fun v7 => ?_)
  refine g_if_le (tgt := 86) dX12_moveAt_27 (by decide) (fun c8 => ?_) (fun c8 => ?_)
  · refine g_iconst (v := (-1)) dX12_moveAt_86 (by decide) ?_
    exact g_iret rfl dX12_moveAt_87
  · refine g_iconst (v := 0) dX12_moveAt_30 (by decide) ?_
    refine g_istore (lv' := [(4, .int 0), (0, .ref l0), (1, .int l1), (2, .int l2), (3, .int l3)]) dX12_moveAt_31 (by decide) rfl ?_
    refine G_lv [1, 2, 3, 4, 0] rfl ?_
    exact T_X12_moveAt_33 F hK21 F l0 l1 l2 l3 0 h
set_option maxRecDepth 100000 in
noncomputable def f_X12_moveAt_21 (F : Nat) : Nat → Nat → Int32 → Int32 → Int32 → Hp → Option (Int32 × Hp)
  | 0, _, _, _, _, _ => none
  | n + 1, l0, l1, l2, l3, h => f_X12_moveAt_21_b F (f_X12_moveAt_21 F n) l0 l1 l2 l3 h
set_option maxRecDepth 100000 in
set_option maxHeartbeats 4000000 in
theorem T_X12_moveAt_21 (F : Nat) : ∀ (n : Nat) (l0 : Nat) (l1 : Int32) (l2 : Int32) (l3 : Int32) (h : Hp), G rvI I_X12_moveAt 2 21 [(0, .ref l0), (1, .int l1), (2, .int l2), (3, .int l3)] [] h (f_X12_moveAt_21 F n l0 l1 l2 l3 h) := by
  intro n
  induction n with
  | zero => intros; exact G_none
  | succ n ih => intro l0 l1 l2 l3 h; exact T_X12_moveAt_21_b F ih l0 l1 l2 l3 h
set_option maxRecDepth 100000 in
noncomputable def f_X12_moveAt (F : Nat) (a0 : Nat) (a1 : Int32) (h : Hp) : Option (Int32 × Hp) :=
  cV 13 h a0 (f_X12_standNow F a0 h) fun v1 h2 => gR 13 h2 a0 23 fun v3 => aI 20 h2 v3 v1 fun v4 => if v4 = 268435456 then (some ((-1), h2)) else (f_X12_moveAt_21 F F a0 a1 v1 0 h2)
set_option maxRecDepth 100000 in
set_option maxHeartbeats 4000000 in
theorem T_X12_moveAt (F : Nat) (a0 : Nat) (a1 : Int32) (h : Hp) : GM rvI I_X12_moveAt 2 [.ref a0, .int a1] h (f_X12_moveAt F a0 a1 h) := by
  delta f_X12_moveAt
  refine GM_of (lv := [(0, .ref a0), (1, .int a1)]) (by decide +kernel) (Nat.le_of_ble_eq_true rfl) rfl ?_
  refine g_aload_n 0 dX12_moveAt_0 rfl ?_
  refine g_callVi (J := I_X12_standNow) (t := 13) (As := []) (rest := []) mjv_X12_standNow ml_RX12_260 ⟨rfl, by decide, by decide⟩ (by decide) rfl rfl (Nat.le_of_ble_eq_true rfl) dX12_moveAt_1 (T_X12_standNow F a0 h) (fun v1 h2 => ?_)
  refine g_istore_n (lv' := [(2, .int v1), (0, .ref a0), (1, .int a1)]) dX12_moveAt_4 (by decide) rfl ?_
  refine g_aload_n 1 dX12_moveAt_5 rfl ?_
  refine g_getR fl_RX12_47 rfl dX12_moveAt_6 (fun v3 => ?_)
  refine g_iload_n 0 dX12_moveAt_9 rfl ?_
  refine g_iald dX12_moveAt_10 (fun v4 => ?_)
  refine g_ldcw (v := 268435456) dX12_moveAt_11 co_RX12_357 ?_
  refine g_icmp_ne (tgt := 19) dX12_moveAt_14 (by decide) (fun c5 => ?_) (fun c5 => ?_)
  · refine g_iconst (v := (-1)) dX12_moveAt_17 (by decide) ?_
    exact g_iret rfl dX12_moveAt_18
  · refine g_iconst (v := 0) dX12_moveAt_19 (by decide) ?_
    refine g_istore_n (lv' := [(3, .int 0), (2, .int v1), (0, .ref a0), (1, .int a1)]) dX12_moveAt_20 (by decide) rfl ?_
    refine G_lv [2, 3, 1, 0] rfl ?_
    exact T_X12_moveAt_21 F F a0 a1 v1 0 h2
set_option maxRecDepth 100000 in
noncomputable def f_X12_aloneWay (F : Nat) (a0 : Nat) (a1 : Int32) (a2 : Int32) (a3 : Int32) (h : Hp) : Option (Int32 × Hp) :=
  pI 13 h a0 0 0 fun h1 => bd (f_X12_isTwin F (a1.toInt64) h1) fun v2 h3 => if v2 = 0 then (some ((-2), h3)) else (cV 13 h3 a0 (f_X12_isDoing F a0 a2 h3) fun v5 h6 => if v5 = 0 then (some ((-2), h6)) else (if 0 ≤ a3 then (cV 13 h6 a0 (f_X12_laysAlone F a0 a1 a2 h6) fun v9 h10 => cV 13 h10 a0 (f_X12_moveAt F a0 a3 h10) fun v11 h12 => some (v11, h12)) else (some ((-3), h6))))
set_option maxRecDepth 100000 in
set_option maxHeartbeats 4000000 in
theorem T_X12_aloneWay (F : Nat) (a0 : Nat) (a1 : Int32) (a2 : Int32) (a3 : Int32) (h : Hp) : GM rvI I_X12_aloneWay 10 [.ref a0, .int a1, .int a2, .int a3] h (f_X12_aloneWay F a0 a1 a2 a3 h) := by
  delta f_X12_aloneWay
  refine GM_of (lv := [(0, .ref a0), (1, .int a1), (2, .int a2), (3, .int a3)]) (by decide +kernel) (Nat.le_of_ble_eq_true rfl) rfl ?_
  refine g_aload_n 0 dX12_aloneWay_0 rfl ?_
  refine g_iconst (v := 0) dX12_aloneWay_1 (by decide) ?_
  refine g_putI fl_RX12_1 (Or.inl rfl) dX12_aloneWay_2 (fun h1 => ?_)
  refine g_iload_n 1 dX12_aloneWay_5 rfl ?_
  refine g_i2l dX12_aloneWay_6 ?_
  refine g_callSi (J := I_X12_isTwin) (As := [.long (a1.toInt64)]) (rest := []) mjs_X12_isTwin ml_RX12_250 (by decide) rfl rfl (Nat.le_of_ble_eq_true rfl) dX12_aloneWay_7 (T_X12_isTwin F (a1.toInt64) h1) (fun v2 h3 => ?_)
  refine g_if_eq (tgt := 21) dX12_aloneWay_10 (by decide) (fun c4 => ?_) (fun c4 => ?_)
  · refine g_bipush (v := (-2)) dX12_aloneWay_21 (by decide) ?_
    exact g_iret rfl dX12_aloneWay_23
  · refine g_aload_n 0 dX12_aloneWay_13 rfl ?_
    refine g_iload_n 2 dX12_aloneWay_14 rfl ?_
    refine g_callVi (J := I_X12_isDoing) (t := 13) (As := [.int a2]) (rest := []) mjv_X12_isDoing ml_RX12_257 ⟨rfl, by decide, by decide⟩ (by decide) rfl rfl (Nat.le_of_ble_eq_true rfl) dX12_aloneWay_15 (T_X12_isDoing F a0 a2 h3) (fun v5 h6 => ?_)
    refine g_if_ne (tgt := 24) dX12_aloneWay_18 (by decide) (fun c7 => ?_) (fun c7 => ?_)
    · refine g_bipush (v := (-2)) dX12_aloneWay_21 (by decide) ?_
      exact g_iret rfl dX12_aloneWay_23
    · refine g_iload_n 3 dX12_aloneWay_24 rfl ?_
      refine g_if_ge (tgt := 31) dX12_aloneWay_25 (by decide) (fun c8 => ?_) (fun c8 => ?_)
      · refine g_aload_n 0 dX12_aloneWay_31 rfl ?_
        refine g_iload_n 1 dX12_aloneWay_32 rfl ?_
        refine g_iload_n 2 dX12_aloneWay_33 rfl ?_
        refine g_callVi (J := I_X12_laysAlone) (t := 13) (As := [.int a1, .int a2]) (rest := []) mjv_X12_laysAlone ml_RX12_393 ⟨rfl, by decide, by decide⟩ (by decide) rfl rfl (Nat.le_of_ble_eq_true rfl) dX12_aloneWay_34 (T_X12_laysAlone F a0 a1 a2 h6) (fun v9 h10 => ?_)
        refine g_pop dX12_aloneWay_37 rfl ?_
        refine g_aload_n 0 dX12_aloneWay_38 rfl ?_
        refine g_iload_n 3 dX12_aloneWay_39 rfl ?_
        refine g_callVi (J := I_X12_moveAt) (t := 13) (As := [.int a3]) (rest := []) mjv_X12_moveAt ml_RX12_390 ⟨rfl, by decide, by decide⟩ (by decide) rfl rfl (Nat.le_of_ble_eq_true rfl) dX12_aloneWay_40 (T_X12_moveAt F a0 a3 h10) (fun v11 h12 => ?_)
        exact g_iret rfl dX12_aloneWay_43
      · refine g_bipush (v := (-3)) dX12_aloneWay_28 (by decide) ?_
        exact g_iret rfl dX12_aloneWay_30
set_option maxRecDepth 100000 in
noncomputable def f_X12_isAgain_2_b (F : Nat) (K2 : Nat → Int32 → Hp → Option (Unit × Hp)) (l0 : Nat) (l1 : Int32) (h : Hp) : Option (Unit × Hp) :=
  if 9 ≤ l1 then (some ((), h)) else (gR 13 h l0 1 fun v2 => gR 13 h l0 18 fun v3 => aI 20 h v3 l1 fun v4 => wI h v2 (43 + l1) v4 fun h5 => K2 l0 (l1 + 1) h5)
set_option maxRecDepth 100000 in
set_option maxHeartbeats 4000000 in
theorem T_X12_isAgain_2_b (F : Nat) {K2 : Nat → Int32 → Hp → Option (Unit × Hp)} (hK2 : ∀ (l0 : Nat) (l1 : Int32) (h : Hp), G rvV I_X12_isAgain 1 2 [(0, .ref l0), (1, .int l1)] [] h (K2 l0 l1 h)) (l0 : Nat) (l1 : Int32) (h : Hp) : G rvV I_X12_isAgain 1 2 [(0, .ref l0), (1, .int l1)] [] h (f_X12_isAgain_2_b F K2 l0 l1 h) := by
  delta f_X12_isAgain_2_b
  refine g_iload_n 1 dX12_isAgain_2 rfl ?_
  refine g_bipush (v := 9) dX12_isAgain_3 (by decide) ?_
  refine g_icmp_ge (tgt := 29) dX12_isAgain_5 (by decide) (fun c1 => ?_) (fun c1 => ?_)
  · exact g_vret rfl dX12_isAgain_29
  · refine g_aload_n 0 dX12_isAgain_8 rfl ?_
    refine g_getR fl_RX12_13 rfl dX12_isAgain_9 (fun v2 => ?_)
    refine g_bipush (v := 43) dX12_isAgain_12 (by decide) ?_
    refine g_iload_n 1 dX12_isAgain_14 rfl ?_
    refine g_iadd dX12_isAgain_15 ?_
    refine g_aload_n 0 dX12_isAgain_16 rfl ?_
    refine g_getR fl_RX12_36 rfl dX12_isAgain_17 (fun v3 => ?_)
    refine g_iload_n 1 dX12_isAgain_20 rfl ?_
    refine g_iald dX12_isAgain_21 (fun v4 => ?_)
    refine g_iast dX12_isAgain_22 (fun h5 => ?_)
    refine g_iinc (v' := l1 + 1) (lv' := [(1, .int (l1 + 1)), (0, .ref l0)]) 1 dX12_isAgain_23 rfl rfl (by decide) rfl ?_
    refine g_goto (tgt := 2) dX12_isAgain_26 (by decide) ?_
    refine G_lv [1, 0] rfl ?_
    exact hK2 l0 (l1 + 1) h5
set_option maxRecDepth 100000 in
noncomputable def f_X12_isAgain_2 (F : Nat) : Nat → Nat → Int32 → Hp → Option (Unit × Hp)
  | 0, _, _, _ => none
  | n + 1, l0, l1, h => f_X12_isAgain_2_b F (f_X12_isAgain_2 F n) l0 l1 h
set_option maxRecDepth 100000 in
set_option maxHeartbeats 4000000 in
theorem T_X12_isAgain_2 (F : Nat) : ∀ (n : Nat) (l0 : Nat) (l1 : Int32) (h : Hp), G rvV I_X12_isAgain 1 2 [(0, .ref l0), (1, .int l1)] [] h (f_X12_isAgain_2 F n l0 l1 h) := by
  intro n
  induction n with
  | zero => intros; exact G_none
  | succ n ih => intro l0 l1 h; exact T_X12_isAgain_2_b F ih l0 l1 h
set_option maxRecDepth 100000 in
noncomputable def f_X12_isAgain (F : Nat) (a0 : Nat) (h : Hp) : Option (Unit × Hp) :=
  f_X12_isAgain_2 F F a0 0 h
set_option maxRecDepth 100000 in
set_option maxHeartbeats 4000000 in
theorem T_X12_isAgain (F : Nat) (a0 : Nat) (h : Hp) : GM rvV I_X12_isAgain 1 [.ref a0] h (f_X12_isAgain F a0 h) := by
  delta f_X12_isAgain
  refine GM_of (lv := [(0, .ref a0)]) (by decide +kernel) (Nat.le_of_ble_eq_true rfl) rfl ?_
  refine g_iconst (v := 0) dX12_isAgain_0 (by decide) ?_
  refine g_istore_n (lv' := [(1, .int 0), (0, .ref a0)]) dX12_isAgain_1 (by decide) rfl ?_
  refine G_lv [1, 0] rfl ?_
  exact T_X12_isAgain_2 F F a0 0 h
