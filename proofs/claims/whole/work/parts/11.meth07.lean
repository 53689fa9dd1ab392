/-! L2, by program (wip/whole/gen/gen.py) -/
set_option maxRecDepth 100000 in
noncomputable def f_X3_weigh_57_b (F : Nat) (K2 : Nat → Nat → Int32 → Hp → Option (Unit × Hp)) (K9 : Nat → Nat → Int32 → Int32 → Hp → Option (Unit × Hp)) (K45 : Nat → Nat → Int32 → Int32 → Int32 → Hp → Option (Unit × Hp)) (K57 : Nat → Nat → Int32 → Int32 → Int32 → Int32 → Hp → Option (Unit × Hp)) (l0 : Nat) (l1 : Nat) (l2 : Int32) (l3 : Int32) (l4 : Int32) (l5 : Int32) (h : Hp) : Option (Unit × Hp) :=
  gI 3 h l1 0 fun v14 => if v14 < l5 then (K45 l0 l1 l2 l3 (l4 + 1) h) else (gR 4 h l0 6 fun v16 => wI h v16 3 l4 fun h17 => gR 4 h17 l0 6 fun v18 => wI h17 v18 4 l5 fun h19 => cV 4 h19 l0 (f_X3_weighBonds F l0 l1 h19) fun v20 h21 => K57 l0 l1 l2 l3 l4 (l5 + 1) h21)
set_option maxRecDepth 100000 in
set_option maxHeartbeats 4000000 in
theorem T_X3_weigh_57_b (F : Nat) {K2 : Nat → Nat → Int32 → Hp → Option (Unit × Hp)} (hK2 : ∀ (l0 : Nat) (l1 : Nat) (l2 : Int32) (h : Hp), G rvV I_X3_weigh 6 2 [(0, .ref l0), (1, .ref l1), (2, .int l2)] [] h (K2 l0 l1 l2 h)) {K9 : Nat → Nat → Int32 → Int32 → Hp → Option (Unit × Hp)} (hK9 : ∀ (l0 : Nat) (l1 : Nat) (l2 : Int32) (l3 : Int32) (h : Hp), G rvV I_X3_weigh 6 9 [(0, .ref l0), (1, .ref l1), (2, .int l2), (3, .int l3)] [] h (K9 l0 l1 l2 l3 h)) {K45 : Nat → Nat → Int32 → Int32 → Int32 → Hp → Option (Unit × Hp)} (hK45 : ∀ (l0 : Nat) (l1 : Nat) (l2 : Int32) (l3 : Int32) (l4 : Int32) (h : Hp), G rvV I_X3_weigh 6 45 [(0, .ref l0), (1, .ref l1), (2, .int l2), (3, .int l3), (4, .int l4)] [] h (K45 l0 l1 l2 l3 l4 h)) {K57 : Nat → Nat → Int32 → Int32 → Int32 → Int32 → Hp → Option (Unit × Hp)} (hK57 : ∀ (l0 : Nat) (l1 : Nat) (l2 : Int32) (l3 : Int32) (l4 : Int32) (l5 : Int32) (h : Hp), G rvV I_X3_weigh 6 57 [(0, .ref l0), (1, .ref l1), (2, .int l2), (3, .int l3), (4, .int l4), (5, .int l5)] [] h (K57 l0 l1 l2 l3 l4 l5 h)) (l0 : Nat) (l1 : Nat) (l2 : Int32) (l3 : Int32) (l4 : Int32) (l5 : Int32) (h : Hp) : G rvV I_X3_weigh 6 57 [(0, .ref l0), (1, .ref l1), (2, .int l2), (3, .int l3), (4, .int l4), (5, .int l5)] [] h (f_X3_weigh_57_b F K2 K9 K45 K57 l0 l1 l2 l3 l4 l5 h) := by
  delta f_X3_weigh_57_b
  refine g_iload 5 dX3_weigh_57 rfl ?_
  refine g_aload_n 1 dX3_weigh_59 rfl ?_
  refine g_getI fl_RX3_37 rfl dX3_weigh_60 (fun v14 => ?_)
  refine g_icmp_gt (tgt := 93) dX3_weigh_63 (by decide) (fun c15 => ?_) (fun c15 => ?_)
  · refine g_iinc (v' := l4 + 1) (lv' := [(4, .int (l4 + 1)), (0, .ref l0), (1, .ref l1), (2, .int l2), (3, .int l3), (5, .int l5)]) 4 dX3_weigh_93 rfl rfl (by decide) rfl ?_
    refine g_goto (tgt := 45) dX3_weigh_96 (by decide) ?_
    refine G_lv [1, 2, 3, 4, 0] rfl ?_
    exact hK45 l0 l1 l2 l3 (l4 + 1) h
  · refine g_aload_n 0 dX3_weigh_66 rfl ?_
    refine g_getR fl_RX3_15 rfl dX3_weigh_67 (fun v16 => ?_)
    refine g_iconst (v := 3) dX3_weigh_70 (by decide) ?_
    refine g_iload 4 dX3_weigh_71 rfl ?_
    refine g_iast dX3_weigh_73 (fun h17 => ?_)
    refine g_aload_n 0 dX3_weigh_74 rfl ?_
    refine g_getR fl_RX3_15 rfl dX3_weigh_75 (fun v18 => ?_)
    refine g_iconst (v := 4) dX3_weigh_78 (by decide) ?_
    refine g_iload 5 dX3_weigh_79 rfl ?_
    refine g_iast dX3_weigh_81 (fun h19 => ?_)
    refine g_aload_n 0 dX3_weigh_82 rfl ?_
    refine g_aload_n 1 dX3_weigh_83 rfl ?_
    refine g_callVv (J := I_X3_weighBonds) (t := 4) (As := [.ref l1]) (rest := []) mjv_X3_weighBonds ml_RX3_46 ⟨rfl, by decide, by decide⟩ (by decide) rfl rfl (Nat.le_of_ble_eq_true rfl) dX3_weigh_84 (T_X3_weighBonds F l0 l1 h19) (fun v20 h21 => ?_)
    refine g_iinc (v' := l5 + 1) (lv' := [(5, .int (l5 + 1)), (0, .ref l0), (1, .ref l1), (2, .int l2), (3, .int l3), (4, .int l4)]) 5 dX3_weigh_87 rfl rfl (by decide) rfl ?_
    refine g_goto (tgt := 57) dX3_weigh_90 (by decide) ?_
    refine G_lv [1, 2, 3, 4, 5, 0] rfl ?_
    exact hK57 l0 l1 l2 l3 l4 (l5 + 1) h21
set_option maxRecDepth 100000 in
noncomputable def f_X3_weigh_57 (F : Nat) (K2 : Nat → Nat → Int32 → Hp → Option (Unit × Hp)) (K9 : Nat → Nat → Int32 → Int32 → Hp → Option (Unit × Hp)) (K45 : Nat → Nat → Int32 → Int32 → Int32 → Hp → Option (Unit × Hp)) : Nat → Nat → Nat → Int32 → Int32 → Int32 → Int32 → Hp → Option (Unit × Hp)
  | 0, _, _, _, _, _, _, _ => none
  | n + 1, l0, l1, l2, l3, l4, l5, h => f_X3_weigh_57_b F K2 K9 K45 (f_X3_weigh_57 F K2 K9 K45 n) l0 l1 l2 l3 l4 l5 h
set_option maxRecDepth 100000 in
set_option maxHeartbeats 4000000 in
theorem T_X3_weigh_57 (F : Nat) {K2 : Nat → Nat → Int32 → Hp → Option (Unit × Hp)} (hK2 : ∀ (l0 : Nat) (l1 : Nat) (l2 : Int32) (h : Hp), G rvV I_X3_weigh 6 2 [(0, .ref l0), (1, .ref l1), (2, .int l2)] [] h (K2 l0 l1 l2 h)) {K9 : Nat → Nat → Int32 → Int32 → Hp → Option (Unit × Hp)} (hK9 : ∀ (l0 : Nat) (l1 : Nat) (l2 : Int32) (l3 : Int32) (h : Hp), G rvV I_X3_weigh 6 9 [(0, .ref l0), (1, .ref l1), (2, .int l2), (3, .int l3)] [] h (K9 l0 l1 l2 l3 h)) {K45 : Nat → Nat → Int32 → Int32 → Int32 → Hp → Option (Unit × Hp)} (hK45 : ∀ (l0 : Nat) (l1 : Nat) (l2 : Int32) (l3 : Int32) (l4 : Int32) (h : Hp), G rvV I_X3_weigh 6 45 [(0, .ref l0), (1, .ref l1), (2, .int l2), (3, .int l3), (4, .int l4)] [] h (K45 l0 l1 l2 l3 l4 h)) : ∀ (n : Nat) (l0 : Nat) (l1 : Nat) (l2 : Int32) (l3 : Int32) (l4 : Int32) (l5 : Int32) (h : Hp), G rvV I_X3_weigh 6 57 [(0, .ref l0), (1, .ref l1), (2, .int l2), (3, .int l3), (4, .int l4), (5, .int l5)] [] h (f_X3_weigh_57 F K2 K9 K45 n l0 l1 l2 l3 l4 l5 h) := by
  intro n
  induction n with
  | zero => intros; exact G_none
  | succ n ih => intro l0 l1 l2 l3 l4 l5 h; exact T_X3_weigh_57_b F hK2 hK9 hK45 ih l0 l1 l2 l3 l4 l5 h
set_option maxRecDepth 100000 in
noncomputable def f_X3_weigh_45_b (F : Nat) (K2 : Nat → Nat → Int32 → Hp → Option (Unit × Hp)) (K9 : Nat → Nat → Int32 → Int32 → Hp → Option (Unit × Hp)) (K45 : Nat → Nat → Int32 → Int32 → Int32 → Hp → Option (Unit × Hp)) (l0 : Nat) (l1 : Nat) (l2 : Int32) (l3 : Int32) (l4 : Int32) (h : Hp) : Option (Unit × Hp) :=
  gI 3 h l1 0 fun v12 => if v12 < l4 then (K9 l0 l1 l2 (l3 + 1) h) else (f_X3_weigh_57 F K2 K9 K45 F l0 l1 l2 l3 l4 0 h)
set_option maxRecDepth 100000 in
set_option maxHeartbeats 4000000 in
theorem T_X3_weigh_45_b (F : Nat) {K2 : Nat → Nat → Int32 → Hp → Option (Unit × Hp)} (hK2 : ∀ (l0 : Nat) (l1 : Nat) (l2 : Int32) (h : Hp), G rvV I_X3_weigh 6 2 [(0, .ref l0), (1, .ref l1), (2, .int l2)] [] h (K2 l0 l1 l2 h)) {K9 : Nat → Nat → Int32 → Int32 → Hp → Option (Unit × Hp)} (hK9 : ∀ (l0 : Nat) (l1 : Nat) (l2 : Int32) (l3 : Int32) (h : Hp), G rvV I_X3_weigh 6 9 [(0, .ref l0), (1, .ref l1), (2, .int l2), (3, .int l3)] [] h (K9 l0 l1 l2 l3 h)) {K45 : Nat → Nat → Int32 → Int32 → Int32 → Hp → Option (Unit × Hp)} (hK45 : ∀ (l0 : Nat) (l1 : Nat) (l2 : Int32) (l3 : Int32) (l4 : Int32) (h : Hp), G rvV I_X3_weigh 6 45 [(0, .ref l0), (1, .ref l1), (2, .int l2), (3, .int l3), (4, .int l4)] [] h (K45 l0 l1 l2 l3 l4 h)) (l0 : Nat) (l1 : Nat) (l2 : Int32) (l3 : Int32) (l4 : Int32) (h : Hp) : G rvV I_X3_weigh 6 45 [(0, .ref l0), (1, .ref l1), (2, .int l2), (3, .int l3), (4, .int l4)] [] h (f_X3_weigh_45_b F K2 K9 K45 l0 l1 l2 l3 l4 h) := by
  delta f_X3_weigh_45_b
  refine g_iload 4 dX3_weigh_45 rfl ?_
  refine g_aload_n 1 dX3_weigh_47 rfl ?_
  refine g_getI fl_RX3_37 rfl dX3_weigh_48 (fun v12 => ?_)
  refine g_icmp_gt (tgt := 99) dX3_weigh_51 (by decide) (fun c13 => ?_) (fun c13 => ?_)
  · refine g_iinc (v' := l3 + 1) (lv' := [(3, .int (l3 + 1)), (0, .ref l0), (1, .ref l1), (2, .int l2), (4, .int l4)]) 3 dX3_weigh_99 rfl rfl (by decide) rfl ?_
    refine g_goto (tgt := 9) dX3_weigh_102 (by decide) ?_
    refine G_lv [1, 2, 3, 0] rfl ?_
    exact hK9 l0 l1 l2 (l3 + 1) h
  · refine g_iconst (v := 0) dX3_weigh_54 (by decide) ?_
    refine g_istore (lv' := [(5, .int 0), (0, .ref l0), (1, .ref l1), (2, .int l2), (3, .int l3), (4, .int l4)]) dX3_weigh_55 (by decide) rfl ?_
    refine G_lv [1, 2, 3, 4, 5, 0] rfl ?_
    exact T_X3_weigh_57 F hK2 hK9 hK45 F l0 l1 l2 l3 l4 0 h
set_option maxRecDepth 100000 in
noncomputable def f_X3_weigh_45 (F : Nat) (K2 : Nat → Nat → Int32 → Hp → Option (Unit × Hp)) (K9 : Nat → Nat → Int32 → Int32 → Hp → Option (Unit × Hp)) : Nat → Nat → Nat → Int32 → Int32 → Int32 → Hp → Option (Unit × Hp)
  | 0, _, _, _, _, _, _ => none
  | n + 1, l0, l1, l2, l3, l4, h => f_X3_weigh_45_b F K2 K9 (f_X3_weigh_45 F K2 K9 n) l0 l1 l2 l3 l4 h
set_option maxRecDepth 100000 in
set_option maxHeartbeats 4000000 in
theorem T_X3_weigh_45 (F : Nat) {K2 : Nat → Nat → Int32 → Hp → Option (Unit × Hp)} (hK2 : ∀ (l0 : Nat) (l1 : Nat) (l2 : Int32) (h : Hp), G rvV I_X3_weigh 6 2 [(0, .ref l0), (1, .ref l1), (2, .int l2)] [] h (K2 l0 l1 l2 h)) {K9 : Nat → Nat → Int32 → Int32 → Hp → Option (Unit × Hp)} (hK9 : ∀ (l0 : Nat) (l1 : Nat) (l2 : Int32) (l3 : Int32) (h : Hp), G rvV I_X3_weigh 6 9 [(0, .ref l0), (1, .ref l1), (2, .int l2), (3, .int l3)] [] h (K9 l0 l1 l2 l3 h)) : ∀ (n : Nat) (l0 : Nat) (l1 : Nat) (l2 : Int32) (l3 : Int32) (l4 : Int32) (h : Hp), G rvV I_X3_weigh 6 45 [(0, .ref l0), (1, .ref l1), (2, .int l2), (3, .int l3), (4, .int l4)] [] h (f_X3_weigh_45 F K2 K9 n l0 l1 l2 l3 l4 h) := by
  intro n
  induction n with
  | zero => intros; exact G_none
  | succ n ih => intro l0 l1 l2 l3 l4 h; exact T_X3_weigh_45_b F hK2 hK9 ih l0 l1 l2 l3 l4 h
set_option maxRecDepth 100000 in
noncomputable def f_X3_weigh_9_b (F : Nat) (K2 : Nat → Nat → Int32 → Hp → Option (Unit × Hp)) (K9 : Nat → Nat → Int32 → Int32 → Hp → Option (Unit × Hp)) (l0 : Nat) (l1 : Nat) (l2 : Int32) (l3 : Int32) (h : Hp) : Option (Unit × Hp) :=
  gI 3 h l1 0 fun v2 => if v2 ≤ l3 then (K2 l0 l1 (l2 + 1) h) else (gR 4 h l0 6 fun v4 => wI h v4 0 l2 fun h5 => gR 4 h5 l0 6 fun v6 => wI h5 v6 1 l3 fun h7 => gR 4 h7 l0 6 fun v8 => cV 3 h7 l1 (f_X2_kindOf F l1 l3 h7) fun v9 h10 => wI h10 v8 2 v9 fun h11 => f_X3_weigh_45 F K2 K9 F l0 l1 l2 l3 0 h11)
set_option maxRecDepth 100000 in
set_option maxHeartbeats 4000000 in
theorem T_X3_weigh_9_b (F : Nat) {K2 : Nat → Nat → Int32 → Hp → Option (Unit × Hp)} (hK2 : ∀ (l0 : Nat) (l1 : Nat) (l2 : Int32) (h : Hp), G rvV I_X3_weigh 6 2 [(0, .ref l0), (1, .ref l1), (2, .int l2)] [] h (K2 l0 l1 l2 h)) {K9 : Nat → Nat → Int32 → Int32 → Hp → Option (Unit × Hp)} (hK9 : ∀ (l0 : Nat) (l1 : Nat) (l2 : Int32) (l3 : Int32) (h : Hp), G rvV I_X3_weigh 6 9 [(0, .ref l0), (1, .ref l1), (2, .int l2), (3, .int l3)] [] h (K9 l0 l1 l2 l3 h)) (l0 : Nat) (l1 : Nat) (l2 : Int32) (l3 : Int32) (h : Hp) : G rvV I_X3_weigh 6 9 [(0, .ref l0), (1, .ref l1), (2, .int l2), (3, .int l3)] [] h (f_X3_weigh_9_b F K2 K9 l0 l1 l2 l3 h) := by
  delta f_X3_weigh_9_b
  refine g_iload_n 3 dX3_weigh_9 rfl ?_
  refine g_aload_n 1 dX3_weigh_10 rfl ?_
  refine g_getI fl_RX3_37 rfl dX3_weigh_11 (fun v2 => ?_)
  refine g_icmp_ge (tgt := 105) dX3_weigh_14 (by decide) (fun c3 => ?_) (fun c3 => ?_)
  · refine g_iinc (v' := l2 + 1) (lv' := [(2, .int (l2 + 1)), (0, .ref l0), (1, .ref l1), (3, .int l3)]) 2 dX3_weigh_105 rfl rfl (by decide) rfl ?_
    refine g_goto (tgt := 2) dX3_weigh_108 (by decide) ?_
    refine G_lv [1, 2, 0] rfl ?_
    exact hK2 l0 l1 (l2 + 1) h
  · refine g_aload_n 0 dX3_weigh_17 rfl ?_
    refine g_getR fl_RX3_15 rfl dX3_weigh_18 (fun v4 => ?_)
    refine g_iconst (v := 0) dX3_weigh_21 (by decide) ?_
    refine g_iload_n 2 dX3_weigh_22 rfl ?_
    refine g_iast dX3_weigh_23 (fun h5 => ?_)
    refine g_aload_n 0 dX3_weigh_24 rfl ?_
    refine g_getR fl_RX3_15 rfl dX3_weigh_25 (fun v6 => ?_)
    refine g_iconst (v := 1) dX3_weigh_28 (by decide) ?_
    refine g_iload_n 3 dX3_weigh_29 rfl ?_
    refine g_iast dX3_weigh_30 (fun h7 => ?_)
    refine g_aload_n 0 dX3_weigh_31 rfl ?_
    refine g_getR fl_RX3_15 rfl dX3_weigh_32 (fun v8 => ?_)
    refine g_iconst (v := 2) dX3_weigh_35 (by decide) ?_
    refine g_aload_n 1 dX3_weigh_36 rfl ?_
    refine g_iload_n 3 dX3_weigh_37 rfl ?_
    refine g_callVi (J := I_X2_kindOf) (t := 3) (As := [.int l3]) (rest := [.int 2, .ref v8]) mjv_X2_kindOf ml_RX3_42 ⟨rfl, by decide, by decide⟩ (by decide) rfl rfl (Nat.le_of_ble_eq_true rfl) dX3_weigh_38 (T_X2_kindOf F l1 l3 h7) (fun v9 h10 => ?_)
    refine g_iast dX3_weigh_41 (fun h11 => ?_)
    refine g_iconst (v := 0) dX3_weigh_42 (by decide) ?_
    refine g_istore (lv' := [(4, .int 0), (0, .ref l0), (1, .ref l1), (2, .int l2), (3, .int l3)]) dX3_weigh_43 (by decide) rfl ?_
    refine G_lv [1, 2, 3, 4, 0] rfl ?_
    exact T_X3_weigh_45 F hK2 hK9 F l0 l1 l2 l3 0 h11
set_option maxRecDepth 100000 in
noncomputable def f_X3_weigh_9 (F : Nat) (K2 : Nat → Nat → Int32 → Hp → Option (Unit × Hp)) : Nat → Nat → Nat → Int32 → Int32 → Hp → Option (Unit × Hp)
  | 0, _, _, _, _, _ => none
  | n + 1, l0, l1, l2, l3, h => f_X3_weigh_9_b F K2 (f_X3_weigh_9 F K2 n) l0 l1 l2 l3 h
set_option maxRecDepth 100000 in
set_option maxHeartbeats 4000000 in
theorem T_X3_weigh_9 (F : Nat) {K2 : Nat → Nat → Int32 → Hp → Option (Unit × Hp)} (hK2 : ∀ (l0 : Nat) (l1 : Nat) (l2 : Int32) (h : Hp), G rvV I_X3_weigh 6 2 [(0, .ref l0), (1, .ref l1), (2, .int l2)] [] h (K2 l0 l1 l2 h)) : ∀ (n : Nat) (l0 : Nat) (l1 : Nat) (l2 : Int32) (l3 : Int32) (h : Hp), G rvV I_X3_weigh 6 9 [(0, .ref l0), (1, .ref l1), (2, .int l2), (3, .int l3)] [] h (f_X3_weigh_9 F K2 n l0 l1 l2 l3 h) := by
  intro n
  induction n with
  | zero => intros; exact G_none
  | succ n ih => intro l0 l1 l2 l3 h; exact T_X3_weigh_9_b F hK2 ih l0 l1 l2 l3 h
set_option maxRecDepth 100000 in
noncomputable def f_X3_weigh_2_b (F : Nat) (K2 : Nat → Nat → Int32 → Hp → Option (Unit × Hp)) (l0 : Nat) (l1 : Nat) (l2 : Int32) (h : Hp) : Option (Unit × Hp) :=
  if 2 ≤ l2 then (some ((), h)) else (f_X3_weigh_9 F K2 F l0 l1 l2 0 h)
set_option maxRecDepth 100000 in
set_option maxHeartbeats 4000000 in
theorem T_X3_weigh_2_b (F : Nat) {K2 : Nat → Nat → Int32 → Hp → Option (Unit × Hp)} (hK2 : ∀ (l0 : Nat) (l1 : Nat) (l2 : Int32) (h : Hp), G rvV I_X3_weigh 6 2 [(0, .ref l0), (1, .ref l1), (2, .int l2)] [] h (K2 l0 l1 l2 h)) (l0 : Nat) (l1 : Nat) (l2 : Int32) (h : Hp) : G rvV I_X3_weigh 6 2 [(0, .ref l0), (1, .ref l1), (2, .int l2)] [] h (f_X3_weigh_2_b F K2 l0 l1 l2 h) := by
  delta f_X3_weigh_2_b
  refine g_iload_n 2 dX3_weigh_2 rfl ?_
  refine g_iconst (v := 2) dX3_weigh_3 (by decide) ?_
  refine g_icmp_ge (tgt := 111) dX3_weigh_4 (by decide) (fun c1 => ?_) (fun c1 => ?_)
  · exact g_vret rfl dX3_weigh_111
  · refine g_iconst (v := 0) dX3_weigh_7 (by decide) ?_
    refine g_istore_n (lv' := [(3, .int 0), (0, .ref l0), (1, .ref l1), (2, .int l2)]) dX3_weigh_8 (by decide) rfl ?_
    refine G_lv [1, 2, 3, 0] rfl ?_
    exact T_X3_weigh_9 F hK2 F l0 l1 l2 0 h
set_option maxRecDepth 100000 in
noncomputable def f_X3_weigh_2 (F : Nat) : Nat → Nat → Nat → Int32 → Hp → Option (Unit × Hp)
  | 0, _, _, _, _ => none
  | n + 1, l0, l1, l2, h => f_X3_weigh_2_b F (f_X3_weigh_2 F n) l0 l1 l2 h
set_option maxRecDepth 100000 in
set_option maxHeartbeats 4000000 in
theorem T_X3_weigh_2 (F : Nat) : ∀ (n : Nat) (l0 : Nat) (l1 : Nat) (l2 : Int32) (h : Hp), G rvV I_X3_weigh 6 2 [(0, .ref l0), (1, .ref l1), (2, .int l2)] [] h (f_X3_weigh_2 F n l0 l1 l2 h) := by
  intro n
  induction n with
  | zero => intros; exact G_none
  | succ n ih => intro l0 l1 l2 h; exact T_X3_weigh_2_b F ih l0 l1 l2 h
set_option maxRecDepth 100000 in
noncomputable def f_X3_weigh (F : Nat) (a0 : Nat) (a1 : Nat) (h : Hp) : Option (Unit × Hp) :=
  f_X3_weigh_2 F F a0 a1 0 h
set_option maxRecDepth 100000 in
set_option maxHeartbeats 4000000 in
theorem T_X3_weigh (F : Nat) (a0 : Nat) (a1 : Nat) (h : Hp) : GM rvV I_X3_weigh 6 [.ref a0, .ref a1] h (f_X3_weigh F a0 a1 h) := by
  delta f_X3_weigh
  refine GM_of (lv := [(0, .ref a0), (1, .ref a1)]) (by decide +kernel) (Nat.le_of_ble_eq_true rfl) rfl ?_
  refine g_iconst (v := 0) dX3_weigh_0 (by decide) ?_
  refine g_istore_n (lv' := [(2, .int 0), (0, .ref a0), (1, .ref a1)]) dX3_weigh_1 (by decide) rfl ?_
  refine G_lv [1, 2, 0] rfl ?_
  exact T_X3_weigh_2 F F a0 a1 0 h
set_option maxRecDepth 100000 in
noncomputable def f_J0_isLatin1_aae02 (F : Nat) (a0 : Nat) (h : Hp) : Option (Int32 × Hp) :=
  if (1 : Int32) = 0 then (some (0, h)) else (sC h a0 fun v2 => if v2 = 0 then (some (1, h)) else (some (0, h)))
set_option maxRecDepth 100000 in
set_option maxHeartbeats 4000000 in
theorem T_J0_isLatin1_aae02 (F : Nat) (a0 : Nat) (h : Hp) : GM rvI I_J0_isLatin1_aae02 1 [.ref a0] h (f_J0_isLatin1_aae02 F a0 h) := by
  delta f_J0_isLatin1_aae02
  refine GM_of (lv := [(0, .ref a0)]) (by decide +kernel) (Nat.le_of_ble_eq_true rfl) rfl ?_
  refine g_gets sf_RJ0_38 dJ0_isLatin1_aae02_0 ?_
  refine g_if_eq (tgt := 17) dJ0_isLatin1_aae02_3 (by decide) (fun c1 => ?_) (fun c1 => ?_)
  · refine g_iconst (v := 0) dJ0_isLatin1_aae02_17 (by decide) ?_
    exact g_zret (ty := .boolean) rfl rfl dJ0_isLatin1_aae02_18
  · refine g_aload_n 0 dJ0_isLatin1_aae02_6 rfl ?_
    refine g_getSC sf_RJ0_15 dJ0_isLatin1_aae02_7 (fun v2 => ?_)
    refine g_if_ne (tgt := 17) dJ0_isLatin1_aae02_10 (by decide) (fun c3 => ?_) (fun c3 => ?_)
    · refine g_iconst (v := 1) dJ0_isLatin1_aae02_13 (by decide) ?_
      refine g_goto (tgt := 18) dJ0_isLatin1_aae02_14 (by decide) ?_
      exact g_zret (ty := .boolean) rfl rfl dJ0_isLatin1_aae02_18
    · refine g_iconst (v := 0) dJ0_isLatin1_aae02_17 (by decide) ?_
      exact g_zret (ty := .boolean) rfl rfl dJ0_isLatin1_aae02_18
set_option maxRecDepth 100000 in
noncomputable def f_J0_coder_7d493 (F : Nat) (a0 : Nat) (h : Hp) : Option (Int32 × Hp) :=
  if (1 : Int32) = 0 then (rn .byte 1 h) else (sC h a0 fun v2 => rn .byte v2 h)
set_option maxRecDepth 100000 in
set_option maxHeartbeats 4000000 in
theorem T_J0_coder_7d493 (F : Nat) (a0 : Nat) (h : Hp) : GM rvI I_J0_coder_7d493 1 [.ref a0] h (f_J0_coder_7d493 F a0 h) := by
  delta f_J0_coder_7d493
  refine GM_of (lv := [(0, .ref a0)]) (by decide +kernel) (Nat.le_of_ble_eq_true rfl) rfl ?_
  refine g_gets sf_RJ0_38 dJ0_coder_7d493_0 ?_
  refine g_if_eq (tgt := 13) dJ0_coder_7d493_3 (by decide) (fun c1 => ?_) (fun c1 => ?_)
  · refine g_iconst (v := 1) dJ0_coder_7d493_13 (by decide) ?_
    exact g_nret rfl dJ0_coder_7d493_14
  · refine g_aload_n 0 dJ0_coder_7d493_6 rfl ?_
    refine g_getSC sf_RJ0_15 dJ0_coder_7d493_7 (fun v2 => ?_)
    refine g_goto (tgt := 14) dJ0_coder_7d493_10 (by decide) ?_
    exact g_nret rfl dJ0_coder_7d493_14
set_option maxRecDepth 100000 in
noncomputable def f_J0_length_8abf5 (F : Nat) (a0 : Nat) (h : Hp) : Option (Int32 × Hp) :=
  sV h a0 fun v1 => alS h v1 fun v2 => cV 14 h a0 (f_J0_coder_7d493 F a0 h) fun v3 h4 => some ((v2 >>> (v3 &&& 31)), h4)
set_option maxRecDepth 100000 in
set_option maxHeartbeats 4000000 in
theorem T_J0_length_8abf5 (F : Nat) (a0 : Nat) (h : Hp) : GM rvI I_J0_length_8abf5 2 [.ref a0] h (f_J0_length_8abf5 F a0 h) := by
  delta f_J0_length_8abf5
  refine GM_of (lv := [(0, .ref a0)]) (by decide +kernel) (Nat.le_of_ble_eq_true rfl) rfl ?_
  refine g_aload_n 0 dJ0_length_8abf5_0 rfl ?_
  refine g_getSV sf_RJ0_9 dJ0_length_8abf5_1 (fun v1 => ?_)
  refine g_alenS dJ0_length_8abf5_4 (fun v2 => ?_)
  refine g_aload_n 0 dJ0_length_8abf5_5 rfl ?_
  refine g_callVSi (J := I_J0_coder_7d493) (As := []) (rest := [.int v2]) mjv_J0_coder_7d493 ml_RJ0_335 rfl (by decide) rfl rfl (Nat.le_of_ble_eq_true rfl) dJ0_length_8abf5_6 (T_J0_coder_7d493 F a0 h) (fun v3 h4 => ?_)
  refine g_ishr dJ0_length_8abf5_9 ?_
  exact g_iret rfl dJ0_length_8abf5_10
set_option maxRecDepth 100000 in
noncomputable def f_J1_canEncode_9a6ad (F : Nat) (a0 : Int32) (h : Hp) : Option (Int32 × Hp) :=
  if a0 < 0 then (some (0, h)) else (if 255 < a0 then (some (0, h)) else (some (1, h)))
set_option maxRecDepth 100000 in
set_option maxHeartbeats 4000000 in
theorem T_J1_canEncode_9a6ad (F : Nat) (a0 : Int32) (h : Hp) : GM rvI I_J1_canEncode_9a6ad 1 [.int a0] h (f_J1_canEncode_9a6ad F a0 h) := by
  delta f_J1_canEncode_9a6ad
  refine GM_of (lv := [(0, .int a0)]) (by decide +kernel) (Nat.le_of_ble_eq_true rfl) rfl ?_
  refine g_iload_n 0 dJ1_canEncode_9a6ad_0 rfl ?_
  refine g_if_lt (tgt := 15) dJ1_canEncode_9a6ad_1 (by decide) (fun c1 => ?_) (fun c1 => ?_)
  · refine g_iconst (v := 0) dJ1_canEncode_9a6ad_15 (by decide) ?_
    exact g_zret (ty := .boolean) rfl rfl dJ1_canEncode_9a6ad_16
  · refine g_iload_n 0 dJ1_canEncode_9a6ad_4 rfl ?_
    refine g_sipush (v := 255) dJ1_canEncode_9a6ad_5 (by decide) ?_
    refine g_icmp_gt (tgt := 15) dJ1_canEncode_9a6ad_8 (by decide) (fun c2 => ?_) (fun c2 => ?_)
    · refine g_iconst (v := 0) dJ1_canEncode_9a6ad_15 (by decide) ?_
      exact g_zret (ty := .boolean) rfl rfl dJ1_canEncode_9a6ad_16
    · refine g_iconst (v := 1) dJ1_canEncode_9a6ad_11 (by decide) ?_
      refine g_goto (tgt := 16) dJ1_canEncode_9a6ad_12 (by decide) ?_
      exact g_zret (ty := .boolean) rfl rfl dJ1_canEncode_9a6ad_16
set_option maxRecDepth 100000 in
noncomputable def f_J1_indexOfChar_4cfef_7_b (F : Nat) (K7 : Nat → Int32 → Int32 → Int32 → Hp → Option (Int32 × Hp)) (l0 : Nat) (l3 : Int32) (l4 : Int32) (l5 : Int32) (h : Hp) : Option (Int32 × Hp) :=
  if l3 ≤ l5 then (some ((-1), h)) else (aS h l0 l5 fun v3 => if v3 = l4 then (some (l5, h)) else (K7 l0 l3 l4 (l5 + 1) h))
set_option maxRecDepth 100000 in
set_option maxHeartbeats 4000000 in
theorem T_J1_indexOfChar_4cfef_7_b (F : Nat) {K7 : Nat → Int32 → Int32 → Int32 → Hp → Option (Int32 × Hp)} (hK7 : ∀ (l0 : Nat) (l3 : Int32) (l4 : Int32) (l5 : Int32) (h : Hp), G rvI I_J1_indexOfChar_4cfef 1 7 [(0, .ref l0), (3, .int l3), (4, .int l4), (5, .int l5)] [] h (K7 l0 l3 l4 l5 h)) (l0 : Nat) (l3 : Int32) (l4 : Int32) (l5 : Int32) (h : Hp) : G rvI I_J1_indexOfChar_4cfef 1 7 [(0, .ref l0), (3, .int l3), (4, .int l4), (5, .int l5)] [] h (f_J1_indexOfChar_4cfef_7_b F K7 l0 l3 l4 l5 h) := by
  delta f_J1_indexOfChar_4cfef_7_b
  refine g_iload 3 dJ1_indexOfChar_4cfef_7 rfl ?_
  refine g_iload_n 1 dJ1_indexOfChar_4cfef_9 rfl ?_
  refine g_icmp_ge (tgt := 31) dJ1_indexOfChar_4cfef_10 (by decide) (fun c2 => ?_) (fun c2 => ?_)
  · refine g_iconst (v := (-1)) dJ1_indexOfChar_4cfef_31 (by decide) ?_
    exact g_iret rfl dJ1_indexOfChar_4cfef_32
  · refine g_aload_n 0 dJ1_indexOfChar_4cfef_13 rfl ?_
    refine g_iload 3 dJ1_indexOfChar_4cfef_14 rfl ?_
    refine g_baldS dJ1_indexOfChar_4cfef_16 (fun v3 => ?_)
    refine g_iload 2 dJ1_indexOfChar_4cfef_17 rfl ?_
    refine g_icmp_ne (tgt := 25) dJ1_indexOfChar_4cfef_19 (by decide) (fun c4 => ?_) (fun c4 => ?_)
    · refine g_iload 3 dJ1_indexOfChar_4cfef_22 rfl ?_
      exact g_iret rfl dJ1_indexOfChar_4cfef_24
    · refine g_iinc (v' := l5 + 1) (lv' := [(5, .int (l5 + 1)), (0, .ref l0), (3, .int l3), (4, .int l4)]) 3 dJ1_indexOfChar_4cfef_25 rfl rfl (by decide) rfl ?_
      refine g_goto (tgt := 7) dJ1_indexOfChar_4cfef_28 (by decide) ?_
      refine G_lv [1, 2, 3, 0] rfl ?_
      exact hK7 l0 l3 l4 (l5 + 1) h
set_option maxRecDepth 100000 in
noncomputable def f_J1_indexOfChar_4cfef_7 (F : Nat) : Nat → Nat → Int32 → Int32 → Int32 → Hp → Option (Int32 × Hp)
  | 0, _, _, _, _, _ => none
  | n + 1, l0, l3, l4, l5, h => f_J1_indexOfChar_4cfef_7_b F (f_J1_indexOfChar_4cfef_7 F n) l0 l3 l4 l5 h
set_option maxRecDepth 100000 in
set_option maxHeartbeats 4000000 in
theorem T_J1_indexOfChar_4cfef_7 (F : Nat) : ∀ (n : Nat) (l0 : Nat) (l3 : Int32) (l4 : Int32) (l5 : Int32) (h : Hp), G rvI I_J1_indexOfChar_4cfef 1 7 [(0, .ref l0), (3, .int l3), (4, .int l4), (5, .int l5)] [] h (f_J1_indexOfChar_4cfef_7 F n l0 l3 l4 l5 h) := by
  intro n
  induction n with
  | zero => intros; exact G_none
  | succ n ih => intro l0 l3 l4 l5 h; exact T_J1_indexOfChar_4cfef_7_b F ih l0 l3 l4 l5 h
set_option maxRecDepth 100000 in
noncomputable def f_J1_indexOfChar_4cfef (F : Nat) (a0 : Nat) (a1 : Int32) (a2 : Int32) (a3 : Int32) (h : Hp) : Option (Int32 × Hp) :=
  lt ((a1 : Int32).toInt8.toInt32) fun x1 => f_J1_indexOfChar_4cfef_7 F F a0 a3 x1 a2 h
set_option maxRecDepth 100000 in
set_option maxHeartbeats 4000000 in
theorem T_J1_indexOfChar_4cfef (F : Nat) (a0 : Nat) (a1 : Int32) (a2 : Int32) (a3 : Int32) (h : Hp) : GM rvI I_J1_indexOfChar_4cfef 1 [.ref a0, .int a1, .int a2, .int a3] h (f_J1_indexOfChar_4cfef F a0 a1 a2 a3 h) := by
  delta f_J1_indexOfChar_4cfef
  refine GM_of (lv := [(0, .ref a0), (1, .int a1), (2, .int a2), (3, .int a3)]) (by decide +kernel) (Nat.le_of_ble_eq_true rfl) rfl ?_
  refine g_iload_n 1 dJ1_indexOfChar_4cfef_0 rfl ?_
  refine g_i2b dJ1_indexOfChar_4cfef_1 ?_
  refine G_lti (fun x1 => ?_)
  refine g_istore (lv' := [(4, .int x1), (0, .ref a0), (1, .int a1), (2, .int a2), (3, .int a3)]) dJ1_indexOfChar_4cfef_2 (by decide) rfl ?_
  refine g_iload_n 3 dJ1_indexOfChar_4cfef_4 rfl ?_
  refine g_istore (lv' := [(5, .int a2), (4, .int x1), (0, .ref a0), (1, .int a1), (2, .int a2), (3, .int a3)]) dJ1_indexOfChar_4cfef_5 (by decide) rfl ?_
  refine G_lv [2, 5, 1, 0] rfl ?_
  exact T_J1_indexOfChar_4cfef_7 F F a0 a3 x1 a2 h
set_option maxRecDepth 100000 in
noncomputable def f_J1_indexOf_4cfef (F : Nat) (a0 : Nat) (a1 : Int32) (a2 : Int32) (a3 : Int32) (h : Hp) : Option (Int32 × Hp) :=
  bd (f_J1_canEncode_9a6ad F a1 h) fun v1 h2 => if v1 = 0 then (some ((-1), h2)) else (bd (f_J9_max_7cf53 F a2 0 h2) fun v4 h5 => alS h5 a0 fun v6 => bd (f_J9_min_7cf53 F a3 v6 h5) fun v7 h8 => if v4 < v7 then (bd (f_J1_indexOfChar_4cfef F a0 a1 v4 v7 h8) fun v10 h11 => some (v10, h11)) else (some ((-1), h8)))
set_option maxRecDepth 100000 in
set_option maxHeartbeats 4000000 in
theorem T_J1_indexOf_4cfef (F : Nat) (a0 : Nat) (a1 : Int32) (a2 : Int32) (a3 : Int32) (h : Hp) : GM rvI I_J1_indexOf_4cfef 2 [.ref a0, .int a1, .int a2, .int a3] h (f_J1_indexOf_4cfef F a0 a1 a2 a3 h) := by
  delta f_J1_indexOf_4cfef
  refine GM_of (lv := [(0, .ref a0), (1, .int a1), (2, .int a2), (3, .int a3)]) (by decide +kernel) (Nat.le_of_ble_eq_true rfl) rfl ?_
  refine g_iload_n 1 dJ1_indexOf_4cfef_0 rfl ?_
  refine g_callSi (J := I_J1_canEncode_9a6ad) (As := [.int a1]) (rest := []) mjs_J1_canEncode_9a6ad ml_RJ1_88 (by decide) rfl rfl (Nat.le_of_ble_eq_true rfl) dJ1_indexOf_4cfef_1 (T_J1_canEncode_9a6ad F a1 h) (fun v1 h2 => ?_)
  refine g_if_ne (tgt := 9) dJ1_indexOf_4cfef_4 (by decide) (fun c3 => ?_) (fun c3 => ?_)
  · refine g_iconst (v := (-1)) dJ1_indexOf_4cfef_7 (by decide) ?_
    exact g_iret rfl dJ1_indexOf_4cfef_8
  · refine g_iload_n 2 dJ1_indexOf_4cfef_9 rfl ?_
    refine g_iconst (v := 0) dJ1_indexOf_4cfef_10 (by decide) ?_
    refine g_callSi (J := I_J9_max_7cf53) (As := [.int a2, .int 0]) (rest := []) mjs_J9_max_7cf53 ml_RJ1_92 (by decide) rfl rfl (Nat.le_of_ble_eq_true rfl) dJ1_indexOf_4cfef_11 (T_J9_max_7cf53 F a2 0 h2) (fun v4 h5 => ?_)
    refine g_istore_n (lv' := [(2, .int v4), (0, .ref a0), (1, .int a1), (3, .int a3)]) dJ1_indexOf_4cfef_14 (by decide) rfl ?_
    refine g_iload_n 3 dJ1_indexOf_4cfef_15 rfl ?_
    refine g_aload_n 1 dJ1_indexOf_4cfef_16 rfl ?_
    refine g_alenS dJ1_indexOf_4cfef_17 (fun v6 => ?_)
    refine g_callSi (J := I_J9_min_7cf53) (As := [.int a3, .int v6]) (rest := []) mjs_J9_min_7cf53 ml_RJ1_38 (by decide) rfl rfl (Nat.le_of_ble_eq_true rfl) dJ1_indexOf_4cfef_18 (T_J9_min_7cf53 F a3 v6 h5) (fun v7 h8 => ?_)
    refine g_istore_n (lv' := [(3, .int v7), (2, .int v4), (0, .ref a0), (1, .int a1)]) dJ1_indexOf_4cfef_21 (by decide) rfl ?_
    refine g_iload_n 1 dJ1_indexOf_4cfef_22 rfl ?_
    refine g_iload_n 0 dJ1_indexOf_4cfef_23 rfl ?_
    refine g_icmp_lt (tgt := 29) dJ1_indexOf_4cfef_24 (by decide) (fun c9 => ?_) (fun c9 => ?_)
    · refine g_aload_n 2 dJ1_indexOf_4cfef_29 rfl ?_
      refine g_iload_n 3 dJ1_indexOf_4cfef_30 rfl ?_
      refine g_iload_n 1 dJ1_indexOf_4cfef_31 rfl ?_
      refine g_iload_n 0 dJ1_indexOf_4cfef_32 rfl ?_
      refine g_callSi (J := I_J1_indexOfChar_4cfef) (As := [.ref a0, .int a1, .int v4, .int v7]) (rest := []) mjs_J1_indexOfChar_4cfef ml_RJ1_95 (by decide) rfl rfl (Nat.le_of_ble_eq_true rfl) dJ1_indexOf_4cfef_33 (T_J1_indexOfChar_4cfef F a0 a1 v4 v7 h8) (fun v10 h11 => ?_)
      exact g_iret rfl dJ1_indexOf_4cfef_36
    · refine g_iconst (v := (-1)) dJ1_indexOf_4cfef_27 (by decide) ?_
      exact g_iret rfl dJ1_indexOf_4cfef_28
set_option maxRecDepth 100000 in
noncomputable def f_J0_indexOf_7cf53 (F : Nat) (a0 : Nat) (a1 : Int32) (a2 : Int32) (h : Hp) : Option (Int32 × Hp) :=
  cV 14 h a0 (f_J0_isLatin1_aae02 F a0 h) fun v1 h2 => if v1 = 0 then (none) else (sV h2 a0 fun v7 => cV 14 h2 a0 (f_J0_length_8abf5 F a0 h2) fun v8 h9 => bd (f_J1_indexOf_4cfef F v7 a1 a2 v8 h9) fun v10 h11 => some (v10, h11))
set_option maxRecDepth 100000 in
set_option maxHeartbeats 4000000 in
theorem T_J0_indexOf_7cf53 (F : Nat) (a0 : Nat) (a1 : Int32) (a2 : Int32) (h : Hp) : GM rvI I_J0_indexOf_7cf53 3 [.ref a0, .int a1, .int a2] h (f_J0_indexOf_7cf53 F a0 a1 a2 h) := by
  delta f_J0_indexOf_7cf53
  refine GM_of (lv := [(0, .ref a0), (1, .int a1), (2, .int a2)]) (by decide +kernel) (Nat.le_of_ble_eq_true rfl) rfl ?_
  refine g_aload_n 0 dJ0_indexOf_7cf53_0 rfl ?_
  refine g_callVSi (J := I_J0_isLatin1_aae02) (As := []) (rest := []) mjv_J0_isLatin1_aae02 ml_RJ0_492 rfl (by decide) rfl rfl (Nat.le_of_ble_eq_true rfl) dJ0_indexOf_7cf53_1 (T_J0_isLatin1_aae02 F a0 h) (fun v1 h2 => ?_)
  refine g_if_eq (tgt := 23) dJ0_indexOf_7cf53_4 (by decide) (fun c3 => ?_) (fun c3 => ?_)
  · exact G_none
  · refine g_aload_n 0 dJ0_indexOf_7cf53_7 rfl ?_
    refine g_getSV sf_RJ0_9 dJ0_indexOf_7cf53_8 (fun v7 => ?_)
    refine g_iload_n 1 dJ0_indexOf_7cf53_11 rfl ?_
    refine g_iload_n 2 dJ0_indexOf_7cf53_12 rfl ?_
    refine g_aload_n 0 dJ0_indexOf_7cf53_13 rfl ?_
    refine g_callVSi (J := I_J0_length_8abf5) (As := []) (rest := [.int a2, .int a1, .ref v7]) mjv_J0_length_8abf5 ml_RJ0_505 rfl (by decide) rfl rfl (Nat.le_of_ble_eq_true rfl) dJ0_indexOf_7cf53_14 (T_J0_length_8abf5 F a0 h2) (fun v8 h9 => ?_)
    refine g_callSi (J := I_J1_indexOf_4cfef) (As := [.ref v7, .int a1, .int a2, .int v8]) (rest := []) mjs_J1_indexOf_4cfef ml_RJ0_637 (by decide) rfl rfl (Nat.le_of_ble_eq_true rfl) dJ0_indexOf_7cf53_17 (T_J1_indexOf_4cfef F v7 a1 a2 v8 h9) (fun v10 h11 => ?_)
    refine g_goto (tgt := 36) dJ0_indexOf_7cf53_20 (by decide) ?_
    exact g_iret rfl dJ0_indexOf_7cf53_36
set_option maxRecDepth 100000 in
noncomputable def f_J0_indexOf_0f7a4 (F : Nat) (a0 : Nat) (a1 : Int32) (h : Hp) : Option (Int32 × Hp) :=
  cV 14 h a0 (f_J0_indexOf_7cf53 F a0 a1 0 h) fun v1 h2 => some (v1, h2)
set_option maxRecDepth 100000 in
set_option maxHeartbeats 4000000 in
theorem T_J0_indexOf_0f7a4 (F : Nat) (a0 : Nat) (a1 : Int32) (h : Hp) : GM rvI I_J0_indexOf_0f7a4 4 [.ref a0, .int a1] h (f_J0_indexOf_0f7a4 F a0 a1 h) := by
  delta f_J0_indexOf_0f7a4
  refine GM_of (lv := [(0, .ref a0), (1, .int a1)]) (by decide +kernel) (Nat.le_of_ble_eq_true rfl) rfl ?_
  refine g_aload_n 0 dJ0_indexOf_0f7a4_0 rfl ?_
  refine g_iload_n 1 dJ0_indexOf_0f7a4_1 rfl ?_
  refine g_iconst (v := 0) dJ0_indexOf_0f7a4_2 (by decide) ?_
  refine g_callVSi (J := I_J0_indexOf_7cf53) (As := [.int a1, .int 0]) (rest := []) mjv_J0_indexOf_7cf53 ml_RJ0_633 rfl (by decide) rfl rfl (Nat.le_of_ble_eq_true rfl) dJ0_indexOf_0f7a4_3 (T_J0_indexOf_7cf53 F a0 a1 0 h) (fun v1 h2 => ?_)
  exact g_iret rfl dJ0_indexOf_0f7a4_6
set_option maxRecDepth 100000 in
noncomputable def f_X5_fail_20 (F : Nat) (l0 : Nat) (h : Hp) : Option (Unit × Hp) :=
  pI 6 h l0 6 1 fun h6 => some ((), h6)
set_option maxRecDepth 100000 in
set_option maxHeartbeats 4000000 in
theorem T_X5_fail_20 (F : Nat) (l0 : Nat) (h : Hp) : G rvV I_X5_fail 1 20 [(0, .ref l0)] [] h (f_X5_fail_20 F l0 h) := by
  delta f_X5_fail_20
  refine g_aload_n 0 dX5_fail_20 rfl ?_
  refine g_iconst (v := 1) dX5_fail_21 (by decide) ?_
  refine g_putI fl_RX5_61 (Or.inl rfl) dX5_fail_22 (fun h6 => ?_)
  exact g_vret rfl dX5_fail_25
set_option maxRecDepth 100000 in
noncomputable def f_X5_fail (F : Nat) (a0 : Nat) (a1 : Int32) (h : Hp) : Option (Unit × Hp) :=
  gI 6 h a0 0 fun v1 => if v1 = 0 then (pI 6 h a0 0 a1 fun h3 => gI 6 h3 a0 4 fun v4 => pI 6 h3 a0 1 v4 fun h5 => f_X5_fail_20 F a0 h5) else (f_X5_fail_20 F a0 h)
set_option maxRecDepth 100000 in
set_option maxHeartbeats 4000000 in
theorem T_X5_fail (F : Nat) (a0 : Nat) (a1 : Int32) (h : Hp) : GM rvV I_X5_fail 1 [.ref a0, .int a1] h (f_X5_fail F a0 a1 h) := by
  delta f_X5_fail
  refine GM_of (lv := [(0, .ref a0), (1, .int a1)]) (by decide +kernel) (Nat.le_of_ble_eq_true rfl) rfl ?_
  refine g_aload_n 0 dX5_fail_0 rfl ?_
  refine g_getI fl_RX5_39 rfl dX5_fail_1 (fun v1 => ?_)
  refine g_if_ne (tgt := 20) dX5_fail_4 (by decide) (fun c2 => ?_) (fun c2 => ?_)
  · refine g_aload_n 0 dX5_fail_7 rfl ?_
    refine g_iload_n 1 dX5_fail_8 rfl ?_
    refine g_putI fl_RX5_39 (Or.inl rfl) dX5_fail_9 (fun h3 => ?_)
    refine g_aload_n 0 dX5_fail_12 rfl ?_
    refine g_aload_n 0 dX5_fail_13 rfl ?_
    refine g_getI fl_RX5_74 rfl dX5_fail_14 (fun v4 => ?_)
    refine g_putI fl_RX5_9 (Or.inl rfl) dX5_fail_17 (fun h5 => ?_)
    refine G_lv [0] rfl ?_
    exact T_X5_fail_20 F a0 h5
  · refine G_lv [0] rfl ?_
    exact T_X5_fail_20 F a0 h
set_option maxRecDepth 100000 in
noncomputable def f_X5_readDigits_100 (F : Nat) (s0 : Int32) (s1 : Nat) (h : Hp) : Option (Unit × Hp) :=
  pI 6 h s1 6 s0 fun h8 => some ((), h8)
set_option maxRecDepth 100000 in
set_option maxHeartbeats 4000000 in
theorem T_X5_readDigits_100 (F : Nat) (s0 : Int32) (s1 : Nat) (h : Hp) : G rvV I_X5_readDigits 1 100 [] [.int s0, .ref s1] h (f_X5_readDigits_100 F s0 s1 h) := by
  delta f_X5_readDigits_100
  refine g_putI fl_RX5_61 (Or.inl rfl) dX5_readDigits_100 (fun h8 => ?_)
  exact g_vret rfl dX5_readDigits_103
set_option maxRecDepth 100000 in
noncomputable def f_X5_readDigits_81 (F : Nat) (l0 : Nat) (h : Hp) : Option (Unit × Hp) :=
  gI 6 h l0 5 fun v5 => gI 6 h l0 4 fun v6 => if (v5 - v6) ≤ 3 then (f_X5_readDigits_100 F 2 l0 h) else (f_X5_readDigits_100 F 1 l0 h)
set_option maxRecDepth 100000 in
set_option maxHeartbeats 4000000 in
theorem T_X5_readDigits_81 (F : Nat) (l0 : Nat) (h : Hp) : G rvV I_X5_readDigits 1 81 [(0, .ref l0)] [] h (f_X5_readDigits_81 F l0 h) := by
  delta f_X5_readDigits_81
  refine g_aload_n 0 dX5_readDigits_81 rfl ?_
  refine g_aload_n 0 dX5_readDigits_82 rfl ?_
  refine g_getI fl_RX5_42 rfl dX5_readDigits_83 (fun v5 => ?_)
  refine g_aload_n 0 dX5_readDigits_86 rfl ?_
  refine g_getI fl_RX5_74 rfl dX5_readDigits_87 (fun v6 => ?_)
  refine g_isub dX5_readDigits_90 ?_
  refine g_iconst (v := 3) dX5_readDigits_91 (by decide) ?_
  refine g_icmp_le (tgt := 99) dX5_readDigits_92 (by decide) (fun c7 => ?_) (fun c7 => ?_)
  · refine g_iconst (v := 2) dX5_readDigits_99 (by decide) ?_
    refine G_lv [] rfl ?_
    exact T_X5_readDigits_100 F 2 l0 h
  · refine g_iconst (v := 1) dX5_readDigits_95 (by decide) ?_
    refine g_goto (tgt := 100) dX5_readDigits_96 (by decide) ?_
    refine G_lv [] rfl ?_
    exact T_X5_readDigits_100 F 1 l0 h
set_option maxRecDepth 100000 in
noncomputable def f_X5_readDigits_5_b (F : Nat) (K5 : Nat → Hp → Option (Unit × Hp)) (l0 : Nat) (h : Hp) : Option (Unit × Hp) :=
  gI 6 h l0 5 fun v2 => gI 6 h l0 3 fun v3 => if v3 ≤ v2 then (f_X5_readDigits_81 F l0 h) else (gR 6 h l0 2 fun v9 => gI 6 h l0 5 fun v10 => aI 21 h v9 v10 fun v11 => if v11 < 48 then (f_X5_readDigits_81 F l0 h) else (gR 6 h l0 2 fun v13 => gI 6 h l0 5 fun v14 => aI 21 h v13 v14 fun v15 => if 57 < v15 then (f_X5_readDigits_81 F l0 h) else (gI 6 h l0 7 fun v17 => gR 6 h l0 2 fun v18 => gI 6 h l0 5 fun v19 => aI 21 h v18 v19 fun v20 => pI 6 h l0 7 (((10 * v17) + v20) - 48) fun h21 => gI 6 h21 l0 5 fun v22 => pI 6 h21 l0 5 (v22 + 1) fun h23 => K5 l0 h23)))
set_option maxRecDepth 100000 in
set_option maxHeartbeats 4000000 in
theorem T_X5_readDigits_5_b (F : Nat) {K5 : Nat → Hp → Option (Unit × Hp)} (hK5 : ∀ (l0 : Nat) (h : Hp), G rvV I_X5_readDigits 1 5 [(0, .ref l0)] [] h (K5 l0 h)) (l0 : Nat) (h : Hp) : G rvV I_X5_readDigits 1 5 [(0, .ref l0)] [] h (f_X5_readDigits_5_b F K5 l0 h) := by
  delta f_X5_readDigits_5_b
  refine g_aload_n 0 dX5_readDigits_5 rfl ?_
  refine g_getI fl_RX5_42 rfl dX5_readDigits_6 (fun v2 => ?_)
  refine g_aload_n 0 dX5_readDigits_9 rfl ?_
  refine g_getI fl_RX5_36 rfl dX5_readDigits_10 (fun v3 => ?_)
  refine g_icmp_ge (tgt := 81) dX5_readDigits_13 (by decide) (fun c4 => ?_) (fun c4 => ?_)
  · refine G_lv [0] rfl ?_
    exact T_X5_readDigits_81 F l0 h
  · refine g_aload_n 0 dX5_readDigits_16 rfl ?_
    refine g_getR fl_RX5_15 rfl dX5_readDigits_17 (fun v9 => ?_)
    refine g_aload_n 0 dX5_readDigits_20 rfl ?_
    refine g_getI fl_RX5_42 rfl dX5_readDigits_21 (fun v10 => ?_)
    refine g_bald dX5_readDigits_24 (fun v11 => ?_)
    refine g_bipush (v := 48) dX5_readDigits_25 (by decide) ?_
    refine g_icmp_lt (tgt := 81) dX5_readDigits_27 (by decide) (fun c12 => ?_) (fun c12 => ?_)
    · refine G_lv [0] rfl ?_
      exact T_X5_readDigits_81 F l0 h
    · refine g_aload_n 0 dX5_readDigits_30 rfl ?_
      refine g_getR fl_RX5_15 rfl dX5_readDigits_31 (fun v13 => ?_)
      refine g_aload_n 0 dX5_readDigits_34 rfl ?_
      refine g_getI fl_RX5_42 rfl dX5_readDigits_35 (fun v14 => ?_)
      refine g_bald dX5_readDigits_38 (fun v15 => ?_)
      refine g_bipush (v := 57) dX5_readDigits_39 (by decide) ?_
      refine g_icmp_gt (tgt := 81) dX5_readDigits_41 (by decide) (fun c16 => ?_) (fun c16 => ?_)
      · refine G_lv [0] rfl ?_
        exact T_X5_readDigits_81 F l0 h
      · refine g_aload_n 0 dX5_readDigits_44 rfl ?_
        refine g_bipush (v := 10) dX5_readDigits_45 (by decide) ?_
        refine g_aload_n 0 dX5_readDigits_47 rfl ?_
        refine g_getI fl_RX5_80 rfl dX5_readDigits_48 (fun v17 => ?_)
        refine g_imul dX5_readDigits_51 ?_
        refine g_aload_n 0 dX5_readDigits_52 rfl ?_
        refine g_getR fl_RX5_15 rfl dX5_readDigits_53 (fun v18 => ?_)
        refine g_aload_n 0 dX5_readDigits_56 rfl ?_
        refine g_getI fl_RX5_42 rfl dX5_readDigits_57 (fun v19 => ?_)
        refine g_bald dX5_readDigits_60 (fun v20 => ?_)
        refine g_iadd dX5_readDigits_61 ?_
        refine g_bipush (v := 48) dX5_readDigits_62 (by decide) ?_
        refine g_isub dX5_readDigits_64 ?_
        refine g_putI fl_RX5_80 (Or.inl rfl) dX5_readDigits_65 (fun h21 => ?_)
        refine g_aload_n 0 dX5_readDigits_68 rfl ?_
        refine g_dup dX5_readDigits_69 rfl ?_
        refine g_getI fl_RX5_42 rfl dX5_readDigits_70 (fun v22 => ?_)
        refine g_iconst (v := 1) dX5_readDigits_73 (by decide) ?_
        refine g_iadd dX5_readDigits_74 ?_
        refine g_putI fl_RX5_42 (Or.inl rfl) dX5_readDigits_75 (fun h23 => ?_)
        refine g_goto (tgt := 5) dX5_readDigits_78 (by decide) ?_
        refine G_lv [0] rfl ?_
        exact hK5 l0 h23
set_option maxRecDepth 100000 in
noncomputable def f_X5_readDigits_5 (F : Nat) : Nat → Nat → Hp → Option (Unit × Hp)
  | 0, _, _ => none
  | n + 1, l0, h => f_X5_readDigits_5_b F (f_X5_readDigits_5 F n) l0 h
set_option maxRecDepth 100000 in
set_option maxHeartbeats 4000000 in
theorem T_X5_readDigits_5 (F : Nat) : ∀ (n : Nat) (l0 : Nat) (h : Hp), G rvV I_X5_readDigits 1 5 [(0, .ref l0)] [] h (f_X5_readDigits_5 F n l0 h) := by
  intro n
  induction n with
  | zero => intros; exact G_none
  | succ n ih => intro l0 h; exact T_X5_readDigits_5_b F ih l0 h
set_option maxRecDepth 100000 in
noncomputable def f_X5_readDigits (F : Nat) (a0 : Nat) (h : Hp) : Option (Unit × Hp) :=
  pI 6 h a0 7 0 fun h1 => f_X5_readDigits_5 F F a0 h1
set_option maxRecDepth 100000 in
set_option maxHeartbeats 4000000 in
theorem T_X5_readDigits (F : Nat) (a0 : Nat) (h : Hp) : GM rvV I_X5_readDigits 1 [.ref a0] h (f_X5_readDigits F a0 h) := by
  delta f_X5_readDigits
  refine GM_of (lv := [(0, .ref a0)]) (by decide +kernel) (Nat.le_of_ble_eq_true rfl) rfl ?_
  refine g_aload_n 0 dX5_readDigits_0 rfl ?_
  refine g_iconst (v := 0) dX5_readDigits_1 (by decide) ?_
  refine g_putI fl_RX5_80 (Or.inl rfl) dX5_readDigits_2 (fun h1 => ?_)
  refine G_lv [0] rfl ?_
  exact T_X5_readDigits_5 F F a0 h1
set_option maxRecDepth 100000 in
noncomputable def f_J3_checkIndex_8e157 (F : Nat) (a0 : Int32) (a1 : Int32) (h : Hp) : Option (Int32 × Hp) :=
  if a0 < 0 then none else (if a0 < a1 then (some (a0, h)) else none)
set_option maxRecDepth 100000 in
set_option maxHeartbeats 4000000 in
theorem T_J3_checkIndex_8e157 (F : Nat) (a0 : Int32) (a1 : Int32) (v : Value) (hv : v = .null ∨ ∃ t, v = .ref t) (h : Hp) : GM rvI I_J3_checkIndex_8e157 1 [.int a0, .int a1, v] h (f_J3_checkIndex_8e157 F a0 a1 h) := by
  rcases hv with rfl | ⟨t, rfl⟩
  · skip
    delta f_J3_checkIndex_8e157
    refine GM_of (lv := [(0, .int a0), (1, .int a1), (2, .null)]) (by decide +kernel) (Nat.le_of_ble_eq_true rfl) rfl ?_
    refine g_iload_n 0 dJ3_checkIndex_8e157_0 rfl ?_
    refine g_if_lt (tgt := 9) dJ3_checkIndex_8e157_1 (by decide) (fun c1 => ?_) (fun c1 => ?_)
    · exact G_none
    · refine g_iload_n 0 dJ3_checkIndex_8e157_4 rfl ?_
      refine g_iload_n 1 dJ3_checkIndex_8e157_5 rfl ?_
      refine g_icmp_lt (tgt := 16) dJ3_checkIndex_8e157_6 (by decide) (fun c2 => ?_) (fun c2 => ?_)
      · refine g_iload_n 0 dJ3_checkIndex_8e157_16 rfl ?_
        exact g_iret rfl dJ3_checkIndex_8e157_17
      · exact G_none
  · skip
    delta f_J3_checkIndex_8e157
    refine GM_of (lv := [(0, .int a0), (1, .int a1), (2, .ref t)]) (by decide +kernel) (Nat.le_of_ble_eq_true rfl) rfl ?_
    refine g_iload_n 0 dJ3_checkIndex_8e157_0 rfl ?_
    refine g_if_lt (tgt := 9) dJ3_checkIndex_8e157_1 (by decide) (fun c1 => ?_) (fun c1 => ?_)
    · exact G_none
    · refine g_iload_n 0 dJ3_checkIndex_8e157_4 rfl ?_
      refine g_iload_n 1 dJ3_checkIndex_8e157_5 rfl ?_
      refine g_icmp_lt (tgt := 16) dJ3_checkIndex_8e157_6 (by decide) (fun c2 => ?_) (fun c2 => ?_)
      · refine g_iload_n 0 dJ3_checkIndex_8e157_16 rfl ?_
        exact g_iret rfl dJ3_checkIndex_8e157_17
      · exact G_none
set_option maxRecDepth 100000 in
noncomputable def f_J0_checkIndex_df160 (F : Nat) (a0 : Int32) (a1 : Int32) (h : Hp) : Option (Unit × Hp) :=
  bd (f_J3_checkIndex_8e157 F a0 a1 h) fun _ h1 => some ((), h1)
set_option maxRecDepth 100000 in
set_option maxHeartbeats 4000000 in
theorem T_J0_checkIndex_df160 (F : Nat) (a0 : Int32) (a1 : Int32) (h : Hp) : GM rvV I_J0_checkIndex_df160 2 [.int a0, .int a1] h (f_J0_checkIndex_df160 F a0 a1 h) := by
  delta f_J0_checkIndex_df160
  refine GM_of (lv := [(0, .int a0), (1, .int a1)]) (by decide +kernel) (Nat.le_of_ble_eq_true rfl) rfl ?_
  refine g_iload_n 0 dJ0_checkIndex_df160_0 rfl ?_
  refine g_iload_n 1 dJ0_checkIndex_df160_1 rfl ?_
  refine g_getsq sf_RJ0_1053 dJ0_checkIndex_df160_2 (fun v hv => ?_)
  refine g_callSi (J := I_J3_checkIndex_8e157) (As := [.int a0, .int a1, v]) (rest := []) mjs_J3_checkIndex_8e157 ml_RJ0_1059 (by decide) rfl rfl (Nat.le_of_ble_eq_true rfl) dJ0_checkIndex_df160_5 (T_J3_checkIndex_8e157 F a0 a1 v hv h) (fun v1 h2 => ?_)
  refine g_pop dJ0_checkIndex_df160_8 rfl ?_
  exact g_vret rfl dJ0_checkIndex_df160_9
set_option maxRecDepth 100000 in
noncomputable def f_J1_charAt_3b067 (F : Nat) (a0 : Nat) (a1 : Int32) (h : Hp) : Option (Int32 × Hp) :=
  alS h a0 fun v1 => bd (f_J0_checkIndex_df160 F a1 v1 h) fun v2 h3 => aS h3 a0 a1 fun v4 => rn .char ((((v4 &&& 255) : Int32).toUInt32 % 65536).toInt32) h3
set_option maxRecDepth 100000 in
set_option maxHeartbeats 4000000 in
theorem T_J1_charAt_3b067 (F : Nat) (a0 : Nat) (a1 : Int32) (h : Hp) : GM rvI I_J1_charAt_3b067 3 [.ref a0, .int a1] h (f_J1_charAt_3b067 F a0 a1 h) := by
  delta f_J1_charAt_3b067
  refine GM_of (lv := [(0, .ref a0), (1, .int a1)]) (by decide +kernel) (Nat.le_of_ble_eq_true rfl) rfl ?_
  refine g_iload_n 1 dJ1_charAt_3b067_0 rfl ?_
  refine g_aload_n 0 dJ1_charAt_3b067_1 rfl ?_
  refine g_alenS dJ1_charAt_3b067_2 (fun v1 => ?_)
  refine g_callSv (J := I_J0_checkIndex_df160) (As := [.int a1, .int v1]) (rest := []) mjs_J0_checkIndex_df160 ml_RJ1_9 (by decide) rfl rfl (Nat.le_of_ble_eq_true rfl) dJ1_charAt_3b067_3 (T_J0_checkIndex_df160 F a1 v1 h) (fun v2 h3 => ?_)
  refine g_aload_n 0 dJ1_charAt_3b067_6 rfl ?_
  refine g_iload_n 1 dJ1_charAt_3b067_7 rfl ?_
  refine g_baldS dJ1_charAt_3b067_8 (fun v4 => ?_)
  refine g_sipush (v := 255) dJ1_charAt_3b067_9 (by decide) ?_
  refine g_iand dJ1_charAt_3b067_12 ?_
  refine g_i2c dJ1_charAt_3b067_13 ?_
  exact g_nret rfl dJ1_charAt_3b067_14
set_option maxRecDepth 100000 in
noncomputable def f_J0_charAt_5068e (F : Nat) (a0 : Nat) (a1 : Int32) (h : Hp) : Option (Int32 × Hp) :=
  cV 14 h a0 (f_J0_isLatin1_aae02 F a0 h) fun v1 h2 => if v1 = 0 then (none) else (sV h2 a0 fun v5 => bd (f_J1_charAt_3b067 F v5 a1 h2) fun v6 h7 => rn .char v6 h7)
set_option maxRecDepth 100000 in
set_option maxHeartbeats 4000000 in
theorem T_J0_charAt_5068e (F : Nat) (a0 : Nat) (a1 : Int32) (h : Hp) : GM rvI I_J0_charAt_5068e 4 [.ref a0, .int a1] h (f_J0_charAt_5068e F a0 a1 h) := by
  delta f_J0_charAt_5068e
  refine GM_of (lv := [(0, .ref a0), (1, .int a1)]) (by decide +kernel) (Nat.le_of_ble_eq_true rfl) rfl ?_
  refine g_aload_n 0 dJ0_charAt_5068e_0 rfl ?_
  refine g_callVSi (J := I_J0_isLatin1_aae02) (As := []) (rest := []) mjv_J0_isLatin1_aae02 ml_RJ0_492 rfl (by decide) rfl rfl (Nat.le_of_ble_eq_true rfl) dJ0_charAt_5068e_1 (T_J0_isLatin1_aae02 F a0 h) (fun v1 h2 => ?_)
  refine g_if_eq (tgt := 16) dJ0_charAt_5068e_4 (by decide) (fun c3 => ?_) (fun c3 => ?_)
  · exact G_none
  · refine g_aload_n 0 dJ0_charAt_5068e_7 rfl ?_
    refine g_getSV sf_RJ0_9 dJ0_charAt_5068e_8 (fun v5 => ?_)
    refine g_iload_n 1 dJ0_charAt_5068e_11 rfl ?_
    refine g_callSi (J := I_J1_charAt_3b067) (As := [.ref v5, .int a1]) (rest := []) mjs_J1_charAt_3b067 ml_RJ0_495 (by decide) rfl rfl (Nat.le_of_ble_eq_true rfl) dJ0_charAt_5068e_12 (T_J1_charAt_3b067 F v5 a1 h2) (fun v6 h7 => ?_)
    exact g_nret rfl dJ0_charAt_5068e_15
set_option maxRecDepth 100000 in
noncomputable def f_X5_readWord_170 (F : Nat) (K71 : Nat → Int32 → Int32 → Int32 → Int32 → Hp → Option (Unit × Hp)) (l0 : Nat) (l1 : Int32) (l2 : Int32) (l3 : Int32) (l4 : Int32) (h : Hp) : Option (Unit × Hp) :=
  K71 l0 l1 l2 l3 (l4 + 1) h
set_option maxRecDepth 100000 in
set_option maxHeartbeats 4000000 in
theorem T_X5_readWord_170 (F : Nat) {K71 : Nat → Int32 → Int32 → Int32 → Int32 → Hp → Option (Unit × Hp)} (hK71 : ∀ (l0 : Nat) (l1 : Int32) (l2 : Int32) (l3 : Int32) (l4 : Int32) (h : Hp), G rvV I_X5_readWord 5 71 [(0, .ref l0), (1, .int l1), (2, .int l2), (3, .int l3), (4, .int l4)] [] h (K71 l0 l1 l2 l3 l4 h)) (l0 : Nat) (l1 : Int32) (l2 : Int32) (l3 : Int32) (l4 : Int32) (h : Hp) : G rvV I_X5_readWord 5 170 [(0, .ref l0), (1, .int l1), (2, .int l2), (3, .int l3), (4, .int l4)] [] h (f_X5_readWord_170 F K71 l0 l1 l2 l3 l4 h) := by
  delta f_X5_readWord_170
  refine g_iinc (v' := l4 + 1) (lv' := [(4, .int (l4 + 1)), (0, .ref l0), (1, .int l1), (2, .int l2), (3, .int l3)]) 4 dX5_readWord_170 rfl rfl (by decide) rfl ?_
  refine g_goto (tgt := 71) dX5_readWord_173 (by decide) ?_
  refine G_lv [1, 2, 3, 4, 0] rfl ?_
  exact hK71 l0 l1 l2 l3 (l4 + 1) h
set_option maxRecDepth 100000 in
noncomputable def f_X5_readWord_160 (F : Nat) (K71 : Nat → Int32 → Int32 → Int32 → Int32 → Hp → Option (Unit × Hp)) (l0 : Nat) (l1 : Int32) (l4 : Int32) (h : Hp) : Option (Unit × Hp) :=
  gI 6 h l0 4 fun v15 => f_X5_readWord_170 F K71 l0 (l1 + 1) v15 1 l4 h
set_option maxRecDepth 100000 in
set_option maxHeartbeats 4000000 in
theorem T_X5_readWord_160 (F : Nat) {K71 : Nat → Int32 → Int32 → Int32 → Int32 → Hp → Option (Unit × Hp)} (hK71 : ∀ (l0 : Nat) (l1 : Int32) (l2 : Int32) (l3 : Int32) (l4 : Int32) (h : Hp), G rvV I_X5_readWord 5 71 [(0, .ref l0), (1, .int l1), (2, .int l2), (3, .int l3), (4, .int l4)] [] h (K71 l0 l1 l2 l3 l4 h)) (l0 : Nat) (l1 : Int32) (l4 : Int32) (h : Hp) : G rvV I_X5_readWord 5 160 [(0, .ref l0), (1, .int l1), (4, .int l4)] [] h (f_X5_readWord_160 F K71 l0 l1 l4 h) := by
  delta f_X5_readWord_160
  refine g_iinc (v' := l1 + 1) (lv' := [(1, .int (l1 + 1)), (0, .ref l0), (4, .int l4)]) 1 dX5_readWord_160 rfl rfl (by decide) rfl ?_
  refine g_aload_n 1 dX5_readWord_163 rfl ?_
  refine g_getI fl_RX5_74 rfl dX5_readWord_164 (fun v15 => ?_)
  refine g_istore_n (lv' := [(2, .int v15), (1, .int (l1 + 1)), (0, .ref l0), (4, .int l4)]) dX5_readWord_167 (by decide) rfl ?_
  refine g_iconst (v := 1) dX5_readWord_168 (by decide) ?_
  refine g_istore_n (lv' := [(3, .int 1), (2, .int v15), (1, .int (l1 + 1)), (0, .ref l0), (4, .int l4)]) dX5_readWord_169 (by decide) rfl ?_
  refine G_lv [3, 2, 1, 0, 4] rfl ?_
  exact T_X5_readWord_170 F hK71 l0 (l1 + 1) v15 1 l4 h
set_option maxRecDepth 100000 in
noncomputable def f_X5_readWord_133 (F : Nat) (K71 : Nat → Int32 → Int32 → Int32 → Int32 → Hp → Option (Unit × Hp)) (l0 : Nat) (l1 : Int32) (l2 : Int32) (l4 : Int32) (s0 : Int32) (h : Hp) : Option (Unit × Hp) :=
  f_X5_readWord_170 F K71 l0 l1 (l2 + 1) s0 l4 h
set_option maxRecDepth 100000 in
set_option maxHeartbeats 4000000 in
theorem T_X5_readWord_133 (F : Nat) {K71 : Nat → Int32 → Int32 → Int32 → Int32 → Hp → Option (Unit × Hp)} (hK71 : ∀ (l0 : Nat) (l1 : Int32) (l2 : Int32) (l3 : Int32) (l4 : Int32) (h : Hp), G rvV I_X5_readWord 5 71 [(0, .ref l0), (1, .int l1), (2, .int l2), (3, .int l3), (4, .int l4)] [] h (K71 l0 l1 l2 l3 l4 h)) (l0 : Nat) (l1 : Int32) (l2 : Int32) (l4 : Int32) (s0 : Int32) (h : Hp) : G rvV I_X5_readWord 5 133 [(0, .ref l0), (1, .int l1), (2, .int l2), (4, .int l4)] [.int s0] h (f_X5_readWord_133 F K71 l0 l1 l2 l4 s0 h) := by
  delta f_X5_readWord_133
  refine g_istore_n (lv' := [(3, .int s0), (0, .ref l0), (1, .int l1), (2, .int l2), (4, .int l4)]) dX5_readWord_133 (by decide) rfl ?_
  refine g_iinc (v' := l2 + 1) (lv' := [(2, .int (l2 + 1)), (3, .int s0), (0, .ref l0), (1, .int l1), (4, .int l4)]) 3 dX5_readWord_134 rfl rfl (by decide) rfl ?_
  refine g_goto (tgt := 170) dX5_readWord_137 (by decide) ?_
  refine G_lv [2, 3, 0, 1, 4] rfl ?_
  exact T_X5_readWord_170 F hK71 l0 l1 (l2 + 1) s0 l4 h
set_option maxRecDepth 100000 in
noncomputable def f_X5_readWord_132 (F : Nat) (K71 : Nat → Int32 → Int32 → Int32 → Int32 → Hp → Option (Unit × Hp)) (l0 : Nat) (l1 : Int32) (l2 : Int32) (l4 : Int32) (h : Hp) : Option (Unit × Hp) :=
  f_X5_readWord_133 F K71 l0 l1 l2 l4 0 h
set_option maxRecDepth 100000 in
set_option maxHeartbeats 4000000 in
theorem T_X5_readWord_132 (F : Nat) {K71 : Nat → Int32 → Int32 → Int32 → Int32 → Hp → Option (Unit × Hp)} (hK71 : ∀ (l0 : Nat) (l1 : Int32) (l2 : Int32) (l3 : Int32) (l4 : Int32) (h : Hp), G rvV I_X5_readWord 5 71 [(0, .ref l0), (1, .int l1), (2, .int l2), (3, .int l3), (4, .int l4)] [] h (K71 l0 l1 l2 l3 l4 h)) (l0 : Nat) (l1 : Int32) (l2 : Int32) (l4 : Int32) (h : Hp) : G rvV I_X5_readWord 5 132 [(0, .ref l0), (1, .int l1), (2, .int l2), (4, .int l4)] [] h (f_X5_readWord_132 F K71 l0 l1 l2 l4 h) := by
  delta f_X5_readWord_132
  refine g_iconst (v := 0) dX5_readWord_132 (by decide) ?_
  refine G_lv [0, 1, 2, 3] rfl ?_
  exact T_X5_readWord_133 F hK71 l0 l1 l2 l4 0 h
set_option maxRecDepth 100000 in
noncomputable def f_X5_readWord_71_b (F : Nat) (K71 : Nat → Int32 → Int32 → Int32 → Int32 → Hp → Option (Unit × Hp)) (l0 : Nat) (l1 : Int32) (l2 : Int32) (l3 : Int32) (l4 : Int32) (h : Hp) : Option (Unit × Hp) :=
  cV 14 h (hp_k h 0) (f_J0_length_8abf5 F (hp_k h 0) h) fun v6 h7 => if v6 ≤ l4 then (some ((), h7)) else (gI 6 h7 l0 6 fun v9 => if v9 = 3 then (cV 14 h7 (hp_k h7 0) (f_J0_charAt_5068e F (hp_k h7 0) l4 h7) fun v11 h12 => if v11 = 32 then (if l3 = 0 then (f_X5_readWord_160 F K71 l0 l1 l4 h12) else (gI 6 h12 l0 5 fun v16 => if l2 = v16 then (pI 6 h12 l0 6 l1 fun h18 => f_X5_readWord_170 F K71 l0 l1 l2 l3 l4 h18) else (f_X5_readWord_160 F K71 l0 l1 l4 h12))) else (if l3 = 0 then (f_X5_readWord_132 F K71 l0 l1 l2 l4 h12) else (gI 6 h12 l0 5 fun v20 => if v20 ≤ l2 then (f_X5_readWord_132 F K71 l0 l1 l2 l4 h12) else (gR 6 h12 l0 2 fun v22 => aI 21 h12 v22 l2 fun v23 => if v23 = v11 then (f_X5_readWord_133 F K71 l0 l1 l2 l4 1 h12) else (f_X5_readWord_132 F K71 l0 l1 l2 l4 h12))))) else (some ((), h7)))
set_option maxRecDepth 100000 in
set_option maxHeartbeats 4000000 in
theorem T_X5_readWord_71_b (F : Nat) {K71 : Nat → Int32 → Int32 → Int32 → Int32 → Hp → Option (Unit × Hp)} (hK71 : ∀ (l0 : Nat) (l1 : Int32) (l2 : Int32) (l3 : Int32) (l4 : Int32) (h : Hp), G rvV I_X5_readWord 5 71 [(0, .ref l0), (1, .int l1), (2, .int l2), (3, .int l3), (4, .int l4)] [] h (K71 l0 l1 l2 l3 l4 h)) (l0 : Nat) (l1 : Int32) (l2 : Int32) (l3 : Int32) (l4 : Int32) (h : Hp) : G rvV I_X5_readWord 5 71 [(0, .ref l0), (1, .int l1), (2, .int l2), (3, .int l3), (4, .int l4)] [] h (f_X5_readWord_71_b F K71 l0 l1 l2 l3 l4 h) := by
  delta f_X5_readWord_71_b
  refine g_iload 4 dX5_readWord_71 rfl ?_
  refine g_ldcS 0 (by decide) rfl dX5_readWord_73 ?_
  refine g_callVSi (J := I_J0_length_8abf5) (As := []) (rest := [.int l4]) mjv_J0_length_8abf5 ml_RX5_99 rfl (by decide) rfl rfl (Nat.le_of_ble_eq_true rfl) dX5_readWord_75 (T_J0_length_8abf5 F (hp_k h 0) h) (fun v6 h7 => ?_)
  refine g_icmp_ge (tgt := 176) dX5_readWord_78 (by decide) (fun c8 => ?_) (fun c8 => ?_)
  · exact g_vret rfl dX5_readWord_176
  · refine g_aload_n 0 dX5_readWord_81 rfl ?_
    refine g_getI fl_RX5_61 rfl dX5_readWord_82 (fun v9 => ?_)
    refine g_iconst (v := 3) dX5_readWord_85 (by decide) ?_
    refine g_icmp_ne (tgt := 176) dX5_readWord_86 (by decide) (fun c10 => ?_) (fun c10 => ?_)
    · refine g_ldcS 0 (by decide) rfl dX5_readWord_89 ?_
      refine g_iload 4 dX5_readWord_91 rfl ?_
      refine g_callVSi (J := I_J0_charAt_5068e) (As := [.int l4]) (rest := []) mjv_J0_charAt_5068e ml_RX5_102 rfl (by decide) rfl rfl (Nat.le_of_ble_eq_true rfl) dX5_readWord_93 (T_J0_charAt_5068e F (hp_k h7 0) l4 h7) (fun v11 h12 => ?_)
      refine g_istore (lv' := [(5, .int v11), (0, .ref l0), (1, .int l1), (2, .int l2), (3, .int l3), (4, .int l4)]) dX5_readWord_96 (by decide) rfl ?_
      refine g_iload 0 dX5_readWord_98 rfl ?_
      refine g_bipush (v := 32) dX5_readWord_100 (by decide) ?_
      refine g_icmp_eq (tgt := 140) dX5_readWord_102 (by decide) (fun c13 => ?_) (fun c13 => ?_)
      · refine g_iload_n 4 dX5_readWord_140 rfl ?_
        refine g_if_eq (tgt := 160) dX5_readWord_141 (by decide) (fun c14 => ?_) (fun c14 => ?_)
        · refine G_lv [1, 2, 5] rfl ?_
          exact T_X5_readWord_160 F hK71 l0 l1 l4 h12
        · refine g_iload_n 3 dX5_readWord_144 rfl ?_
          refine g_aload_n 1 dX5_readWord_145 rfl ?_
          refine g_getI fl_RX5_42 rfl dX5_readWord_146 (fun v16 => ?_)
          refine g_icmp_ne (tgt := 160) dX5_readWord_149 (by decide) (fun c17 => ?_) (fun c17 => ?_)
          · refine g_aload_n 1 dX5_readWord_152 rfl ?_
            refine g_iload_n 2 dX5_readWord_153 rfl ?_
            refine g_putI fl_RX5_61 (Or.inl rfl) dX5_readWord_154 (fun h18 => ?_)
            refine g_goto (tgt := 170) dX5_readWord_157 (by decide) ?_
            refine G_lv [1, 2, 3, 4, 5] rfl ?_
            exact T_X5_readWord_170 F hK71 l0 l1 l2 l3 l4 h18
          · refine G_lv [1, 2, 5] rfl ?_
            exact T_X5_readWord_160 F hK71 l0 l1 l4 h12
      · refine g_iload_n 4 dX5_readWord_105 rfl ?_
        refine g_if_eq (tgt := 132) dX5_readWord_106 (by decide) (fun c19 => ?_) (fun c19 => ?_)
        · refine G_lv [1, 2, 3, 5] rfl ?_
          exact T_X5_readWord_132 F hK71 l0 l1 l2 l4 h12
        · refine g_iload_n 3 dX5_readWord_109 rfl ?_
          refine g_aload_n 1 dX5_readWord_110 rfl ?_
          refine g_getI fl_RX5_42 rfl dX5_readWord_111 (fun v20 => ?_)
          refine g_icmp_ge (tgt := 132) dX5_readWord_114 (by decide) (fun c21 => ?_) (fun c21 => ?_)
          · refine G_lv [1, 2, 3, 5] rfl ?_
            exact T_X5_readWord_132 F hK71 l0 l1 l2 l4 h12
          · refine g_aload_n 1 dX5_readWord_117 rfl ?_
            refine g_getR fl_RX5_15 rfl dX5_readWord_118 (fun v22 => ?_)
            refine g_iload_n 3 dX5_readWord_121 rfl ?_
            refine g_bald dX5_readWord_122 (fun v23 => ?_)
            refine g_iload 0 dX5_readWord_123 rfl ?_
            refine g_icmp_ne (tgt := 132) dX5_readWord_125 (by decide) (fun c24 => ?_) (fun c24 => ?_)
            · refine g_iconst (v := 1) dX5_readWord_128 (by decide) ?_
              refine g_goto (tgt := 133) dX5_readWord_129 (by decide) ?_
              refine G_lv [1, 2, 3, 5] rfl ?_
              exact T_X5_readWord_133 F hK71 l0 l1 l2 l4 1 h12
            · refine G_lv [1, 2, 3, 5] rfl ?_
              exact T_X5_readWord_132 F hK71 l0 l1 l2 l4 h12
    · exact g_vret rfl dX5_readWord_176
set_option maxRecDepth 100000 in
noncomputable def f_X5_readWord_71 (F : Nat) : Nat → Nat → Int32 → Int32 → Int32 → Int32 → Hp → Option (Unit × Hp)
  | 0, _, _, _, _, _, _ => none
  | n + 1, l0, l1, l2, l3, l4, h => f_X5_readWord_71_b F (f_X5_readWord_71 F n) l0 l1 l2 l3 l4 h
set_option maxRecDepth 100000 in
set_option maxHeartbeats 4000000 in
theorem T_X5_readWord_71 (F : Nat) : ∀ (n : Nat) (l0 : Nat) (l1 : Int32) (l2 : Int32) (l3 : Int32) (l4 : Int32) (h : Hp), G rvV I_X5_readWord 5 71 [(0, .ref l0), (1, .int l1), (2, .int l2), (3, .int l3), (4, .int l4)] [] h (f_X5_readWord_71 F n l0 l1 l2 l3 l4 h) := by
  intro n
  induction n with
  | zero => intros; exact G_none
  | succ n ih => intro l0 l1 l2 l3 l4 h; exact T_X5_readWord_71_b F ih l0 l1 l2 l3 l4 h
set_option maxRecDepth 100000 in
noncomputable def f_X5_readWord_52 (F : Nat) (l0 : Nat) (h : Hp) : Option (Unit × Hp) :=
  pI 6 h l0 6 3 fun h4 => gI 6 h4 l0 4 fun v5 => f_X5_readWord_71 F F l0 200 v5 1 0 h4
set_option maxRecDepth 100000 in
set_option maxHeartbeats 4000000 in
theorem T_X5_readWord_52 (F : Nat) (l0 : Nat) (h : Hp) : G rvV I_X5_readWord 5 52 [(0, .ref l0)] [] h (f_X5_readWord_52 F l0 h) := by
  delta f_X5_readWord_52
  refine g_aload_n 0 dX5_readWord_52 rfl ?_
  refine g_iconst (v := 3) dX5_readWord_53 (by decide) ?_
  refine g_putI fl_RX5_61 (Or.inl rfl) dX5_readWord_54 (fun h4 => ?_)
  refine g_sipush (v := 200) dX5_readWord_57 (by decide) ?_
  refine g_istore_n (lv' := [(1, .int 200), (0, .ref l0)]) dX5_readWord_60 (by decide) rfl ?_
  refine g_aload_n 1 dX5_readWord_61 rfl ?_
  refine g_getI fl_RX5_74 rfl dX5_readWord_62 (fun v5 => ?_)
  refine g_istore_n (lv' := [(2, .int v5), (1, .int 200), (0, .ref l0)]) dX5_readWord_65 (by decide) rfl ?_
  refine g_iconst (v := 1) dX5_readWord_66 (by decide) ?_
  refine g_istore_n (lv' := [(3, .int 1), (2, .int v5), (1, .int 200), (0, .ref l0)]) dX5_readWord_67 (by decide) rfl ?_
  refine g_iconst (v := 0) dX5_readWord_68 (by decide) ?_
  refine g_istore (lv' := [(4, .int 0), (3, .int 1), (2, .int v5), (1, .int 200), (0, .ref l0)]) dX5_readWord_69 (by decide) rfl ?_
  refine G_lv [4, 3, 2, 1, 0] rfl ?_
  exact T_X5_readWord_71 F F l0 200 v5 1 0 h4
set_option maxRecDepth 100000 in
noncomputable def f_X5_readWord_0_b (F : Nat) (K0 : Nat → Hp → Option (Unit × Hp)) (l0 : Nat) (h : Hp) : Option (Unit × Hp) :=
  gI 6 h l0 5 fun v1 => gI 6 h l0 3 fun v2 => if v2 ≤ v1 then (f_X5_readWord_52 F l0 h) else (gR 6 h l0 2 fun v25 => gI 6 h l0 5 fun v26 => aI 21 h v25 v26 fun v27 => if v27 < 97 then (f_X5_readWord_52 F l0 h) else (gR 6 h l0 2 fun v29 => gI 6 h l0 5 fun v30 => aI 21 h v29 v30 fun v31 => if 122 < v31 then (f_X5_readWord_52 F l0 h) else (gI 6 h l0 5 fun v33 => pI 6 h l0 5 (v33 + 1) fun h34 => K0 l0 h34)))
set_option maxRecDepth 100000 in
set_option maxHeartbeats 4000000 in
theorem T_X5_readWord_0_b (F : Nat) {K0 : Nat → Hp → Option (Unit × Hp)} (hK0 : ∀ (l0 : Nat) (h : Hp), G rvV I_X5_readWord 5 0 [(0, .ref l0)] [] h (K0 l0 h)) (l0 : Nat) (h : Hp) : G rvV I_X5_readWord 5 0 [(0, .ref l0)] [] h (f_X5_readWord_0_b F K0 l0 h) := by
  delta f_X5_readWord_0_b
  refine g_aload_n 0 dX5_readWord_0 rfl ?_
  refine g_getI fl_RX5_42 rfl dX5_readWord_1 (fun v1 => ?_)
  refine g_aload_n 0 dX5_readWord_4 rfl ?_
  refine g_getI fl_RX5_36 rfl dX5_readWord_5 (fun v2 => ?_)
  refine g_icmp_ge (tgt := 52) dX5_readWord_8 (by decide) (fun c3 => ?_) (fun c3 => ?_)
  · refine G_lv [0] rfl ?_
    exact T_X5_readWord_52 F l0 h
  · refine g_aload_n 0 dX5_readWord_11 rfl ?_
    refine g_getR fl_RX5_15 rfl dX5_readWord_12 (fun v25 => ?_)
    refine g_aload_n 0 dX5_readWord_15 rfl ?_
    refine g_getI fl_RX5_42 rfl dX5_readWord_16 (fun v26 => ?_)
    refine g_bald dX5_readWord_19 (fun v27 => ?_)
    refine g_bipush (v := 97) dX5_readWord_20 (by decide) ?_
    refine g_icmp_lt (tgt := 52) dX5_readWord_22 (by decide) (fun c28 => ?_) (fun c28 => ?_)
    · refine G_lv [0] rfl ?_
      exact T_X5_readWord_52 F l0 h
    · refine g_aload_n 0 dX5_readWord_25 rfl ?_
      refine g_getR fl_RX5_15 rfl dX5_readWord_26 (fun v29 => ?_)
      refine g_aload_n 0 dX5_readWord_29 rfl ?_
      refine g_getI fl_RX5_42 rfl dX5_readWord_30 (fun v30 => ?_)
      refine g_bald dX5_readWord_33 (fun v31 => ?_)
      refine g_bipush (v := 122) dX5_readWord_34 (by decide) ?_
      refine g_icmp_gt (tgt := 52) dX5_readWord_36 (by decide) (fun c32 => ?_) (fun c32 => ?_)
      · refine G_lv [0] rfl ?_
        exact T_X5_readWord_52 F l0 h
      · refine g_aload_n 0 dX5_readWord_39 rfl ?_
        refine g_dup dX5_readWord_40 rfl ?_
        refine g_getI fl_RX5_42 rfl dX5_readWord_41 (fun v33 => ?_)
        refine g_iconst (v := 1) dX5_readWord_44 (by decide) ?_
        refine g_iadd dX5_readWord_45 ?_
        refine g_putI fl_RX5_42 (Or.inl rfl) dX5_readWord_46 (fun h34 => ?_)
        refine g_goto (tgt := 0) dX5_readWord_49 (by decide) ?_
        refine G_lv [0] rfl ?_
        exact hK0 l0 h34
set_option maxRecDepth 100000 in
noncomputable def f_X5_readWord_0 (F : Nat) : Nat → Nat → Hp → Option (Unit × Hp)
  | 0, _, _ => none
  | n + 1, l0, h => f_X5_readWord_0_b F (f_X5_readWord_0 F n) l0 h
set_option maxRecDepth 100000 in
set_option maxHeartbeats 4000000 in
theorem T_X5_readWord_0 (F : Nat) : ∀ (n : Nat) (l0 : Nat) (h : Hp), G rvV I_X5_readWord 5 0 [(0, .ref l0)] [] h (f_X5_readWord_0 F n l0 h) := by
  intro n
  induction n with
  | zero => intros; exact G_none
  | succ n ih => intro l0 h; exact T_X5_readWord_0_b F ih l0 h
set_option maxRecDepth 100000 in
noncomputable def f_X5_readWord (F : Nat) (a0 : Nat) (h : Hp) : Option (Unit × Hp) :=
  f_X5_readWord_0 F F a0 h
set_option maxRecDepth 100000 in
set_option maxHeartbeats 4000000 in
theorem T_X5_readWord (F : Nat) (a0 : Nat) (h : Hp) : GM rvV I_X5_readWord 5 [.ref a0] h (f_X5_readWord F a0 h) := by
  delta f_X5_readWord
  refine GM_of (lv := [(0, .ref a0)]) (by decide +kernel) (Nat.le_of_ble_eq_true rfl) rfl ?_
  refine G_lv [0] rfl ?_
  exact T_X5_readWord_0 F F a0 h
