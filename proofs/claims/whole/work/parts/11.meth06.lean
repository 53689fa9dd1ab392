/-! L2, by program (wip/whole/gen/gen.py) -/
set_option maxRecDepth 100000 in
noncomputable def f_X2_weighDoings_50 (F : Nat) (K2 : Nat → Int32 → Hp → Option (Unit × Hp)) (K27 : Nat → Int32 → Int32 → Int32 → Hp → Option (Unit × Hp)) (l0 : Nat) (l1 : Int32) (l2 : Int32) (l3 : Int32) (h : Hp) : Option (Unit × Hp) :=
  K27 l0 l1 l2 (l3 + 1) h
set_option maxRecDepth 100000 in
set_option maxHeartbeats 4000000 in
theorem T_X2_weighDoings_50 (F : Nat) {K2 : Nat → Int32 → Hp → Option (Unit × Hp)} (hK2 : ∀ (l0 : Nat) (l1 : Int32) (h : Hp), G rvV I_X2_weighDoings 4 2 [(0, .ref l0), (1, .int l1)] [] h (K2 l0 l1 h)) {K27 : Nat → Int32 → Int32 → Int32 → Hp → Option (Unit × Hp)} (hK27 : ∀ (l0 : Nat) (l1 : Int32) (l2 : Int32) (l3 : Int32) (h : Hp), G rvV I_X2_weighDoings 4 27 [(0, .ref l0), (1, .int l1), (2, .int l2), (3, .int l3)] [] h (K27 l0 l1 l2 l3 h)) (l0 : Nat) (l1 : Int32) (l2 : Int32) (l3 : Int32) (h : Hp) : G rvV I_X2_weighDoings 4 50 [(0, .ref l0), (1, .int l1), (2, .int l2), (3, .int l3)] [] h (f_X2_weighDoings_50 F K2 K27 l0 l1 l2 l3 h) := by
  delta f_X2_weighDoings_50
  refine g_iinc (v' := l3 + 1) (lv' := [(3, .int (l3 + 1)), (0, .ref l0), (1, .int l1), (2, .int l2)]) 3 dX2_weighDoings_50 rfl rfl (by decide) rfl ?_
  refine g_goto (tgt := 27) dX2_weighDoings_53 (by decide) ?_
  refine G_lv [1, 2, 3, 0] rfl ?_
  exact hK27 l0 l1 l2 (l3 + 1) h
set_option maxRecDepth 100000 in
noncomputable def f_X2_weighDoings_27_b (F : Nat) (K2 : Nat → Int32 → Hp → Option (Unit × Hp)) (K27 : Nat → Int32 → Int32 → Int32 → Hp → Option (Unit × Hp)) (l0 : Nat) (l1 : Int32) (l2 : Int32) (l3 : Int32) (h : Hp) : Option (Unit × Hp) :=
  gI 3 h l0 1 fun v6 => if v6 ≤ l3 then (gR 3 h l0 8 fun v8 => wI h v8 l1 l2 fun h9 => K2 l0 (l1 + 1) h9) else (cV 3 h l0 (f_X2_isDone F l0 l3 l1 h) fun v10 h11 => if v10 = 0 then (f_X2_weighDoings_50 F K2 K27 l0 l1 l2 l3 h11) else (lt (l2 ||| ((1 : Int32) <<< (l3 &&& 31))) fun x13 => f_X2_weighDoings_50 F K2 K27 l0 l1 x13 l3 h11))
set_option maxRecDepth 100000 in
set_option maxHeartbeats 4000000 in
theorem T_X2_weighDoings_27_b (F : Nat) {K2 : Nat → Int32 → Hp → Option (Unit × Hp)} (hK2 : ∀ (l0 : Nat) (l1 : Int32) (h : Hp), G rvV I_X2_weighDoings 4 2 [(0, .ref l0), (1, .int l1)] [] h (K2 l0 l1 h)) {K27 : Nat → Int32 → Int32 → Int32 → Hp → Option (Unit × Hp)} (hK27 : ∀ (l0 : Nat) (l1 : Int32) (l2 : Int32) (l3 : Int32) (h : Hp), G rvV I_X2_weighDoings 4 27 [(0, .ref l0), (1, .int l1), (2, .int l2), (3, .int l3)] [] h (K27 l0 l1 l2 l3 h)) (l0 : Nat) (l1 : Int32) (l2 : Int32) (l3 : Int32) (h : Hp) : G rvV I_X2_weighDoings 4 27 [(0, .ref l0), (1, .int l1), (2, .int l2), (3, .int l3)] [] h (f_X2_weighDoings_27_b F K2 K27 l0 l1 l2 l3 h) := by
  delta f_X2_weighDoings_27_b
  refine g_iload_n 3 dX2_weighDoings_27 rfl ?_
  refine g_aload_n 0 dX2_weighDoings_28 rfl ?_
  refine g_getI fl_RX2_31 rfl dX2_weighDoings_29 (fun v6 => ?_)
  refine g_icmp_ge (tgt := 56) dX2_weighDoings_32 (by decide) (fun c7 => ?_) (fun c7 => ?_)
  · refine g_aload_n 0 dX2_weighDoings_56 rfl ?_
    refine g_getR fl_RX2_21 rfl dX2_weighDoings_57 (fun v8 => ?_)
    refine g_iload_n 1 dX2_weighDoings_60 rfl ?_
    refine g_iload_n 2 dX2_weighDoings_61 rfl ?_
    refine g_iast dX2_weighDoings_62 (fun h9 => ?_)
    refine g_iinc (v' := l1 + 1) (lv' := [(1, .int (l1 + 1)), (0, .ref l0), (2, .int l2), (3, .int l3)]) 1 dX2_weighDoings_63 rfl rfl (by decide) rfl ?_
    refine g_goto (tgt := 2) dX2_weighDoings_66 (by decide) ?_
    refine G_lv [1, 0] rfl ?_
    exact hK2 l0 (l1 + 1) h9
  · refine g_aload_n 0 dX2_weighDoings_35 rfl ?_
    refine g_iload_n 3 dX2_weighDoings_36 rfl ?_
    refine g_iload_n 1 dX2_weighDoings_37 rfl ?_
    refine g_callVi (J := I_X2_isDone) (t := 3) (As := [.int l3, .int l1]) (rest := []) mjv_X2_isDone ml_RX2_64 ⟨rfl, by decide, by decide⟩ (by decide) rfl rfl (Nat.le_of_ble_eq_true rfl) dX2_weighDoings_38 (T_X2_isDone F l0 l3 l1 h) (fun v10 h11 => ?_)
    refine g_if_eq (tgt := 50) dX2_weighDoings_41 (by decide) (fun c12 => ?_) (fun c12 => ?_)
    · refine G_lv [0, 1, 2, 3] rfl ?_
      exact T_X2_weighDoings_50 F hK2 hK27 l0 l1 l2 l3 h11
    · refine g_iload_n 2 dX2_weighDoings_44 rfl ?_
      refine g_iconst (v := 1) dX2_weighDoings_45 (by decide) ?_
      refine g_iload_n 3 dX2_weighDoings_46 rfl ?_
      refine g_ishl dX2_weighDoings_47 ?_
      refine g_ior dX2_weighDoings_48 ?_
      refine G_lti (fun x13 => ?_)
      refine g_istore_n (lv' := [(2, .int x13), (0, .ref l0), (1, .int l1), (3, .int l3)]) dX2_weighDoings_49 (by decide) rfl ?_
      refine G_lv [1, 2, 0, 3] rfl ?_
      exact T_X2_weighDoings_50 F hK2 hK27 l0 l1 x13 l3 h11
set_option maxRecDepth 100000 in
noncomputable def f_X2_weighDoings_27 (F : Nat) (K2 : Nat → Int32 → Hp → Option (Unit × Hp)) : Nat → Nat → Int32 → Int32 → Int32 → Hp → Option (Unit × Hp)
  | 0, _, _, _, _, _ => none
  | n + 1, l0, l1, l2, l3, h => f_X2_weighDoings_27_b F K2 (f_X2_weighDoings_27 F K2 n) l0 l1 l2 l3 h
set_option maxRecDepth 100000 in
set_option maxHeartbeats 4000000 in
theorem T_X2_weighDoings_27 (F : Nat) {K2 : Nat → Int32 → Hp → Option (Unit × Hp)} (hK2 : ∀ (l0 : Nat) (l1 : Int32) (h : Hp), G rvV I_X2_weighDoings 4 2 [(0, .ref l0), (1, .int l1)] [] h (K2 l0 l1 h)) : ∀ (n : Nat) (l0 : Nat) (l1 : Int32) (l2 : Int32) (l3 : Int32) (h : Hp), G rvV I_X2_weighDoings 4 27 [(0, .ref l0), (1, .int l1), (2, .int l2), (3, .int l3)] [] h (f_X2_weighDoings_27 F K2 n l0 l1 l2 l3 h) := by
  intro n
  induction n with
  | zero => intros; exact G_none
  | succ n ih => intro l0 l1 l2 l3 h; exact T_X2_weighDoings_27_b F hK2 ih l0 l1 l2 l3 h
set_option maxRecDepth 100000 in
noncomputable def f_X2_weighDoings_2_b (F : Nat) (K2 : Nat → Int32 → Hp → Option (Unit × Hp)) (l0 : Nat) (l1 : Int32) (h : Hp) : Option (Unit × Hp) :=
  gI 3 h l0 0 fun v1 => if ((1 : Int32) <<< ((2 * v1) &&& 31)) ≤ l1 then (some ((), h)) else (gR 3 h l0 8 fun v3 => al 20 h v3 fun v4 => if v4 ≤ l1 then (some ((), h)) else (f_X2_weighDoings_27 F K2 F l0 l1 0 0 h))
set_option maxRecDepth 100000 in
set_option maxHeartbeats 4000000 in
theorem T_X2_weighDoings_2_b (F : Nat) {K2 : Nat → Int32 → Hp → Option (Unit × Hp)} (hK2 : ∀ (l0 : Nat) (l1 : Int32) (h : Hp), G rvV I_X2_weighDoings 4 2 [(0, .ref l0), (1, .int l1)] [] h (K2 l0 l1 h)) (l0 : Nat) (l1 : Int32) (h : Hp) : G rvV I_X2_weighDoings 4 2 [(0, .ref l0), (1, .int l1)] [] h (f_X2_weighDoings_2_b F K2 l0 l1 h) := by
  delta f_X2_weighDoings_2_b
  refine g_iload_n 1 dX2_weighDoings_2 rfl ?_
  refine g_iconst (v := 1) dX2_weighDoings_3 (by decide) ?_
  refine g_iconst (v := 2) dX2_weighDoings_4 (by decide) ?_
  refine g_aload_n 0 dX2_weighDoings_5 rfl ?_
  refine g_getI fl_RX2_27 rfl dX2_weighDoings_6 (fun v1 => ?_)
  refine g_imul dX2_weighDoings_9 ?_
  refine g_ishl dX2_weighDoings_10 ?_
  refine g_icmp_ge (tgt := 69) dX2_weighDoings_11 (by decide) (fun c2 => ?_) (fun c2 => ?_)
  · exact g_vret rfl dX2_weighDoings_69
  · refine g_iload_n 1 dX2_weighDoings_14 rfl ?_
    refine g_aload_n 0 dX2_weighDoings_15 rfl ?_
    refine g_getR fl_RX2_21 rfl dX2_weighDoings_16 (fun v3 => ?_)
    refine g_alen (by decide) (by decide) dX2_weighDoings_19 (fun v4 => ?_)
    refine g_icmp_ge (tgt := 69) dX2_weighDoings_20 (by decide) (fun c5 => ?_) (fun c5 => ?_)
    · exact g_vret rfl dX2_weighDoings_69
    · refine g_iconst (v := 0) dX2_weighDoings_23 (by decide) ?_
      refine g_istore_n (lv' := [(2, .int 0), (0, .ref l0), (1, .int l1)]) dX2_weighDoings_24 (by decide) rfl ?_
      refine g_iconst (v := 0) dX2_weighDoings_25 (by decide) ?_
      refine g_istore_n (lv' := [(3, .int 0), (2, .int 0), (0, .ref l0), (1, .int l1)]) dX2_weighDoings_26 (by decide) rfl ?_
      refine G_lv [2, 3, 1, 0] rfl ?_
      exact T_X2_weighDoings_27 F hK2 F l0 l1 0 0 h
set_option maxRecDepth 100000 in
noncomputable def f_X2_weighDoings_2 (F : Nat) : Nat → Nat → Int32 → Hp → Option (Unit × Hp)
  | 0, _, _, _ => none
  | n + 1, l0, l1, h => f_X2_weighDoings_2_b F (f_X2_weighDoings_2 F n) l0 l1 h
set_option maxRecDepth 100000 in
set_option maxHeartbeats 4000000 in
theorem T_X2_weighDoings_2 (F : Nat) : ∀ (n : Nat) (l0 : Nat) (l1 : Int32) (h : Hp), G rvV I_X2_weighDoings 4 2 [(0, .ref l0), (1, .int l1)] [] h (f_X2_weighDoings_2 F n l0 l1 h) := by
  intro n
  induction n with
  | zero => intros; exact G_none
  | succ n ih => intro l0 l1 h; exact T_X2_weighDoings_2_b F ih l0 l1 h
set_option maxRecDepth 100000 in
noncomputable def f_X2_weighDoings (F : Nat) (a0 : Nat) (h : Hp) : Option (Unit × Hp) :=
  f_X2_weighDoings_2 F F a0 0 h
set_option maxRecDepth 100000 in
set_option maxHeartbeats 4000000 in
theorem T_X2_weighDoings (F : Nat) (a0 : Nat) (h : Hp) : GM rvV I_X2_weighDoings 4 [.ref a0] h (f_X2_weighDoings F a0 h) := by
  delta f_X2_weighDoings
  refine GM_of (lv := [(0, .ref a0)]) (by decide +kernel) (Nat.le_of_ble_eq_true rfl) rfl ?_
  refine g_iconst (v := 0) dX2_weighDoings_0 (by decide) ?_
  refine g_istore_n (lv' := [(1, .int 0), (0, .ref a0)]) dX2_weighDoings_1 (by decide) rfl ?_
  refine G_lv [1, 0] rfl ?_
  exact T_X2_weighDoings_2 F F a0 0 h
set_option maxRecDepth 100000 in
noncomputable def f_X3_clear (F : Nat) (a0 : Nat) (h : Hp) : Option (Unit × Hp) :=
  pI 4 h a0 1 0 fun h1 => pI 4 h1 a0 2 0 fun h2 => pI 4 h2 a0 3 0 fun h3 => pI 4 h3 a0 4 0 fun h4 => pI 4 h4 a0 5 0 fun h5 => some ((), h5)
set_option maxRecDepth 100000 in
set_option maxHeartbeats 4000000 in
theorem T_X3_clear (F : Nat) (a0 : Nat) (h : Hp) : GM rvV I_X3_clear 1 [.ref a0] h (f_X3_clear F a0 h) := by
  delta f_X3_clear
  refine GM_of (lv := [(0, .ref a0)]) (by decide +kernel) (Nat.le_of_ble_eq_true rfl) rfl ?_
  refine g_aload_n 0 dX3_clear_0 rfl ?_
  refine g_iconst (v := 0) dX3_clear_1 (by decide) ?_
  refine g_putI fl_RX3_21 (Or.inl rfl) dX3_clear_2 (fun h1 => ?_)
  refine g_aload_n 0 dX3_clear_5 rfl ?_
  refine g_iconst (v := 0) dX3_clear_6 (by decide) ?_
  refine g_putI fl_RX3_25 (Or.inl rfl) dX3_clear_7 (fun h2 => ?_)
  refine g_aload_n 0 dX3_clear_10 rfl ?_
  refine g_iconst (v := 0) dX3_clear_11 (by decide) ?_
  refine g_putI fl_RX3_28 (Or.inl rfl) dX3_clear_12 (fun h3 => ?_)
  refine g_aload_n 0 dX3_clear_15 rfl ?_
  refine g_iconst (v := 0) dX3_clear_16 (by decide) ?_
  refine g_putI fl_RX3_31 (Or.inl rfl) dX3_clear_17 (fun h4 => ?_)
  refine g_aload_n 0 dX3_clear_20 rfl ?_
  refine g_iconst (v := 0) dX3_clear_21 (by decide) ?_
  refine g_putI fl_RX3_34 (Or.inl rfl) dX3_clear_22 (fun h5 => ?_)
  exact g_vret rfl dX3_clear_25
set_option maxRecDepth 100000 in
noncomputable def f_X2_kindOf (F : Nat) (a0 : Nat) (a1 : Int32) (h : Hp) : Option (Int32 × Hp) :=
  if a1 < 0 then (some (0, h)) else (if 4 ≤ a1 then (some (0, h)) else (gR 3 h a0 5 fun v3 => aI 20 h v3 a1 fun v4 => some (v4, h)))
set_option maxRecDepth 100000 in
set_option maxHeartbeats 4000000 in
theorem T_X2_kindOf (F : Nat) (a0 : Nat) (a1 : Int32) (h : Hp) : GM rvI I_X2_kindOf 1 [.ref a0, .int a1] h (f_X2_kindOf F a0 a1 h) := by
  delta f_X2_kindOf
  refine GM_of (lv := [(0, .ref a0), (1, .int a1)]) (by decide +kernel) (Nat.le_of_ble_eq_true rfl) rfl ?_
  refine g_iload_n 1 dX2_kindOf_0 rfl ?_
  refine g_if_lt (tgt := 18) dX2_kindOf_1 (by decide) (fun c1 => ?_) (fun c1 => ?_)
  · refine g_iconst (v := 0) dX2_kindOf_18 (by decide) ?_
    exact g_iret rfl dX2_kindOf_19
  · refine g_iload_n 1 dX2_kindOf_4 rfl ?_
    refine g_iconst (v := 4) dX2_kindOf_5 (by decide) ?_
    refine g_icmp_ge (tgt := 18) dX2_kindOf_6 (by decide) (fun c2 => ?_) (fun c2 => ?_)
    · refine g_iconst (v := 0) dX2_kindOf_18 (by decide) ?_
      exact g_iret rfl dX2_kindOf_19
    · refine g_aload_n 0 dX2_kindOf_9 rfl ?_
      refine g_getR fl_RX2_11 rfl dX2_kindOf_10 (fun v3 => ?_)
      refine g_iload_n 1 dX2_kindOf_13 rfl ?_
      refine g_iald dX2_kindOf_14 (fun v4 => ?_)
      refine g_goto (tgt := 19) dX2_kindOf_15 (by decide) ?_
      exact g_iret rfl dX2_kindOf_19
set_option maxRecDepth 100000 in
noncomputable def f_X2_setComing (F : Nat) (a0 : Nat) (a1 : Int32) (a2 : Int32) (h : Hp) : Option (Unit × Hp) :=
  if a1 < 0 then (some ((), h)) else (gR 3 h a0 9 fun v2 => al 20 h v2 fun v3 => if v3 ≤ a1 then (some ((), h)) else (gR 3 h a0 9 fun v5 => wI h v5 a1 a2 fun h6 => some ((), h6)))
set_option maxRecDepth 100000 in
set_option maxHeartbeats 4000000 in
theorem T_X2_setComing (F : Nat) (a0 : Nat) (a1 : Int32) (a2 : Int32) (h : Hp) : GM rvV I_X2_setComing 1 [.ref a0, .int a1, .int a2] h (f_X2_setComing F a0 a1 a2 h) := by
  delta f_X2_setComing
  refine GM_of (lv := [(0, .ref a0), (1, .int a1), (2, .int a2)]) (by decide +kernel) (Nat.le_of_ble_eq_true rfl) rfl ?_
  refine g_iload_n 1 dX2_setComing_0 rfl ?_
  refine g_if_lt (tgt := 20) dX2_setComing_1 (by decide) (fun c1 => ?_) (fun c1 => ?_)
  · exact g_vret rfl dX2_setComing_20
  · refine g_iload_n 1 dX2_setComing_4 rfl ?_
    refine g_aload_n 0 dX2_setComing_5 rfl ?_
    refine g_getR fl_RX2_24 rfl dX2_setComing_6 (fun v2 => ?_)
    refine g_alen (by decide) (by decide) dX2_setComing_9 (fun v3 => ?_)
    refine g_icmp_ge (tgt := 20) dX2_setComing_10 (by decide) (fun c4 => ?_) (fun c4 => ?_)
    · exact g_vret rfl dX2_setComing_20
    · refine g_aload_n 0 dX2_setComing_13 rfl ?_
      refine g_getR fl_RX2_24 rfl dX2_setComing_14 (fun v5 => ?_)
      refine g_iload_n 1 dX2_setComing_17 rfl ?_
      refine g_iload_n 2 dX2_setComing_18 rfl ?_
      refine g_iast dX2_setComing_19 (fun h6 => ?_)
      exact g_vret rfl dX2_setComing_20
set_option maxRecDepth 100000 in
noncomputable def f_X3_namesBond_5_b (F : Nat) (K5 : Nat → Int32 → Hp → Option (Int32 × Hp)) (l0 : Nat) (l1 : Int32) (h : Hp) : Option (Int32 × Hp) :=
  gI 4 h l0 3 fun v2 => if v2 ≤ l1 then (some (0, h)) else (gR 4 h l0 0 fun v4 => al 20 h v4 fun v5 => if v5 ≤ l1 then (some (0, h)) else (gR 4 h l0 0 fun v7 => aI 20 h v7 l1 fun v8 => if v8 = 5 then (some (1, h)) else (K5 l0 (l1 + 1) h)))
set_option maxRecDepth 100000 in
set_option maxHeartbeats 4000000 in
theorem T_X3_namesBond_5_b (F : Nat) {K5 : Nat → Int32 → Hp → Option (Int32 × Hp)} (hK5 : ∀ (l0 : Nat) (l1 : Int32) (h : Hp), G rvI I_X3_namesBond 1 5 [(0, .ref l0), (1, .int l1)] [] h (K5 l0 l1 h)) (l0 : Nat) (l1 : Int32) (h : Hp) : G rvI I_X3_namesBond 1 5 [(0, .ref l0), (1, .int l1)] [] h (f_X3_namesBond_5_b F K5 l0 l1 h) := by
  delta f_X3_namesBond_5_b
  refine g_iload_n 1 dX3_namesBond_5 rfl ?_
  refine g_aload_n 0 dX3_namesBond_6 rfl ?_
  refine g_getI fl_RX3_28 rfl dX3_namesBond_7 (fun v2 => ?_)
  refine g_icmp_ge (tgt := 40) dX3_namesBond_10 (by decide) (fun c3 => ?_) (fun c3 => ?_)
  · refine g_iconst (v := 0) dX3_namesBond_40 (by decide) ?_
    exact g_zret (ty := .boolean) rfl rfl dX3_namesBond_41
  · refine g_iload_n 1 dX3_namesBond_13 rfl ?_
    refine g_aload_n 0 dX3_namesBond_14 rfl ?_
    refine g_getR fl_RX3_9 rfl dX3_namesBond_15 (fun v4 => ?_)
    refine g_alen (by decide) (by decide) dX3_namesBond_18 (fun v5 => ?_)
    refine g_icmp_ge (tgt := 40) dX3_namesBond_19 (by decide) (fun c6 => ?_) (fun c6 => ?_)
    · refine g_iconst (v := 0) dX3_namesBond_40 (by decide) ?_
      exact g_zret (ty := .boolean) rfl rfl dX3_namesBond_41
    · refine g_aload_n 0 dX3_namesBond_22 rfl ?_
      refine g_getR fl_RX3_9 rfl dX3_namesBond_23 (fun v7 => ?_)
      refine g_iload_n 1 dX3_namesBond_26 rfl ?_
      refine g_iald dX3_namesBond_27 (fun v8 => ?_)
      refine g_iconst (v := 5) dX3_namesBond_28 (by decide) ?_
      refine g_icmp_ne (tgt := 34) dX3_namesBond_29 (by decide) (fun c9 => ?_) (fun c9 => ?_)
      · refine g_iconst (v := 1) dX3_namesBond_32 (by decide) ?_
        exact g_zret (ty := .boolean) rfl rfl dX3_namesBond_33
      · refine g_iinc (v' := l1 + 1) (lv' := [(1, .int (l1 + 1)), (0, .ref l0)]) 1 dX3_namesBond_34 rfl rfl (by decide) rfl ?_
        refine g_goto (tgt := 5) dX3_namesBond_37 (by decide) ?_
        refine G_lv [1, 0] rfl ?_
        exact hK5 l0 (l1 + 1) h
set_option maxRecDepth 100000 in
noncomputable def f_X3_namesBond_5 (F : Nat) : Nat → Nat → Int32 → Hp → Option (Int32 × Hp)
  | 0, _, _, _ => none
  | n + 1, l0, l1, h => f_X3_namesBond_5_b F (f_X3_namesBond_5 F n) l0 l1 h
set_option maxRecDepth 100000 in
set_option maxHeartbeats 4000000 in
theorem T_X3_namesBond_5 (F : Nat) : ∀ (n : Nat) (l0 : Nat) (l1 : Int32) (h : Hp), G rvI I_X3_namesBond 1 5 [(0, .ref l0), (1, .int l1)] [] h (f_X3_namesBond_5 F n l0 l1 h) := by
  intro n
  induction n with
  | zero => intros; exact G_none
  | succ n ih => intro l0 l1 h; exact T_X3_namesBond_5_b F ih l0 l1 h
set_option maxRecDepth 100000 in
noncomputable def f_X3_namesBond (F : Nat) (a0 : Nat) (h : Hp) : Option (Int32 × Hp) :=
  gI 4 h a0 2 fun v1 => f_X3_namesBond_5 F F a0 v1 h
set_option maxRecDepth 100000 in
set_option maxHeartbeats 4000000 in
theorem T_X3_namesBond (F : Nat) (a0 : Nat) (h : Hp) : GM rvI I_X3_namesBond 1 [.ref a0] h (f_X3_namesBond F a0 h) := by
  delta f_X3_namesBond
  refine GM_of (lv := [(0, .ref a0)]) (by decide +kernel) (Nat.le_of_ble_eq_true rfl) rfl ?_
  refine g_aload_n 0 dX3_namesBond_0 rfl ?_
  refine g_getI fl_RX3_25 rfl dX3_namesBond_1 (fun v1 => ?_)
  refine g_istore_n (lv' := [(1, .int v1), (0, .ref a0)]) dX3_namesBond_4 (by decide) rfl ?_
  refine G_lv [1, 0] rfl ?_
  exact T_X3_namesBond_5 F F a0 v1 h
set_option maxRecDepth 100000 in
noncomputable def f_X3_pop (F : Nat) (a0 : Nat) (h : Hp) : Option (Int32 × Hp) :=
  gI 4 h a0 8 fun v1 => if 0 < v1 then (gI 4 h a0 8 fun v3 => pI 4 h a0 8 (v3 - 1) fun h4 => gR 4 h4 a0 7 fun v5 => gI 4 h4 a0 8 fun v6 => aI 20 h4 v5 v6 fun v7 => some (v7, h4)) else (some (0, h))
set_option maxRecDepth 100000 in
set_option maxHeartbeats 4000000 in
theorem T_X3_pop (F : Nat) (a0 : Nat) (h : Hp) : GM rvI I_X3_pop 1 [.ref a0] h (f_X3_pop F a0 h) := by
  delta f_X3_pop
  refine GM_of (lv := [(0, .ref a0)]) (by decide +kernel) (Nat.le_of_ble_eq_true rfl) rfl ?_
  refine g_aload_n 0 dX3_pop_0 rfl ?_
  refine g_getI fl_RX3_74 rfl dX3_pop_1 (fun v1 => ?_)
  refine g_if_gt (tgt := 9) dX3_pop_4 (by decide) (fun c2 => ?_) (fun c2 => ?_)
  · refine g_aload_n 0 dX3_pop_9 rfl ?_
    refine g_dup dX3_pop_10 rfl ?_
    refine g_getI fl_RX3_74 rfl dX3_pop_11 (fun v3 => ?_)
    refine g_iconst (v := 1) dX3_pop_14 (by decide) ?_
    refine g_isub dX3_pop_15 ?_
    refine g_putI fl_RX3_74 (Or.inl rfl) dX3_pop_16 (fun h4 => ?_)
    refine g_aload_n 0 dX3_pop_19 rfl ?_
    refine g_getR fl_RX3_18 rfl dX3_pop_20 (fun v5 => ?_)
    refine g_aload_n 0 dX3_pop_23 rfl ?_
    refine g_getI fl_RX3_74 rfl dX3_pop_24 (fun v6 => ?_)
    refine g_iald dX3_pop_27 (fun v7 => ?_)
    exact g_iret rfl dX3_pop_28
  · refine g_iconst (v := 0) dX3_pop_7 (by decide) ?_
    exact g_iret rfl dX3_pop_8
set_option maxRecDepth 100000 in
noncomputable def f_X3_joined (F : Nat) (a0 : Int32) (a1 : Int64) (a2 : Int64) (h : Hp) : Option (Int64 × Hp) :=
  if a0 = 6 then (some ((a1 + a2), h)) else (if a0 = 7 then (some ((a1 - a2), h)) else (if a0 = 8 then (some ((a1 * a2), h)) else (if a0 = 9 then (if ((a1 : Int64) = a2 : Prop) then (some (1, h)) else (some (0, h))) else (if a0 = 10 then (if (a2 ≤ (a1 : Int64) : Prop) then (some (0, h)) else (some (1, h))) else (if a0 = 11 then (if ((a1 : Int64) ≤ a2 : Prop) then (some (0, h)) else (some (1, h))) else (if a0 = 12 then (some ((a1 &&& a2), h)) else (some ((a1 ||| a2), h))))))))
set_option maxRecDepth 100000 in
set_option maxHeartbeats 4000000 in
theorem T_X3_joined (F : Nat) (a0 : Int32) (a1 : Int64) (a2 : Int64) (h : Hp) : GM rvL I_X3_joined 1 [.int a0, .long a1, .long a2] h (f_X3_joined F a0 a1 a2 h) := by
  delta f_X3_joined
  refine GM_of (lv := [(0, .int a0), (1, .long a1), (3, .long a2)]) (by decide +kernel) (Nat.le_of_ble_eq_true rfl) rfl ?_
  refine g_iload_n 0 dX3_joined_0 rfl ?_
  refine G_ite (fun c1 => ?_) (fun c1 => ?_)
  · refine g_tin 6 (43) dX3_joined_1 c1 (by decide) (by decide) (by decide) (by decide) (tgt := 44) ?_
    refine g_lload_n 1 dX3_joined_44 rfl ?_
    refine g_lload_n 2 dX3_joined_45 rfl ?_
    refine g_ladd dX3_joined_46 ?_
    exact g_lret rfl dX3_joined_47
  · refine G_ite (fun c2 => ?_) (fun c2 => ?_)
    · refine g_tin 7 (47) dX3_joined_1 c2 (by decide) (by decide) (by decide) (by decide) (tgt := 48) ?_
      refine g_lload_n 1 dX3_joined_48 rfl ?_
      refine g_lload_n 2 dX3_joined_49 rfl ?_
      refine g_lsub dX3_joined_50 ?_
      exact g_lret rfl dX3_joined_51
    · refine G_ite (fun c3 => ?_) (fun c3 => ?_)
      · refine g_tin 8 (51) dX3_joined_1 c3 (by decide) (by decide) (by decide) (by decide) (tgt := 52) ?_
        refine g_lload_n 1 dX3_joined_52 rfl ?_
        refine g_lload_n 2 dX3_joined_53 rfl ?_
        refine g_lmul dX3_joined_54 ?_
        exact g_lret rfl dX3_joined_55
      · refine G_ite (fun c4 => ?_) (fun c4 => ?_)
        · refine g_tin 9 (55) dX3_joined_1 c4 (by decide) (by decide) (by decide) (by decide) (tgt := 56) ?_
          refine g_lload_n 1 dX3_joined_56 rfl ?_
          refine g_lload_n 2 dX3_joined_57 rfl ?_
          refine g_lc_ne (x := a1) (y := a2) (tgt := 66) dX3_joined_58 dX3_joined_59 (by decide) (fun c5 => ?_) (fun c5 => ?_)
          · refine g_lconst (v := 1) dX3_joined_62 (by decide) ?_
            refine g_goto (tgt := 67) dX3_joined_63 (by decide) ?_
            exact g_lret rfl dX3_joined_67
          · refine g_lconst (v := 0) dX3_joined_66 (by decide) ?_
            exact g_lret rfl dX3_joined_67
        · refine G_ite (fun c6 => ?_) (fun c6 => ?_)
          · refine g_tin 10 (67) dX3_joined_1 c6 (by decide) (by decide) (by decide) (by decide) (tgt := 68) ?_
            refine g_lload_n 1 dX3_joined_68 rfl ?_
            refine g_lload_n 2 dX3_joined_69 rfl ?_
            refine g_lc_ge (x := a1) (y := a2) (tgt := 78) dX3_joined_70 dX3_joined_71 (by decide) (fun c7 => ?_) (fun c7 => ?_)
            · refine g_lconst (v := 0) dX3_joined_78 (by decide) ?_
              exact g_lret rfl dX3_joined_79
            · refine g_lconst (v := 1) dX3_joined_74 (by decide) ?_
              refine g_goto (tgt := 79) dX3_joined_75 (by decide) ?_
              exact g_lret rfl dX3_joined_79
          · refine G_ite (fun c8 => ?_) (fun c8 => ?_)
            · refine g_tin 11 (79) dX3_joined_1 c8 (by decide) (by decide) (by decide) (by decide) (tgt := 80) ?_
              refine g_lload_n 1 dX3_joined_80 rfl ?_
              refine g_lload_n 2 dX3_joined_81 rfl ?_
              refine g_lc_le (x := a1) (y := a2) (tgt := 90) dX3_joined_82 dX3_joined_83 (by decide) (fun c9 => ?_) (fun c9 => ?_)
              · refine g_lconst (v := 0) dX3_joined_90 (by decide) ?_
                exact g_lret rfl dX3_joined_91
              · refine g_lconst (v := 1) dX3_joined_86 (by decide) ?_
                refine g_goto (tgt := 91) dX3_joined_87 (by decide) ?_
                exact g_lret rfl dX3_joined_91
            · refine G_ite (fun c10 => ?_) (fun c10 => ?_)
              · refine g_tin 12 (91) dX3_joined_1 c10 (by decide) (by decide) (by decide) (by decide) (tgt := 92) ?_
                refine g_lload_n 1 dX3_joined_92 rfl ?_
                refine g_lload_n 2 dX3_joined_93 rfl ?_
                refine g_land dX3_joined_94 ?_
                exact g_lret rfl dX3_joined_95
              · refine g_tout (tgt := 96) dX3_joined_1 (by have z0 := lv_neT c1 (show (6 : Int32).toInt = 6 by decide); have z1 := lv_neT c2 (show (7 : Int32).toInt = 7 by decide); have z2 := lv_neT c3 (show (8 : Int32).toInt = 8 by decide); have z3 := lv_neT c4 (show (9 : Int32).toInt = 9 by decide); have z4 := lv_neT c6 (show (10 : Int32).toInt = 10 by decide); have z5 := lv_neT c8 (show (11 : Int32).toInt = 11 by decide); have z6 := lv_neT c10 (show (12 : Int32).toInt = 12 by decide); omega) (by decide) ?_
                refine g_lload_n 1 dX3_joined_96 rfl ?_
                refine g_lload_n 2 dX3_joined_97 rfl ?_
                refine g_lor dX3_joined_98 ?_
                exact g_lret rfl dX3_joined_99
set_option maxRecDepth 100000 in
noncomputable def f_J9_max_f86c9 (F : Nat) (a0 : Int64) (a1 : Int64) (h : Hp) : Option (Int64 × Hp) :=
  if ((a0 : Int64) < a1 : Prop) then (some (a1, h)) else (some (a0, h))
set_option maxRecDepth 100000 in
set_option maxHeartbeats 4000000 in
theorem T_J9_max_f86c9 (F : Nat) (a0 : Int64) (a1 : Int64) (h : Hp) : GM rvL I_J9_max_f86c9 1 [.long a0, .long a1] h (f_J9_max_f86c9 F a0 a1 h) := by
  delta f_J9_max_f86c9
  refine GM_of (lv := [(0, .long a0), (2, .long a1)]) (by decide +kernel) (Nat.le_of_ble_eq_true rfl) rfl ?_
  refine g_lload_n 0 dJ9_max_f86c9_0 rfl ?_
  refine g_lload_n 1 dJ9_max_f86c9_1 rfl ?_
  refine g_lc_lt (x := a0) (y := a1) (tgt := 10) dJ9_max_f86c9_2 dJ9_max_f86c9_3 (by decide) (fun c1 => ?_) (fun c1 => ?_)
  · refine g_lload_n 1 dJ9_max_f86c9_10 rfl ?_
    exact g_lret rfl dJ9_max_f86c9_11
  · refine g_lload_n 0 dJ9_max_f86c9_6 rfl ?_
    refine g_goto (tgt := 11) dJ9_max_f86c9_7 (by decide) ?_
    exact g_lret rfl dJ9_max_f86c9_11
set_option maxRecDepth 100000 in
noncomputable def f_J9_min_f86c9 (F : Nat) (a0 : Int64) (a1 : Int64) (h : Hp) : Option (Int64 × Hp) :=
  if (a1 < (a0 : Int64) : Prop) then (some (a1, h)) else (some (a0, h))
set_option maxRecDepth 100000 in
set_option maxHeartbeats 4000000 in
theorem T_J9_min_f86c9 (F : Nat) (a0 : Int64) (a1 : Int64) (h : Hp) : GM rvL I_J9_min_f86c9 1 [.long a0, .long a1] h (f_J9_min_f86c9 F a0 a1 h) := by
  delta f_J9_min_f86c9
  refine GM_of (lv := [(0, .long a0), (2, .long a1)]) (by decide +kernel) (Nat.le_of_ble_eq_true rfl) rfl ?_
  refine g_lload_n 0 dJ9_min_f86c9_0 rfl ?_
  refine g_lload_n 1 dJ9_min_f86c9_1 rfl ?_
  refine g_lc_gt (x := a0) (y := a1) (tgt := 10) dJ9_min_f86c9_2 dJ9_min_f86c9_3 (by decide) (fun c1 => ?_) (fun c1 => ?_)
  · refine g_lload_n 1 dJ9_min_f86c9_10 rfl ?_
    exact g_lret rfl dJ9_min_f86c9_11
  · refine g_lload_n 0 dJ9_min_f86c9_6 rfl ?_
    refine g_goto (tgt := 11) dJ9_min_f86c9_7 (by decide) ?_
    exact g_lret rfl dJ9_min_f86c9_11
set_option maxRecDepth 100000 in
noncomputable def f_X3_kept (F : Nat) (a0 : Int64) (h : Hp) : Option (Int32 × Hp) :=
  bd (f_J9_min_f86c9 F 1000000 a0 h) fun v1 h2 => bd (f_J9_max_f86c9 F (-1000000) v1 h2) fun v3 h4 => some (((v3 : Int64).toInt32), h4)
set_option maxRecDepth 100000 in
set_option maxHeartbeats 4000000 in
theorem T_X3_kept (F : Nat) (a0 : Int64) (h : Hp) : GM rvI I_X3_kept 2 [.long a0] h (f_X3_kept F a0 h) := by
  delta f_X3_kept
  refine GM_of (lv := [(0, .long a0)]) (by decide +kernel) (Nat.le_of_ble_eq_true rfl) rfl ?_
  refine g_ldc2 (v := (-1000000)) dX3_kept_0 cl_RX3_96 ?_
  refine g_ldc2 (v := 1000000) dX3_kept_3 cl_RX3_98 ?_
  refine g_lload_n 0 dX3_kept_6 rfl ?_
  refine g_callSl (J := I_J9_min_f86c9) (As := [.long 1000000, .long a0]) (rest := [.long (-1000000)]) mjs_J9_min_f86c9 ml_RX3_100 (by decide) rfl rfl (Nat.le_of_ble_eq_true rfl) dX3_kept_7 (T_J9_min_f86c9 F 1000000 a0 h) (fun v1 h2 => ?_)
  refine g_callSl (J := I_J9_max_f86c9) (As := [.long (-1000000), .long v1]) (rest := []) mjs_J9_max_f86c9 ml_RX3_103 (by decide) rfl rfl (Nat.le_of_ble_eq_true rfl) dX3_kept_10 (T_J9_max_f86c9 F (-1000000) v1 h2) (fun v3 h4 => ?_)
  refine g_l2i dX3_kept_13 ?_
  exact g_iret rfl dX3_kept_14
set_option maxRecDepth 100000 in
noncomputable def f_X3_push (F : Nat) (a0 : Nat) (a1 : Int32) (h : Hp) : Option (Unit × Hp) :=
  gI 4 h a0 8 fun v1 => gR 4 h a0 7 fun v2 => al 20 h v2 fun v3 => if v3 ≤ v1 then (some ((), h)) else (gR 4 h a0 7 fun v5 => gI 4 h a0 8 fun v6 => wI h v5 v6 a1 fun h7 => gI 4 h7 a0 8 fun v8 => pI 4 h7 a0 8 (v8 + 1) fun h9 => some ((), h9))
set_option maxRecDepth 100000 in
set_option maxHeartbeats 4000000 in
theorem T_X3_push (F : Nat) (a0 : Nat) (a1 : Int32) (h : Hp) : GM rvV I_X3_push 1 [.ref a0, .int a1] h (f_X3_push F a0 a1 h) := by
  delta f_X3_push
  refine GM_of (lv := [(0, .ref a0), (1, .int a1)]) (by decide +kernel) (Nat.le_of_ble_eq_true rfl) rfl ?_
  refine g_aload_n 0 dX3_push_0 rfl ?_
  refine g_getI fl_RX3_74 rfl dX3_push_1 (fun v1 => ?_)
  refine g_aload_n 0 dX3_push_4 rfl ?_
  refine g_getR fl_RX3_18 rfl dX3_push_5 (fun v2 => ?_)
  refine g_alen (by decide) (by decide) dX3_push_8 (fun v3 => ?_)
  refine g_icmp_ge (tgt := 32) dX3_push_9 (by decide) (fun c4 => ?_) (fun c4 => ?_)
  · exact g_vret rfl dX3_push_32
  · refine g_aload_n 0 dX3_push_12 rfl ?_
    refine g_getR fl_RX3_18 rfl dX3_push_13 (fun v5 => ?_)
    refine g_aload_n 0 dX3_push_16 rfl ?_
    refine g_getI fl_RX3_74 rfl dX3_push_17 (fun v6 => ?_)
    refine g_iload_n 1 dX3_push_20 rfl ?_
    refine g_iast dX3_push_21 (fun h7 => ?_)
    refine g_aload_n 0 dX3_push_22 rfl ?_
    refine g_dup dX3_push_23 rfl ?_
    refine g_getI fl_RX3_74 rfl dX3_push_24 (fun v8 => ?_)
    refine g_iconst (v := 1) dX3_push_27 (by decide) ?_
    refine g_iadd dX3_push_28 ?_
    refine g_putI fl_RX3_74 (Or.inl rfl) dX3_push_29 (fun h9 => ?_)
    exact g_vret rfl dX3_push_32
set_option maxRecDepth 100000 in
noncomputable def f_X3_step_62 (F : Nat) (s0 : Int32) (s1 : Nat) (h : Hp) : Option (Unit × Hp) :=
  cV 4 h s1 (f_X3_push F s1 s0 h) fun v7 h8 => some ((), h8)
set_option maxRecDepth 100000 in
set_option maxHeartbeats 4000000 in
theorem T_X3_step_62 (F : Nat) (s0 : Int32) (s1 : Nat) (h : Hp) : G rvV I_X3_step 3 62 [] [.int s0, .ref s1] h (f_X3_step_62 F s0 s1 h) := by
  delta f_X3_step_62
  refine g_callVv (J := I_X3_push) (t := 4) (As := [.int s0]) (rest := []) mjv_X3_push ml_RX3_85 ⟨rfl, by decide, by decide⟩ (by decide) rfl rfl (Nat.le_of_ble_eq_true rfl) dX3_step_62 (T_X3_push F s1 s0 h) (fun v7 h8 => ?_)
  refine g_goto (tgt := 126) dX3_step_65 (by decide) ?_
  exact g_vret rfl dX3_step_126
set_option maxRecDepth 100000 in
noncomputable def f_X3_step_97 (F : Nat) (s0 : Int32) (s1 : Nat) (h : Hp) : Option (Unit × Hp) :=
  cV 4 h s1 (f_X3_push F s1 s0 h) fun v17 h18 => some ((), h18)
set_option maxRecDepth 100000 in
set_option maxHeartbeats 4000000 in
theorem T_X3_step_97 (F : Nat) (s0 : Int32) (s1 : Nat) (h : Hp) : G rvV I_X3_step 3 97 [] [.int s0, .ref s1] h (f_X3_step_97 F s0 s1 h) := by
  delta f_X3_step_97
  refine g_callVv (J := I_X3_push) (t := 4) (As := [.int s0]) (rest := []) mjv_X3_push ml_RX3_85 ⟨rfl, by decide, by decide⟩ (by decide) rfl rfl (Nat.le_of_ble_eq_true rfl) dX3_step_97 (T_X3_push F s1 s0 h) (fun v17 h18 => ?_)
  refine g_goto (tgt := 126) dX3_step_100 (by decide) ?_
  exact g_vret rfl dX3_step_126
set_option maxRecDepth 100000 in
noncomputable def f_X3_step_43 (F : Nat) (l0 : Nat) (l1 : Int32) (h : Hp) : Option (Unit × Hp) :=
  if l1 = 14 then (cV 4 h l0 (f_X3_pop F l0 h) fun v4 h5 => if v4 = 0 then (f_X3_step_62 F 1 l0 h5) else (f_X3_step_62 F 0 l0 h5)) else (if l1 = 15 then (cV 4 h l0 (f_X3_pop F l0 h) fun v10 h11 => cV 4 h11 l0 (f_X3_pop F l0 h11) fun v12 h13 => cV 4 h13 l0 (f_X3_pop F l0 h13) fun v14 h15 => if v14 = 0 then (f_X3_step_97 F v10 l0 h15) else (f_X3_step_97 F v12 l0 h15)) else (cV 4 h l0 (f_X3_pop F l0 h) fun v19 h20 => cV 4 h20 l0 (f_X3_pop F l0 h20) fun v21 h22 => bd (f_X3_joined F l1 (v21.toInt64) (v19.toInt64) h22) fun v23 h24 => bd (f_X3_kept F v23 h24) fun v25 h26 => cV 4 h26 l0 (f_X3_push F l0 v25 h26) fun v27 h28 => some ((), h28)))
set_option maxRecDepth 100000 in
set_option maxHeartbeats 4000000 in
theorem T_X3_step_43 (F : Nat) (l0 : Nat) (l1 : Int32) (h : Hp) : G rvV I_X3_step 3 43 [(0, .ref l0), (1, .int l1)] [] h (f_X3_step_43 F l0 l1 h) := by
  delta f_X3_step_43
  refine g_iload_n 1 dX3_step_43 rfl ?_
  refine g_bipush (v := 14) dX3_step_44 (by decide) ?_
  refine g_icmp_ne (tgt := 68) dX3_step_46 (by decide) (fun c3 => ?_) (fun c3 => ?_)
  · refine g_aload_n 0 dX3_step_49 rfl ?_
    refine g_aload_n 0 dX3_step_50 rfl ?_
    refine g_callVi (J := I_X3_pop) (t := 4) (As := []) (rest := [.ref l0]) mjv_X3_pop ml_RX3_81 ⟨rfl, by decide, by decide⟩ (by decide) rfl rfl (Nat.le_of_ble_eq_true rfl) dX3_step_51 (T_X3_pop F l0 h) (fun v4 h5 => ?_)
    refine g_if_ne (tgt := 61) dX3_step_54 (by decide) (fun c6 => ?_) (fun c6 => ?_)
    · refine g_iconst (v := 1) dX3_step_57 (by decide) ?_
      refine g_goto (tgt := 62) dX3_step_58 (by decide) ?_
      refine G_lv [] rfl ?_
      exact T_X3_step_62 F 1 l0 h5
    · refine g_iconst (v := 0) dX3_step_61 (by decide) ?_
      refine G_lv [] rfl ?_
      exact T_X3_step_62 F 0 l0 h5
  · refine g_iload_n 1 dX3_step_68 rfl ?_
    refine g_bipush (v := 15) dX3_step_69 (by decide) ?_
    refine g_icmp_ne (tgt := 103) dX3_step_71 (by decide) (fun c9 => ?_) (fun c9 => ?_)
    · refine g_aload_n 0 dX3_step_74 rfl ?_
      refine g_callVi (J := I_X3_pop) (t := 4) (As := []) (rest := []) mjv_X3_pop ml_RX3_81 ⟨rfl, by decide, by decide⟩ (by decide) rfl rfl (Nat.le_of_ble_eq_true rfl) dX3_step_75 (T_X3_pop F l0 h) (fun v10 h11 => ?_)
      refine g_istore_n (lv' := [(2, .int v10), (0, .ref l0), (1, .int l1)]) dX3_step_78 (by decide) rfl ?_
      refine g_aload_n 1 dX3_step_79 rfl ?_
      refine g_callVi (J := I_X3_pop) (t := 4) (As := []) (rest := []) mjv_X3_pop ml_RX3_81 ⟨rfl, by decide, by decide⟩ (by decide) rfl rfl (Nat.le_of_ble_eq_true rfl) dX3_step_80 (T_X3_pop F l0 h11) (fun v12 h13 => ?_)
      refine g_istore_n (lv' := [(3, .int v12), (2, .int v10), (0, .ref l0), (1, .int l1)]) dX3_step_83 (by decide) rfl ?_
      refine g_aload_n 2 dX3_step_84 rfl ?_
      refine g_aload_n 2 dX3_step_85 rfl ?_
      refine g_callVi (J := I_X3_pop) (t := 4) (As := []) (rest := [.ref l0]) mjv_X3_pop ml_RX3_81 ⟨rfl, by decide, by decide⟩ (by decide) rfl rfl (Nat.le_of_ble_eq_true rfl) dX3_step_86 (T_X3_pop F l0 h13) (fun v14 h15 => ?_)
      refine g_if_eq (tgt := 96) dX3_step_89 (by decide) (fun c16 => ?_) (fun c16 => ?_)
      · refine g_iload_n 1 dX3_step_96 rfl ?_
        refine G_lv [] rfl ?_
        exact T_X3_step_97 F v10 l0 h15
      · refine g_iload_n 0 dX3_step_92 rfl ?_
        refine g_goto (tgt := 97) dX3_step_93 (by decide) ?_
        refine G_lv [] rfl ?_
        exact T_X3_step_97 F v12 l0 h15
    · refine g_aload_n 0 dX3_step_103 rfl ?_
      refine g_callVi (J := I_X3_pop) (t := 4) (As := []) (rest := []) mjv_X3_pop ml_RX3_81 ⟨rfl, by decide, by decide⟩ (by decide) rfl rfl (Nat.le_of_ble_eq_true rfl) dX3_step_104 (T_X3_pop F l0 h) (fun v19 h20 => ?_)
      refine g_istore_n (lv' := [(2, .int v19), (0, .ref l0), (1, .int l1)]) dX3_step_107 (by decide) rfl ?_
      refine g_aload_n 1 dX3_step_108 rfl ?_
      refine g_iload_n 2 dX3_step_109 rfl ?_
      refine g_aload_n 1 dX3_step_110 rfl ?_
      refine g_callVi (J := I_X3_pop) (t := 4) (As := []) (rest := [.int l1, .ref l0]) mjv_X3_pop ml_RX3_81 ⟨rfl, by decide, by decide⟩ (by decide) rfl rfl (Nat.le_of_ble_eq_true rfl) dX3_step_111 (T_X3_pop F l0 h20) (fun v21 h22 => ?_)
      refine g_i2l dX3_step_114 ?_
      refine g_iload_n 0 dX3_step_115 rfl ?_
      refine g_i2l dX3_step_116 ?_
      refine g_callSl (J := I_X3_joined) (As := [.int l1, .long (v21.toInt64), .long (v19.toInt64)]) (rest := [.ref l0]) mjs_X3_joined ml_RX3_88 (by decide) rfl rfl (Nat.le_of_ble_eq_true rfl) dX3_step_117 (T_X3_joined F l1 (v21.toInt64) (v19.toInt64) h22) (fun v23 h24 => ?_)
      refine g_callSi (J := I_X3_kept) (As := [.long v23]) (rest := [.ref l0]) mjs_X3_kept ml_RX3_92 (by decide) rfl rfl (Nat.le_of_ble_eq_true rfl) dX3_step_120 (T_X3_kept F v23 h24) (fun v25 h26 => ?_)
      refine g_callVv (J := I_X3_push) (t := 4) (As := [.int v25]) (rest := []) mjv_X3_push ml_RX3_85 ⟨rfl, by decide, by decide⟩ (by decide) rfl rfl (Nat.le_of_ble_eq_true rfl) dX3_step_123 (T_X3_push F l0 v25 h26) (fun v27 h28 => ?_)
      exact g_vret rfl dX3_step_126
set_option maxRecDepth 100000 in
noncomputable def f_X3_step (F : Nat) (a0 : Nat) (a1 : Int32) (h : Hp) : Option (Unit × Hp) :=
  if a1 < 100 then (if a1 < 0 then (f_X3_step_43 F a0 a1 h) else (gR 4 h a0 6 fun v29 => al 20 h v29 fun v30 => if v30 ≤ a1 then (f_X3_step_43 F a0 a1 h) else (gR 4 h a0 6 fun v32 => aI 20 h v32 a1 fun v33 => cV 4 h a0 (f_X3_push F a0 v33 h) fun v34 h35 => some ((), h35)))) else (cV 4 h a0 (f_X3_push F a0 (a1 - 100) h) fun v36 h37 => some ((), h37))
set_option maxRecDepth 100000 in
set_option maxHeartbeats 4000000 in
theorem T_X3_step (F : Nat) (a0 : Nat) (a1 : Int32) (h : Hp) : GM rvV I_X3_step 3 [.ref a0, .int a1] h (f_X3_step F a0 a1 h) := by
  delta f_X3_step
  refine GM_of (lv := [(0, .ref a0), (1, .int a1)]) (by decide +kernel) (Nat.le_of_ble_eq_true rfl) rfl ?_
  refine g_iload_n 1 dX3_step_0 rfl ?_
  refine g_bipush (v := 100) dX3_step_1 (by decide) ?_
  refine g_icmp_lt (tgt := 17) dX3_step_3 (by decide) (fun c1 => ?_) (fun c1 => ?_)
  · refine g_iload_n 1 dX3_step_17 rfl ?_
    refine g_if_lt (tgt := 43) dX3_step_18 (by decide) (fun c2 => ?_) (fun c2 => ?_)
    · refine G_lv [0, 1] rfl ?_
      exact T_X3_step_43 F a0 a1 h
    · refine g_iload_n 1 dX3_step_21 rfl ?_
      refine g_aload_n 0 dX3_step_22 rfl ?_
      refine g_getR fl_RX3_15 rfl dX3_step_23 (fun v29 => ?_)
      refine g_alen (by decide) (by decide) dX3_step_26 (fun v30 => ?_)
      refine g_icmp_ge (tgt := 43) dX3_step_27 (by decide) (fun c31 => ?_) (fun c31 => ?_)
      · refine G_lv [0, 1] rfl ?_
        exact T_X3_step_43 F a0 a1 h
      · refine g_aload_n 0 dX3_step_30 rfl ?_
        refine g_aload_n 0 dX3_step_31 rfl ?_
        refine g_getR fl_RX3_15 rfl dX3_step_32 (fun v32 => ?_)
        refine g_iload_n 1 dX3_step_35 rfl ?_
        refine g_iald dX3_step_36 (fun v33 => ?_)
        refine g_callVv (J := I_X3_push) (t := 4) (As := [.int v33]) (rest := []) mjv_X3_push ml_RX3_85 ⟨rfl, by decide, by decide⟩ (by decide) rfl rfl (Nat.le_of_ble_eq_true rfl) dX3_step_37 (T_X3_push F a0 v33 h) (fun v34 h35 => ?_)
        refine g_goto (tgt := 126) dX3_step_40 (by decide) ?_
        exact g_vret rfl dX3_step_126
  · refine g_aload_n 0 dX3_step_6 rfl ?_
    refine g_iload_n 1 dX3_step_7 rfl ?_
    refine g_bipush (v := 100) dX3_step_8 (by decide) ?_
    refine g_isub dX3_step_10 ?_
    refine g_callVv (J := I_X3_push) (t := 4) (As := [.int (a1 - 100)]) (rest := []) mjv_X3_push ml_RX3_85 ⟨rfl, by decide, by decide⟩ (by decide) rfl rfl (Nat.le_of_ble_eq_true rfl) dX3_step_11 (T_X3_push F a0 (a1 - 100) h) (fun v36 h37 => ?_)
    refine g_goto (tgt := 126) dX3_step_14 (by decide) ?_
    exact g_vret rfl dX3_step_126
set_option maxRecDepth 100000 in
noncomputable def f_X3_value_37 (F : Nat) (l0 : Nat) (h : Hp) : Option (Int32 × Hp) :=
  cV 4 h l0 (f_X3_pop F l0 h) fun v3 h4 => some (v3, h4)
set_option maxRecDepth 100000 in
set_option maxHeartbeats 4000000 in
theorem T_X3_value_37 (F : Nat) (l0 : Nat) (h : Hp) : G rvI I_X3_value 4 37 [(0, .ref l0)] [] h (f_X3_value_37 F l0 h) := by
  delta f_X3_value_37
  refine g_aload_n 0 dX3_value_37 rfl ?_
  refine g_callVi (J := I_X3_pop) (t := 4) (As := []) (rest := []) mjv_X3_pop ml_RX3_81 ⟨rfl, by decide, by decide⟩ (by decide) rfl rfl (Nat.le_of_ble_eq_true rfl) dX3_value_38 (T_X3_pop F l0 h) (fun v3 h4 => ?_)
  exact g_iret rfl dX3_value_41
set_option maxRecDepth 100000 in
noncomputable def f_X3_value_7_b (F : Nat) (K7 : Nat → Int32 → Int32 → Hp → Option (Int32 × Hp)) (l0 : Nat) (l2 : Int32) (l3 : Int32) (h : Hp) : Option (Int32 × Hp) :=
  if l2 ≤ l3 then (f_X3_value_37 F l0 h) else (gR 4 h l0 0 fun v5 => al 20 h v5 fun v6 => if v6 ≤ l3 then (f_X3_value_37 F l0 h) else (gR 4 h l0 0 fun v8 => aI 20 h v8 l3 fun v9 => cV 4 h l0 (f_X3_step F l0 v9 h) fun v10 h11 => K7 l0 l2 (l3 + 1) h11))
set_option maxRecDepth 100000 in
set_option maxHeartbeats 4000000 in
theorem T_X3_value_7_b (F : Nat) {K7 : Nat → Int32 → Int32 → Hp → Option (Int32 × Hp)} (hK7 : ∀ (l0 : Nat) (l2 : Int32) (l3 : Int32) (h : Hp), G rvI I_X3_value 4 7 [(0, .ref l0), (2, .int l2), (3, .int l3)] [] h (K7 l0 l2 l3 h)) (l0 : Nat) (l2 : Int32) (l3 : Int32) (h : Hp) : G rvI I_X3_value 4 7 [(0, .ref l0), (2, .int l2), (3, .int l3)] [] h (f_X3_value_7_b F K7 l0 l2 l3 h) := by
  delta f_X3_value_7_b
  refine g_iload_n 2 dX3_value_7 rfl ?_
  refine g_iload_n 1 dX3_value_8 rfl ?_
  refine g_icmp_ge (tgt := 37) dX3_value_9 (by decide) (fun c2 => ?_) (fun c2 => ?_)
  · refine G_lv [0] rfl ?_
    exact T_X3_value_37 F l0 h
  · refine g_iload_n 2 dX3_value_12 rfl ?_
    refine g_aload_n 0 dX3_value_13 rfl ?_
    refine g_getR fl_RX3_9 rfl dX3_value_14 (fun v5 => ?_)
    refine g_alen (by decide) (by decide) dX3_value_17 (fun v6 => ?_)
    refine g_icmp_ge (tgt := 37) dX3_value_18 (by decide) (fun c7 => ?_) (fun c7 => ?_)
    · refine G_lv [0] rfl ?_
      exact T_X3_value_37 F l0 h
    · refine g_aload_n 0 dX3_value_21 rfl ?_
      refine g_aload_n 0 dX3_value_22 rfl ?_
      refine g_getR fl_RX3_9 rfl dX3_value_23 (fun v8 => ?_)
      refine g_iload_n 2 dX3_value_26 rfl ?_
      refine g_iald dX3_value_27 (fun v9 => ?_)
      refine g_callVv (J := I_X3_step) (t := 4) (As := [.int v9]) (rest := []) mjv_X3_step ml_RX3_77 ⟨rfl, by decide, by decide⟩ (by decide) rfl rfl (Nat.le_of_ble_eq_true rfl) dX3_value_28 (T_X3_step F l0 v9 h) (fun v10 h11 => ?_)
      refine g_iinc (v' := l3 + 1) (lv' := [(3, .int (l3 + 1)), (0, .ref l0), (2, .int l2)]) 2 dX3_value_31 rfl rfl (by decide) rfl ?_
      refine g_goto (tgt := 7) dX3_value_34 (by decide) ?_
      refine G_lv [1, 2, 0] rfl ?_
      exact hK7 l0 l2 (l3 + 1) h11
set_option maxRecDepth 100000 in
noncomputable def f_X3_value_7 (F : Nat) : Nat → Nat → Int32 → Int32 → Hp → Option (Int32 × Hp)
  | 0, _, _, _, _ => none
  | n + 1, l0, l2, l3, h => f_X3_value_7_b F (f_X3_value_7 F n) l0 l2 l3 h
set_option maxRecDepth 100000 in
set_option maxHeartbeats 4000000 in
theorem T_X3_value_7 (F : Nat) : ∀ (n : Nat) (l0 : Nat) (l2 : Int32) (l3 : Int32) (h : Hp), G rvI I_X3_value 4 7 [(0, .ref l0), (2, .int l2), (3, .int l3)] [] h (f_X3_value_7 F n l0 l2 l3 h) := by
  intro n
  induction n with
  | zero => intros; exact G_none
  | succ n ih => intro l0 l2 l3 h; exact T_X3_value_7_b F ih l0 l2 l3 h
set_option maxRecDepth 100000 in
noncomputable def f_X3_value (F : Nat) (a0 : Nat) (a1 : Int32) (a2 : Int32) (h : Hp) : Option (Int32 × Hp) :=
  pI 4 h a0 8 0 fun h1 => f_X3_value_7 F F a0 a2 a1 h1
set_option maxRecDepth 100000 in
set_option maxHeartbeats 4000000 in
theorem T_X3_value (F : Nat) (a0 : Nat) (a1 : Int32) (a2 : Int32) (h : Hp) : GM rvI I_X3_value 4 [.ref a0, .int a1, .int a2] h (f_X3_value F a0 a1 a2 h) := by
  delta f_X3_value
  refine GM_of (lv := [(0, .ref a0), (1, .int a1), (2, .int a2)]) (by decide +kernel) (Nat.le_of_ble_eq_true rfl) rfl ?_
  refine g_aload_n 0 dX3_value_0 rfl ?_
  refine g_iconst (v := 0) dX3_value_1 (by decide) ?_
  refine g_putI fl_RX3_74 (Or.inl rfl) dX3_value_2 (fun h1 => ?_)
  refine g_iload_n 1 dX3_value_5 rfl ?_
  refine g_istore_n (lv' := [(3, .int a1), (0, .ref a0), (1, .int a1), (2, .int a2)]) dX3_value_6 (by decide) rfl ?_
  refine G_lv [1, 3, 0] rfl ?_
  exact T_X3_value_7 F F a0 a2 a1 h1
set_option maxRecDepth 100000 in
noncomputable def f_X3_weighBonds_108 (F : Nat) (K45 : Nat → Nat → Int32 → Int32 → Int32 → Hp → Option (Unit × Hp)) (l0 : Nat) (l1 : Nat) (l2 : Int32) (l3 : Int32) (l4 : Int32) (h : Hp) : Option (Unit × Hp) :=
  gR 4 h l0 6 fun v7 => aI 20 h v7 0 fun v8 => gR 4 h l0 6 fun v9 => aI 20 h v9 3 fun v10 => gR 4 h l0 6 fun v11 => aI 20 h v11 4 fun v12 => bd (f_X2_caseOf F l4 v8 v10 v12 h) fun v13 h14 => gR 4 h14 l0 6 fun v15 => aI 20 h14 v15 1 fun v16 => cV 3 h14 l1 (f_X2_setComing F l1 (v13 + v16) l3 h14) fun v17 h18 => K45 l0 l1 l2 l3 (l4 + 1) h18
set_option maxRecDepth 100000 in
set_option maxHeartbeats 4000000 in
theorem T_X3_weighBonds_108 (F : Nat) {K45 : Nat → Nat → Int32 → Int32 → Int32 → Hp → Option (Unit × Hp)} (hK45 : ∀ (l0 : Nat) (l1 : Nat) (l2 : Int32) (l3 : Int32) (l4 : Int32) (h : Hp), G rvV I_X3_weighBonds 5 45 [(0, .ref l0), (1, .ref l1), (2, .int l2), (3, .int l3), (4, .int l4)] [] h (K45 l0 l1 l2 l3 l4 h)) (l0 : Nat) (l1 : Nat) (l2 : Int32) (l3 : Int32) (l4 : Int32) (h : Hp) : G rvV I_X3_weighBonds 5 108 [(0, .ref l0), (1, .ref l1), (2, .int l2), (3, .int l3), (4, .int l4)] [] h (f_X3_weighBonds_108 F K45 l0 l1 l2 l3 l4 h) := by
  delta f_X3_weighBonds_108
  refine g_iload 4 dX3_weighBonds_108 rfl ?_
  refine g_aload_n 0 dX3_weighBonds_110 rfl ?_
  refine g_getR fl_RX3_15 rfl dX3_weighBonds_111 (fun v7 => ?_)
  refine g_iconst (v := 0) dX3_weighBonds_114 (by decide) ?_
  refine g_iald dX3_weighBonds_115 (fun v8 => ?_)
  refine g_aload_n 0 dX3_weighBonds_116 rfl ?_
  refine g_getR fl_RX3_15 rfl dX3_weighBonds_117 (fun v9 => ?_)
  refine g_iconst (v := 3) dX3_weighBonds_120 (by decide) ?_
  refine g_iald dX3_weighBonds_121 (fun v10 => ?_)
  refine g_aload_n 0 dX3_weighBonds_122 rfl ?_
  refine g_getR fl_RX3_15 rfl dX3_weighBonds_123 (fun v11 => ?_)
  refine g_iconst (v := 4) dX3_weighBonds_126 (by decide) ?_
  refine g_iald dX3_weighBonds_127 (fun v12 => ?_)
  refine g_callSi (J := I_X2_caseOf) (As := [.int l4, .int v8, .int v10, .int v12]) (rest := []) mjs_X2_caseOf ml_RX3_66 (by decide) rfl rfl (Nat.le_of_ble_eq_true rfl) dX3_weighBonds_128 (T_X2_caseOf F l4 v8 v10 v12 h) (fun v13 h14 => ?_)
  refine g_istore (lv' := [(5, .int v13), (0, .ref l0), (1, .ref l1), (2, .int l2), (3, .int l3), (4, .int l4)]) dX3_weighBonds_131 (by decide) rfl ?_
  refine g_aload_n 2 dX3_weighBonds_133 rfl ?_
  refine g_iload 0 dX3_weighBonds_134 rfl ?_
  refine g_aload_n 1 dX3_weighBonds_136 rfl ?_
  refine g_getR fl_RX3_15 rfl dX3_weighBonds_137 (fun v15 => ?_)
  refine g_iconst (v := 1) dX3_weighBonds_140 (by decide) ?_
  refine g_iald dX3_weighBonds_141 (fun v16 => ?_)
  refine g_iadd dX3_weighBonds_142 ?_
  refine g_iload_n 4 dX3_weighBonds_143 rfl ?_
  refine g_callVv (J := I_X2_setComing) (t := 3) (As := [.int (v13 + v16), .int l3]) (rest := []) mjv_X2_setComing ml_RX3_70 ⟨rfl, by decide, by decide⟩ (by decide) rfl rfl (Nat.le_of_ble_eq_true rfl) dX3_weighBonds_144 (T_X2_setComing F l1 (v13 + v16) l3 h14) (fun v17 h18 => ?_)
  refine g_iinc (v' := l4 + 1) (lv' := [(4, .int (l4 + 1)), (5, .int v13), (0, .ref l0), (1, .ref l1), (2, .int l2), (3, .int l3)]) 5 dX3_weighBonds_147 rfl rfl (by decide) rfl ?_
  refine g_goto (tgt := 45) dX3_weighBonds_150 (by decide) ?_
  refine G_lv [2, 3, 4, 5, 0] rfl ?_
  exact hK45 l0 l1 l2 l3 (l4 + 1) h18
set_option maxRecDepth 100000 in
noncomputable def f_X3_weighBonds_79 (F : Nat) (K45 : Nat → Nat → Int32 → Int32 → Int32 → Hp → Option (Unit × Hp)) (l0 : Nat) (l1 : Nat) (l2 : Int32) (l4 : Int32) (h : Hp) : Option (Unit × Hp) :=
  gR 4 h l0 6 fun v23 => wI h v23 5 l4 fun h24 => gI 4 h24 l0 2 fun v25 => gI 4 h24 l0 3 fun v26 => cV 4 h24 l0 (f_X3_value F l0 v25 v26 h24) fun v27 h28 => bd (f_J9_min_7cf53 F 3 v27 h28) fun v29 h30 => bd (f_J9_max_7cf53 F 0 v29 h30) fun v31 h32 => f_X3_weighBonds_108 F K45 l0 l1 l2 v31 l4 h32
set_option maxRecDepth 100000 in
set_option maxHeartbeats 4000000 in
theorem T_X3_weighBonds_79 (F : Nat) {K45 : Nat → Nat → Int32 → Int32 → Int32 → Hp → Option (Unit × Hp)} (hK45 : ∀ (l0 : Nat) (l1 : Nat) (l2 : Int32) (l3 : Int32) (l4 : Int32) (h : Hp), G rvV I_X3_weighBonds 5 45 [(0, .ref l0), (1, .ref l1), (2, .int l2), (3, .int l3), (4, .int l4)] [] h (K45 l0 l1 l2 l3 l4 h)) (l0 : Nat) (l1 : Nat) (l2 : Int32) (l4 : Int32) (h : Hp) : G rvV I_X3_weighBonds 5 79 [(0, .ref l0), (1, .ref l1), (2, .int l2), (4, .int l4)] [] h (f_X3_weighBonds_79 F K45 l0 l1 l2 l4 h) := by
  delta f_X3_weighBonds_79
  refine g_aload_n 0 dX3_weighBonds_79 rfl ?_
  refine g_getR fl_RX3_15 rfl dX3_weighBonds_80 (fun v23 => ?_)
  refine g_iconst (v := 5) dX3_weighBonds_83 (by decide) ?_
  refine g_iload 3 dX3_weighBonds_84 rfl ?_
  refine g_iast dX3_weighBonds_86 (fun h24 => ?_)
  refine g_iconst (v := 0) dX3_weighBonds_87 (by decide) ?_
  refine g_iconst (v := 3) dX3_weighBonds_88 (by decide) ?_
  refine g_aload_n 0 dX3_weighBonds_89 rfl ?_
  refine g_aload_n 0 dX3_weighBonds_90 rfl ?_
  refine g_getI fl_RX3_25 rfl dX3_weighBonds_91 (fun v25 => ?_)
  refine g_aload_n 0 dX3_weighBonds_94 rfl ?_
  refine g_getI fl_RX3_28 rfl dX3_weighBonds_95 (fun v26 => ?_)
  refine g_callVi (J := I_X3_value) (t := 4) (As := [.int v25, .int v26]) (rest := [.int 3, .int 0]) mjv_X3_value ml_RX3_50 ⟨rfl, by decide, by decide⟩ (by decide) rfl rfl (Nat.le_of_ble_eq_true rfl) dX3_weighBonds_98 (T_X3_value F l0 v25 v26 h24) (fun v27 h28 => ?_)
  refine g_callSi (J := I_J9_min_7cf53) (As := [.int 3, .int v27]) (rest := [.int 0]) mjs_J9_min_7cf53 ml_RX3_58 (by decide) rfl rfl (Nat.le_of_ble_eq_true rfl) dX3_weighBonds_101 (T_J9_min_7cf53 F 3 v27 h28) (fun v29 h30 => ?_)
  refine g_callSi (J := I_J9_max_7cf53) (As := [.int 0, .int v29]) (rest := []) mjs_J9_max_7cf53 ml_RX3_63 (by decide) rfl rfl (Nat.le_of_ble_eq_true rfl) dX3_weighBonds_104 (T_J9_max_7cf53 F 0 v29 h30) (fun v31 h32 => ?_)
  refine g_istore_n (lv' := [(3, .int v31), (0, .ref l0), (1, .ref l1), (2, .int l2), (4, .int l4)]) dX3_weighBonds_107 (by decide) rfl ?_
  refine G_lv [1, 2, 3, 0, 4] rfl ?_
  exact T_X3_weighBonds_108 F hK45 l0 l1 l2 v31 l4 h32
set_option maxRecDepth 100000 in
noncomputable def f_X3_weighBonds_45_b (F : Nat) (K45 : Nat → Nat → Int32 → Int32 → Int32 → Hp → Option (Unit × Hp)) (l0 : Nat) (l1 : Nat) (l2 : Int32) (l3 : Int32) (l4 : Int32) (h : Hp) : Option (Unit × Hp) :=
  if 10 ≤ l4 then (some ((), h)) else (if l2 = 0 then (f_X3_weighBonds_108 F K45 l0 l1 l2 l3 l4 h) else (gI 4 h l0 3 fun v19 => gI 4 h l0 2 fun v20 => if v19 ≤ v20 then (f_X3_weighBonds_108 F K45 l0 l1 l2 l3 l4 h) else (if l4 = 0 then (f_X3_weighBonds_79 F K45 l0 l1 l2 l4 h) else (cV 4 h l0 (f_X3_namesBond F l0 h) fun v33 h34 => if v33 = 0 then (f_X3_weighBonds_108 F K45 l0 l1 l2 l3 l4 h34) else (f_X3_weighBonds_79 F K45 l0 l1 l2 l4 h34)))))
set_option maxRecDepth 100000 in
set_option maxHeartbeats 4000000 in
theorem T_X3_weighBonds_45_b (F : Nat) {K45 : Nat → Nat → Int32 → Int32 → Int32 → Hp → Option (Unit × Hp)} (hK45 : ∀ (l0 : Nat) (l1 : Nat) (l2 : Int32) (l3 : Int32) (l4 : Int32) (h : Hp), G rvV I_X3_weighBonds 5 45 [(0, .ref l0), (1, .ref l1), (2, .int l2), (3, .int l3), (4, .int l4)] [] h (K45 l0 l1 l2 l3 l4 h)) (l0 : Nat) (l1 : Nat) (l2 : Int32) (l3 : Int32) (l4 : Int32) (h : Hp) : G rvV I_X3_weighBonds 5 45 [(0, .ref l0), (1, .ref l1), (2, .int l2), (3, .int l3), (4, .int l4)] [] h (f_X3_weighBonds_45_b F K45 l0 l1 l2 l3 l4 h) := by
  delta f_X3_weighBonds_45_b
  refine g_iload 4 dX3_weighBonds_45 rfl ?_
  refine g_bipush (v := 10) dX3_weighBonds_47 (by decide) ?_
  refine g_icmp_ge (tgt := 153) dX3_weighBonds_49 (by decide) (fun c5 => ?_) (fun c5 => ?_)
  · exact g_vret rfl dX3_weighBonds_153
  · refine g_iload_n 2 dX3_weighBonds_52 rfl ?_
    refine g_if_eq (tgt := 108) dX3_weighBonds_53 (by decide) (fun c6 => ?_) (fun c6 => ?_)
    · refine G_lv [0, 1, 2, 3, 4] rfl ?_
      exact T_X3_weighBonds_108 F hK45 l0 l1 l2 l3 l4 h
    · refine g_aload_n 0 dX3_weighBonds_56 rfl ?_
      refine g_getI fl_RX3_28 rfl dX3_weighBonds_57 (fun v19 => ?_)
      refine g_aload_n 0 dX3_weighBonds_60 rfl ?_
      refine g_getI fl_RX3_25 rfl dX3_weighBonds_61 (fun v20 => ?_)
      refine g_icmp_le (tgt := 108) dX3_weighBonds_64 (by decide) (fun c21 => ?_) (fun c21 => ?_)
      · refine G_lv [0, 1, 2, 3, 4] rfl ?_
        exact T_X3_weighBonds_108 F hK45 l0 l1 l2 l3 l4 h
      · refine g_iload 4 dX3_weighBonds_67 rfl ?_
        refine g_if_eq (tgt := 79) dX3_weighBonds_69 (by decide) (fun c22 => ?_) (fun c22 => ?_)
        · refine G_lv [0, 1, 2, 4] rfl ?_
          exact T_X3_weighBonds_79 F hK45 l0 l1 l2 l4 h
        · refine g_aload_n 0 dX3_weighBonds_72 rfl ?_
          refine g_callVi (J := I_X3_namesBond) (t := 4) (As := []) (rest := []) mjv_X3_namesBond ml_RX3_54 ⟨rfl, by decide, by decide⟩ (by decide) rfl rfl (Nat.le_of_ble_eq_true rfl) dX3_weighBonds_73 (T_X3_namesBond F l0 h) (fun v33 h34 => ?_)
          refine g_if_eq (tgt := 108) dX3_weighBonds_76 (by decide) (fun c35 => ?_) (fun c35 => ?_)
          · refine G_lv [0, 1, 2, 3, 4] rfl ?_
            exact T_X3_weighBonds_108 F hK45 l0 l1 l2 l3 l4 h34
          · refine G_lv [0, 1, 2, 4] rfl ?_
            exact T_X3_weighBonds_79 F hK45 l0 l1 l2 l4 h34
set_option maxRecDepth 100000 in
noncomputable def f_X3_weighBonds_45 (F : Nat) : Nat → Nat → Nat → Int32 → Int32 → Int32 → Hp → Option (Unit × Hp)
  | 0, _, _, _, _, _, _ => none
  | n + 1, l0, l1, l2, l3, l4, h => f_X3_weighBonds_45_b F (f_X3_weighBonds_45 F n) l0 l1 l2 l3 l4 h
set_option maxRecDepth 100000 in
set_option maxHeartbeats 4000000 in
theorem T_X3_weighBonds_45 (F : Nat) : ∀ (n : Nat) (l0 : Nat) (l1 : Nat) (l2 : Int32) (l3 : Int32) (l4 : Int32) (h : Hp), G rvV I_X3_weighBonds 5 45 [(0, .ref l0), (1, .ref l1), (2, .int l2), (3, .int l3), (4, .int l4)] [] h (f_X3_weighBonds_45 F n l0 l1 l2 l3 l4 h) := by
  intro n
  induction n with
  | zero => intros; exact G_none
  | succ n ih => intro l0 l1 l2 l3 l4 h; exact T_X3_weighBonds_45_b F ih l0 l1 l2 l3 l4 h
set_option maxRecDepth 100000 in
noncomputable def f_X3_weighBonds_41 (F : Nat) (l0 : Nat) (l1 : Nat) (l2 : Int32) (s0 : Int32) (h : Hp) : Option (Unit × Hp) :=
  f_X3_weighBonds_45 F F l0 l1 l2 s0 0 h
set_option maxRecDepth 100000 in
set_option maxHeartbeats 4000000 in
theorem T_X3_weighBonds_41 (F : Nat) (l0 : Nat) (l1 : Nat) (l2 : Int32) (s0 : Int32) (h : Hp) : G rvV I_X3_weighBonds 5 41 [(0, .ref l0), (1, .ref l1), (2, .int l2)] [.int s0] h (f_X3_weighBonds_41 F l0 l1 l2 s0 h) := by
  delta f_X3_weighBonds_41
  refine g_istore_n (lv' := [(3, .int s0), (0, .ref l0), (1, .ref l1), (2, .int l2)]) dX3_weighBonds_41 (by decide) rfl ?_
  refine g_iconst (v := 0) dX3_weighBonds_42 (by decide) ?_
  refine g_istore (lv' := [(4, .int 0), (3, .int s0), (0, .ref l0), (1, .ref l1), (2, .int l2)]) dX3_weighBonds_43 (by decide) rfl ?_
  refine G_lv [2, 3, 4, 1, 0] rfl ?_
  exact T_X3_weighBonds_45 F F l0 l1 l2 s0 0 h
set_option maxRecDepth 100000 in
noncomputable def f_X3_weighBonds_31 (F : Nat) (l0 : Nat) (l1 : Nat) (s0 : Int32) (h : Hp) : Option (Unit × Hp) :=
  if s0 = 0 then (f_X3_weighBonds_41 F l0 l1 s0 (-1) h) else (f_X3_weighBonds_41 F l0 l1 s0 2 h)
set_option maxRecDepth 100000 in
set_option maxHeartbeats 4000000 in
theorem T_X3_weighBonds_31 (F : Nat) (l0 : Nat) (l1 : Nat) (s0 : Int32) (h : Hp) : G rvV I_X3_weighBonds 5 31 [(0, .ref l0), (1, .ref l1)] [.int s0] h (f_X3_weighBonds_31 F l0 l1 s0 h) := by
  delta f_X3_weighBonds_31
  refine g_istore_n (lv' := [(2, .int s0), (0, .ref l0), (1, .ref l1)]) dX3_weighBonds_31 (by decide) rfl ?_
  refine g_iload_n 0 dX3_weighBonds_32 rfl ?_
  refine g_if_eq (tgt := 40) dX3_weighBonds_33 (by decide) (fun c4 => ?_) (fun c4 => ?_)
  · refine g_iconst (v := (-1)) dX3_weighBonds_40 (by decide) ?_
    refine G_lv [1, 2, 0] rfl ?_
    exact T_X3_weighBonds_41 F l0 l1 s0 (-1) h
  · refine g_iconst (v := 2) dX3_weighBonds_36 (by decide) ?_
    refine g_goto (tgt := 41) dX3_weighBonds_37 (by decide) ?_
    refine G_lv [1, 2, 0] rfl ?_
    exact T_X3_weighBonds_41 F l0 l1 s0 2 h
set_option maxRecDepth 100000 in
noncomputable def f_X3_weighBonds_26 (F : Nat) (l0 : Nat) (l1 : Nat) (h : Hp) : Option (Unit × Hp) :=
  f_X3_weighBonds_31 F l0 l1 1 h
set_option maxRecDepth 100000 in
set_option maxHeartbeats 4000000 in
theorem T_X3_weighBonds_26 (F : Nat) (l0 : Nat) (l1 : Nat) (h : Hp) : G rvV I_X3_weighBonds 5 26 [(0, .ref l0), (1, .ref l1)] [] h (f_X3_weighBonds_26 F l0 l1 h) := by
  delta f_X3_weighBonds_26
  refine g_iconst (v := 1) dX3_weighBonds_26 (by decide) ?_
  refine g_goto (tgt := 31) dX3_weighBonds_27 (by decide) ?_
  refine G_lv [0, 1] rfl ?_
  exact T_X3_weighBonds_31 F l0 l1 1 h
set_option maxRecDepth 100000 in
noncomputable def f_X3_weighBonds (F : Nat) (a0 : Nat) (a1 : Nat) (h : Hp) : Option (Unit × Hp) :=
  gI 4 h a0 5 fun v1 => gI 4 h a0 4 fun v2 => if v1 = v2 then (f_X3_weighBonds_26 F a0 a1 h) else (gI 4 h a0 4 fun v36 => gI 4 h a0 5 fun v37 => cV 4 h a0 (f_X3_value F a0 v36 v37 h) fun v38 h39 => if v38 = 0 then (f_X3_weighBonds_31 F a0 a1 0 h39) else (f_X3_weighBonds_26 F a0 a1 h39))
set_option maxRecDepth 100000 in
set_option maxHeartbeats 4000000 in
theorem T_X3_weighBonds (F : Nat) (a0 : Nat) (a1 : Nat) (h : Hp) : GM rvV I_X3_weighBonds 5 [.ref a0, .ref a1] h (f_X3_weighBonds F a0 a1 h) := by
  delta f_X3_weighBonds
  refine GM_of (lv := [(0, .ref a0), (1, .ref a1)]) (by decide +kernel) (Nat.le_of_ble_eq_true rfl) rfl ?_
  refine g_aload_n 0 dX3_weighBonds_0 rfl ?_
  refine g_getI fl_RX3_34 rfl dX3_weighBonds_1 (fun v1 => ?_)
  refine g_aload_n 0 dX3_weighBonds_4 rfl ?_
  refine g_getI fl_RX3_31 rfl dX3_weighBonds_5 (fun v2 => ?_)
  refine g_icmp_eq (tgt := 26) dX3_weighBonds_8 (by decide) (fun c3 => ?_) (fun c3 => ?_)
  · refine G_lv [0, 1] rfl ?_
    exact T_X3_weighBonds_26 F a0 a1 h
  · refine g_aload_n 0 dX3_weighBonds_11 rfl ?_
    refine g_aload_n 0 dX3_weighBonds_12 rfl ?_
    refine g_getI fl_RX3_31 rfl dX3_weighBonds_13 (fun v36 => ?_)
    refine g_aload_n 0 dX3_weighBonds_16 rfl ?_
    refine g_getI fl_RX3_34 rfl dX3_weighBonds_17 (fun v37 => ?_)
    refine g_callVi (J := I_X3_value) (t := 4) (As := [.int v36, .int v37]) (rest := []) mjv_X3_value ml_RX3_50 ⟨rfl, by decide, by decide⟩ (by decide) rfl rfl (Nat.le_of_ble_eq_true rfl) dX3_weighBonds_20 (T_X3_value F a0 v36 v37 h) (fun v38 h39 => ?_)
    refine g_if_eq (tgt := 30) dX3_weighBonds_23 (by decide) (fun c40 => ?_) (fun c40 => ?_)
    · refine g_iconst (v := 0) dX3_weighBonds_30 (by decide) ?_
      refine G_lv [0, 1] rfl ?_
      exact T_X3_weighBonds_31 F a0 a1 0 h39
    · refine G_lv [0, 1] rfl ?_
      exact T_X3_weighBonds_26 F a0 a1 h39
