/-! L2, by program (wip/whole/gen/gen.py) -/
set_option maxRecDepth 100000 in
noncomputable def f_X10_go_17 (F : Nat) (Rc : Nat → Nat → Int32 → Int32 → Int32 → Hp → Option (Unit × Hp)) (l0 : Nat) (l1 : Int32) (l3 : Int32) (h : Hp) : Option (Unit × Hp) :=
  cV 11 h l0 (f_X10_weigh F l0 l1 l3 h) fun v4 h5 => some ((), h5)
set_option maxRecDepth 100000 in
set_option maxHeartbeats 4000000 in
theorem T_X10_go_17 (F : Nat) {d dR : Nat} (hd1 : 4 ≤ d) (hdR : dR + 1 ≤ d) {Rc : Nat → Nat → Int32 → Int32 → Int32 → Hp → Option (Unit × Hp)} (hR : ∀ (w : Nat) (a0 : Nat) (a1 : Int32) (a2 : Int32) (a3 : Int32) (h : Hp), GM rvV (I_grp_X10_go w) dR [.ref a0, .int a1, .int a2, .int a3] h (Rc w a0 a1 a2 a3 h)) (l0 : Nat) (l1 : Int32) (l3 : Int32) (h : Hp) : G rvV I_X10_go d 17 [(0, .ref l0), (1, .int l1), (3, .int l3)] [] h (f_X10_go_17 F Rc l0 l1 l3 h) := by
  delta f_X10_go_17
  refine g_aload_n 0 dX10_go_17 rfl ?_
  refine g_iload_n 1 dX10_go_18 rfl ?_
  refine g_iload_n 2 dX10_go_19 rfl ?_
  refine g_callVv (J := I_X10_weigh) (t := 11) (As := [.int l1, .int l3]) (rest := []) mjv_X10_weigh ml_RX10_57 ⟨rfl, by decide, by decide⟩ (Nat.le_trans (by decide) hd1) rfl rfl (Nat.le_of_ble_eq_true rfl) dX10_go_20 (T_X10_weigh F l0 l1 l3 h) (fun v4 h5 => ?_)
  exact g_vret rfl dX10_go_23
set_option maxRecDepth 100000 in
noncomputable def f_X10_go_81 (F : Nat) (Rc : Nat → Nat → Int32 → Int32 → Int32 → Hp → Option (Unit × Hp)) (K27 : Nat → Int32 → Int32 → Int32 → Int32 → Hp → Option (Unit × Hp)) (l0 : Nat) (l1 : Int32) (l2 : Int32) (l3 : Int32) (l4 : Int32) (h : Hp) : Option (Unit × Hp) :=
  K27 l0 l1 l2 l3 (l4 + 1) h
set_option maxRecDepth 100000 in
set_option maxHeartbeats 4000000 in
theorem T_X10_go_81 (F : Nat) {d dR : Nat} (hd1 : 4 ≤ d) (hdR : dR + 1 ≤ d) {Rc : Nat → Nat → Int32 → Int32 → Int32 → Hp → Option (Unit × Hp)} (hR : ∀ (w : Nat) (a0 : Nat) (a1 : Int32) (a2 : Int32) (a3 : Int32) (h : Hp), GM rvV (I_grp_X10_go w) dR [.ref a0, .int a1, .int a2, .int a3] h (Rc w a0 a1 a2 a3 h)) {K27 : Nat → Int32 → Int32 → Int32 → Int32 → Hp → Option (Unit × Hp)} (hK27 : ∀ (l0 : Nat) (l1 : Int32) (l2 : Int32) (l3 : Int32) (l4 : Int32) (h : Hp), G rvV I_X10_go d 27 [(0, .ref l0), (1, .int l1), (2, .int l2), (3, .int l3), (4, .int l4)] [] h (K27 l0 l1 l2 l3 l4 h)) (l0 : Nat) (l1 : Int32) (l2 : Int32) (l3 : Int32) (l4 : Int32) (h : Hp) : G rvV I_X10_go d 81 [(0, .ref l0), (1, .int l1), (2, .int l2), (3, .int l3), (4, .int l4)] [] h (f_X10_go_81 F Rc K27 l0 l1 l2 l3 l4 h) := by
  delta f_X10_go_81
  refine g_iinc (v' := l4 + 1) (lv' := [(4, .int (l4 + 1)), (0, .ref l0), (1, .int l1), (2, .int l2), (3, .int l3)]) 4 dX10_go_81 rfl rfl (by decide) rfl ?_
  refine g_goto (tgt := 27) dX10_go_84 (by decide) ?_
  refine G_lv [1, 2, 3, 4, 0] rfl ?_
  exact hK27 l0 l1 l2 l3 (l4 + 1) h
set_option maxRecDepth 100000 in
noncomputable def f_X10_go_27_b (F : Nat) (Rc : Nat → Nat → Int32 → Int32 → Int32 → Hp → Option (Unit × Hp)) (K27 : Nat → Int32 → Int32 → Int32 → Int32 → Hp → Option (Unit × Hp)) (l0 : Nat) (l1 : Int32) (l2 : Int32) (l3 : Int32) (l4 : Int32) (h : Hp) : Option (Unit × Hp) :=
  if 2 ≤ l4 then (some ((), h)) else (gR 11 h l0 4 fun v8 => gI 11 h l0 5 fun v9 => gR 11 h l0 6 fun v10 => cV 10 h v10 (f_X9_at F v10 l2 h) fun v11 h12 => cV 3 h12 v8 (f_X2_afterTelling F v8 l1 v9 l4 ((v11 : Int64).toInt32) h12) fun v13 h14 => if v13 < 0 then (f_X10_go_81 F Rc K27 l0 l1 l2 l3 l4 h14) else (bd (f_X2_afterDay F v13 h14) fun v16 h17 => cV 11 h17 l0 (Rc 0 l0 v16 (l2 + 1) (l3 ||| (l4 <<< (l2 &&& 31))) h17) fun v18 h19 => f_X10_go_81 F Rc K27 l0 l1 l2 l3 l4 h19))
set_option maxRecDepth 100000 in
set_option maxHeartbeats 4000000 in
theorem T_X10_go_27_b (F : Nat) {d dR : Nat} (hd1 : 4 ≤ d) (hdR : dR + 1 ≤ d) {Rc : Nat → Nat → Int32 → Int32 → Int32 → Hp → Option (Unit × Hp)} (hR : ∀ (w : Nat) (a0 : Nat) (a1 : Int32) (a2 : Int32) (a3 : Int32) (h : Hp), GM rvV (I_grp_X10_go w) dR [.ref a0, .int a1, .int a2, .int a3] h (Rc w a0 a1 a2 a3 h)) {K27 : Nat → Int32 → Int32 → Int32 → Int32 → Hp → Option (Unit × Hp)} (hK27 : ∀ (l0 : Nat) (l1 : Int32) (l2 : Int32) (l3 : Int32) (l4 : Int32) (h : Hp), G rvV I_X10_go d 27 [(0, .ref l0), (1, .int l1), (2, .int l2), (3, .int l3), (4, .int l4)] [] h (K27 l0 l1 l2 l3 l4 h)) (l0 : Nat) (l1 : Int32) (l2 : Int32) (l3 : Int32) (l4 : Int32) (h : Hp) : G rvV I_X10_go d 27 [(0, .ref l0), (1, .int l1), (2, .int l2), (3, .int l3), (4, .int l4)] [] h (f_X10_go_27_b F Rc K27 l0 l1 l2 l3 l4 h) := by
  delta f_X10_go_27_b
  refine g_iload 4 dX10_go_27 rfl ?_
  refine g_iconst (v := 2) dX10_go_29 (by decide) ?_
  refine g_icmp_ge (tgt := 87) dX10_go_30 (by decide) (fun c7 => ?_) (fun c7 => ?_)
  · exact g_vret rfl dX10_go_87
  · refine g_aload_n 0 dX10_go_33 rfl ?_
    refine g_getR fl_RX10_18 rfl dX10_go_34 (fun v8 => ?_)
    refine g_iload_n 1 dX10_go_37 rfl ?_
    refine g_aload_n 0 dX10_go_38 rfl ?_
    refine g_getI fl_RX10_28 rfl dX10_go_39 (fun v9 => ?_)
    refine g_iload 4 dX10_go_42 rfl ?_
    refine g_aload_n 0 dX10_go_44 rfl ?_
    refine g_getR fl_RX10_12 rfl dX10_go_45 (fun v10 => ?_)
    refine g_iload_n 2 dX10_go_48 rfl ?_
    refine g_callVl (J := I_X9_at) (t := 10) (As := [.int l2]) (rest := [.int l4, .int v9, .int l1, .ref v8]) mjv_X9_at ml_RX10_61 ⟨rfl, by decide, by decide⟩ (Nat.le_trans (by decide) hd1) rfl rfl (Nat.le_of_ble_eq_true rfl) dX10_go_49 (T_X9_at F v10 l2 h) (fun v11 h12 => ?_)
    refine g_l2i dX10_go_52 ?_
    refine g_callVi (J := I_X2_afterTelling) (t := 3) (As := [.int l1, .int v9, .int l4, .int ((v11 : Int64).toInt32)]) (rest := []) mjv_X2_afterTelling ml_RX10_65 ⟨rfl, by decide, by decide⟩ (Nat.le_trans (by decide) hd1) rfl rfl (Nat.le_of_ble_eq_true rfl) dX10_go_53 (T_X2_afterTelling F v8 l1 v9 l4 ((v11 : Int64).toInt32) h12) (fun v13 h14 => ?_)
    refine g_istore (lv' := [(5, .int v13), (0, .ref l0), (1, .int l1), (2, .int l2), (3, .int l3), (4, .int l4)]) dX10_go_56 (by decide) rfl ?_
    refine g_iload 0 dX10_go_58 rfl ?_
    refine g_if_lt (tgt := 81) dX10_go_60 (by decide) (fun c15 => ?_) (fun c15 => ?_)
    · refine G_lv [1, 2, 3, 4, 5] rfl ?_
      exact T_X10_go_81 F hd1 hdR hR hK27 l0 l1 l2 l3 l4 h14
    · refine g_aload_n 1 dX10_go_63 rfl ?_
      refine g_iload 0 dX10_go_64 rfl ?_
      refine g_callSi (J := I_X2_afterDay) (As := [.int v13]) (rest := [.ref l0]) mjs_X2_afterDay ml_RX10_71 (Nat.le_trans (by decide) hd1) rfl rfl (Nat.le_of_ble_eq_true rfl) dX10_go_66 (T_X2_afterDay F v13 h14) (fun v16 h17 => ?_)
      refine g_iload_n 3 dX10_go_69 rfl ?_
      refine g_iconst (v := 1) dX10_go_70 (by decide) ?_
      refine g_iadd dX10_go_71 ?_
      refine g_iload_n 4 dX10_go_72 rfl ?_
      refine g_iload 5 dX10_go_73 rfl ?_
      refine g_iload_n 3 dX10_go_75 rfl ?_
      refine g_ishl dX10_go_76 ?_
      refine g_ior dX10_go_77 ?_
      refine g_callVv (J := I_X10_go) (t := 11) (As := [.int v16, .int (l2 + 1), .int (l3 ||| (l4 <<< (l2 &&& 31)))]) (rest := []) mjv_X10_go ml_RX10_50 ⟨rfl, by decide, by decide⟩ hdR rfl rfl (Nat.le_of_ble_eq_true rfl) dX10_go_78 (hR 0 l0 v16 (l2 + 1) (l3 ||| (l4 <<< (l2 &&& 31))) h17) (fun v18 h19 => ?_)
      refine G_lv [1, 2, 3, 4, 5] rfl ?_
      exact T_X10_go_81 F hd1 hdR hR hK27 l0 l1 l2 l3 l4 h19
set_option maxRecDepth 100000 in
noncomputable def f_X10_go_27 (F : Nat) (Rc : Nat → Nat → Int32 → Int32 → Int32 → Hp → Option (Unit × Hp)) : Nat → Nat → Int32 → Int32 → Int32 → Int32 → Hp → Option (Unit × Hp)
  | 0, _, _, _, _, _, _ => none
  | n + 1, l0, l1, l2, l3, l4, h => f_X10_go_27_b F Rc (f_X10_go_27 F Rc n) l0 l1 l2 l3 l4 h
set_option maxRecDepth 100000 in
set_option maxHeartbeats 4000000 in
theorem T_X10_go_27 (F : Nat) {d dR : Nat} (hd1 : 4 ≤ d) (hdR : dR + 1 ≤ d) {Rc : Nat → Nat → Int32 → Int32 → Int32 → Hp → Option (Unit × Hp)} (hR : ∀ (w : Nat) (a0 : Nat) (a1 : Int32) (a2 : Int32) (a3 : Int32) (h : Hp), GM rvV (I_grp_X10_go w) dR [.ref a0, .int a1, .int a2, .int a3] h (Rc w a0 a1 a2 a3 h)) : ∀ (n : Nat) (l0 : Nat) (l1 : Int32) (l2 : Int32) (l3 : Int32) (l4 : Int32) (h : Hp), G rvV I_X10_go d 27 [(0, .ref l0), (1, .int l1), (2, .int l2), (3, .int l3), (4, .int l4)] [] h (f_X10_go_27 F Rc n l0 l1 l2 l3 l4 h) := by
  intro n
  induction n with
  | zero => intros; exact G_none
  | succ n ih => intro l0 l1 l2 l3 l4 h; exact T_X10_go_27_b F hd1 hdR hR ih l0 l1 l2 l3 l4 h
set_option maxRecDepth 100000 in
noncomputable def f_X10_go_w (F : Nat) (Rc : Nat → Nat → Int32 → Int32 → Int32 → Hp → Option (Unit × Hp)) (a0 : Nat) (a1 : Int32) (a2 : Int32) (a3 : Int32) (h : Hp) : Option (Unit × Hp) :=
  gR 11 h a0 6 fun v1 => gI 10 h v1 0 fun v2 => if v2 ≤ a2 then (f_X10_go_17 F Rc a0 a1 a3 h) else (if a2 < 10 then (f_X10_go_27 F Rc F a0 a1 a2 a3 0 h) else (f_X10_go_17 F Rc a0 a1 a3 h))
set_option maxRecDepth 100000 in
set_option maxHeartbeats 4000000 in
theorem T_X10_go_w (F : Nat) {d dR : Nat} (hd1 : 4 ≤ d) (hdR : dR + 1 ≤ d) {Rc : Nat → Nat → Int32 → Int32 → Int32 → Hp → Option (Unit × Hp)} (hR : ∀ (w : Nat) (a0 : Nat) (a1 : Int32) (a2 : Int32) (a3 : Int32) (h : Hp), GM rvV (I_grp_X10_go w) dR [.ref a0, .int a1, .int a2, .int a3] h (Rc w a0 a1 a2 a3 h)) (a0 : Nat) (a1 : Int32) (a2 : Int32) (a3 : Int32) (h : Hp) : GM rvV I_X10_go d [.ref a0, .int a1, .int a2, .int a3] h (f_X10_go_w F Rc a0 a1 a2 a3 h) := by
  delta f_X10_go_w
  refine GM_of (lv := [(0, .ref a0), (1, .int a1), (2, .int a2), (3, .int a3)]) (by decide +kernel) (Nat.le_of_ble_eq_true rfl) rfl ?_
  refine g_iload_n 2 dX10_go_0 rfl ?_
  refine g_aload_n 0 dX10_go_1 rfl ?_
  refine g_getR fl_RX10_12 rfl dX10_go_2 (fun v1 => ?_)
  refine g_getI fl_RX10_54 rfl dX10_go_5 (fun v2 => ?_)
  refine g_icmp_ge (tgt := 17) dX10_go_8 (by decide) (fun c3 => ?_) (fun c3 => ?_)
  · refine G_lv [0, 1, 3] rfl ?_
    exact T_X10_go_17 F hd1 hdR hR a0 a1 a3 h
  · refine g_iload_n 2 dX10_go_11 rfl ?_
    refine g_bipush (v := 10) dX10_go_12 (by decide) ?_
    refine g_icmp_lt (tgt := 24) dX10_go_14 (by decide) (fun c6 => ?_) (fun c6 => ?_)
    · refine g_iconst (v := 0) dX10_go_24 (by decide) ?_
      refine g_istore (lv' := [(4, .int 0), (0, .ref a0), (1, .int a1), (2, .int a2), (3, .int a3)]) dX10_go_25 (by decide) rfl ?_
      refine G_lv [1, 2, 3, 4, 0] rfl ?_
      exact T_X10_go_27 F hd1 hdR hR F a0 a1 a2 a3 0 h
    · refine G_lv [0, 1, 3] rfl ?_
      exact T_X10_go_17 F hd1 hdR hR a0 a1 a3 h
set_option maxRecDepth 100000 in
noncomputable def f_grp_X10_go (F : Nat) : Nat → Nat → Nat → Int32 → Int32 → Int32 → Hp → Option (Unit × Hp)
  | 0, _, _, _, _, _, _ => none
  | D + 1, w, a0, a1, a2, a3, h => f_X10_go_w F (f_grp_X10_go F D) a0 a1 a2 a3 h
set_option maxRecDepth 100000 in
set_option maxHeartbeats 4000000 in
theorem T_grp_X10_go (F : Nat) : ∀ (D w : Nat) (a0 : Nat) (a1 : Int32) (a2 : Int32) (a3 : Int32) (h : Hp), GM rvV (I_grp_X10_go w) (4 + D) [.ref a0, .int a1, .int a2, .int a3] h (f_grp_X10_go F D w a0 a1 a2 a3 h) := by
  intro D
  induction D with
  | zero => intros; exact fun x hx => by cases hx
  | succ D ih =>
    intro w a0 a1 a2 a3 h
    show GM _ (I_grp_X10_go w) _ _ _ (f_X10_go_w F (f_grp_X10_go F D) a0 a1 a2 a3 h)
    unfold I_grp_X10_go
    exact T_X10_go_w F (by omega) (by omega) ih a0 a1 a2 a3 h
set_option maxRecDepth 100000 in
noncomputable def f_X10_go (F : Nat) (a0 : Nat) (a1 : Int32) (a2 : Int32) (a3 : Int32) (h : Hp) : Option (Unit × Hp) := f_grp_X10_go F 16 0 a0 a1 a2 a3 h
set_option maxRecDepth 100000 in
set_option maxHeartbeats 4000000 in
theorem T_X10_go (F : Nat) (a0 : Nat) (a1 : Int32) (a2 : Int32) (a3 : Int32) (h : Hp) : GM rvV I_X10_go 20 [.ref a0, .int a1, .int a2, .int a3] h (f_X10_go F a0 a1 a2 a3 h) := T_grp_X10_go F 16 0 a0 a1 a2 a3 h
set_option maxRecDepth 100000 in
noncomputable def f_X10_ask (F : Nat) (a0 : Nat) (a1 : Nat) (a2 : Nat) (a3 : Nat) (a4 : Int32) (a5 : Int32) (h : Hp) : Option (Unit × Hp) :=
  pR 11 h a0 4 a1 fun h1 => gI 9 h1 a2 1 fun v2 => pI 11 h1 a0 5 v2 fun h3 => pR 11 h3 a0 6 a3 fun h4 => pI 11 h4 a0 7 a4 fun h5 => pI 11 h5 a0 8 a5 fun h6 => pI 11 h6 a0 0 0 fun h7 => pI 11 h7 a0 1 0 fun h8 => pI 11 h8 a0 2 0 fun h9 => pI 11 h9 a0 3 0 fun h10 => gI 9 h10 a2 0 fun v11 => cV 11 h10 a0 (f_X10_go F a0 v11 0 0 h10) fun v12 h13 => some ((), h13)
set_option maxRecDepth 100000 in
set_option maxHeartbeats 4000000 in
theorem T_X10_ask (F : Nat) (a0 : Nat) (a1 : Nat) (a2 : Nat) (a3 : Nat) (a4 : Int32) (a5 : Int32) (h : Hp) : GM rvV I_X10_ask 21 [.ref a0, .ref a1, .ref a2, .ref a3, .int a4, .int a5] h (f_X10_ask F a0 a1 a2 a3 a4 a5 h) := by
  delta f_X10_ask
  refine GM_of (lv := [(0, .ref a0), (1, .ref a1), (2, .ref a2), (3, .ref a3), (4, .int a4), (5, .int a5)]) (by decide +kernel) (Nat.le_of_ble_eq_true rfl) rfl ?_
  refine g_aload_n 0 dX10_ask_0 rfl ?_
  refine g_aload_n 1 dX10_ask_1 rfl ?_
  refine g_putR fl_RX10_18 rfl (Or.inl rfl) dX10_ask_2 (fun h1 => ?_)
  refine g_aload_n 0 dX10_ask_5 rfl ?_
  refine g_aload_n 2 dX10_ask_6 rfl ?_
  refine g_getI fl_RX10_22 rfl dX10_ask_7 (fun v2 => ?_)
  refine g_putI fl_RX10_28 (Or.inl rfl) dX10_ask_10 (fun h3 => ?_)
  refine g_aload_n 0 dX10_ask_13 rfl ?_
  refine g_aload_n 3 dX10_ask_14 rfl ?_
  refine g_putR fl_RX10_12 rfl (Or.inl rfl) dX10_ask_15 (fun h4 => ?_)
  refine g_aload_n 0 dX10_ask_18 rfl ?_
  refine g_iload 4 dX10_ask_19 rfl ?_
  refine g_putI fl_RX10_29 (Or.inl rfl) dX10_ask_21 (fun h5 => ?_)
  refine g_aload_n 0 dX10_ask_24 rfl ?_
  refine g_iload 5 dX10_ask_25 rfl ?_
  refine g_putI fl_RX10_32 (Or.inl rfl) dX10_ask_27 (fun h6 => ?_)
  refine g_aload_n 0 dX10_ask_30 rfl ?_
  refine g_iconst (v := 0) dX10_ask_31 (by decide) ?_
  refine g_putI fl_RX10_35 (Or.inl rfl) dX10_ask_32 (fun h7 => ?_)
  refine g_aload_n 0 dX10_ask_35 rfl ?_
  refine g_iconst (v := 0) dX10_ask_36 (by decide) ?_
  refine g_putI fl_RX10_38 (Or.inl rfl) dX10_ask_37 (fun h8 => ?_)
  refine g_aload_n 0 dX10_ask_40 rfl ?_
  refine g_iconst (v := 0) dX10_ask_41 (by decide) ?_
  refine g_putI fl_RX10_41 (Or.inl rfl) dX10_ask_42 (fun h9 => ?_)
  refine g_aload_n 0 dX10_ask_45 rfl ?_
  refine g_iconst (v := 0) dX10_ask_46 (by decide) ?_
  refine g_putI fl_RX10_44 (Or.inl rfl) dX10_ask_47 (fun h10 => ?_)
  refine g_aload_n 0 dX10_ask_50 rfl ?_
  refine g_aload_n 2 dX10_ask_51 rfl ?_
  refine g_getI fl_RX10_47 rfl dX10_ask_52 (fun v11 => ?_)
  refine g_iconst (v := 0) dX10_ask_55 (by decide) ?_
  refine g_iconst (v := 0) dX10_ask_56 (by decide) ?_
  refine g_callVv (J := I_X10_go) (t := 11) (As := [.int v11, .int 0, .int 0]) (rest := []) mjv_X10_go ml_RX10_50 ⟨rfl, by decide, by decide⟩ (by decide) rfl rfl (Nat.le_of_ble_eq_true rfl) dX10_ask_57 (T_X10_go F a0 v11 0 0 h10) (fun v12 h13 => ?_)
  exact g_vret rfl dX10_ask_60
set_option maxRecDepth 100000 in
noncomputable def f_X11_refusalOfTold_55_b (F : Nat) (K55 : Nat → Int32 → Int32 → Nat → Int32 → Hp → Option (Int32 × Hp)) (l0 : Nat) (l2 : Int32) (l3 : Int32) (l4 : Nat) (l5 : Int32) (h : Hp) : Option (Int32 × Hp) :=
  gI 10 h l4 0 fun v13 => if v13 ≤ l5 then (cV 12 h l0 (f_X11_noSet F l0 l2 h) fun v15 h16 => if v15 = 0 then (cV 12 h16 l0 (f_X11_noSet F l0 l3 h16) fun v18 h19 => if v18 = 0 then (some (0, h19)) else (some ((-3), h19))) else (some ((-3), h16))) else (cV 10 h l4 (f_X9_at F l4 l5 h) fun v21 h22 => if ((v21 : Int64) < 0 : Prop) then (some ((-3), h22)) else (cV 10 h22 l4 (f_X9_at F l4 l5 h22) fun v24 h25 => gR 12 h25 l0 3 fun v26 => gI 3 h25 v26 0 fun v27 => if ((v24 : Int64) < (v27.toInt64) : Prop) then (K55 l0 l2 l3 l4 (l5 + 1) h25) else (some ((-3), h25))))
set_option maxRecDepth 100000 in
set_option maxHeartbeats 4000000 in
theorem T_X11_refusalOfTold_55_b (F : Nat) {K55 : Nat → Int32 → Int32 → Nat → Int32 → Hp → Option (Int32 × Hp)} (hK55 : ∀ (l0 : Nat) (l2 : Int32) (l3 : Int32) (l4 : Nat) (l5 : Int32) (h : Hp), G rvI I_X11_refusalOfTold 2 55 [(0, .ref l0), (2, .int l2), (3, .int l3), (4, .ref l4), (5, .int l5)] [] h (K55 l0 l2 l3 l4 l5 h)) (l0 : Nat) (l2 : Int32) (l3 : Int32) (l4 : Nat) (l5 : Int32) (h : Hp) : G rvI I_X11_refusalOfTold 2 55 [(0, .ref l0), (2, .int l2), (3, .int l3), (4, .ref l4), (5, .int l5)] [] h (f_X11_refusalOfTold_55_b F K55 l0 l2 l3 l4 l5 h) := by
  delta f_X11_refusalOfTold_55_b
  refine g_iload 4 dX11_refusalOfTold_55 rfl ?_
  refine g_aload 3 dX11_refusalOfTold_57 rfl ?_
  refine g_getI fl_RX11_306 rfl dX11_refusalOfTold_59 (fun v13 => ?_)
  refine g_icmp_ge (tgt := 105) dX11_refusalOfTold_62 (by decide) (fun c14 => ?_) (fun c14 => ?_)
  · refine g_aload_n 0 dX11_refusalOfTold_105 rfl ?_
    refine g_iload_n 1 dX11_refusalOfTold_106 rfl ?_
    refine g_callVi (J := I_X11_noSet) (t := 12) (As := [.int l2]) (rest := []) mjv_X11_noSet ml_RX11_237 ⟨rfl, by decide, by decide⟩ (by decide) rfl rfl (Nat.le_of_ble_eq_true rfl) dX11_refusalOfTold_107 (T_X11_noSet F l0 l2 h) (fun v15 h16 => ?_)
    refine g_if_ne (tgt := 121) dX11_refusalOfTold_110 (by decide) (fun c17 => ?_) (fun c17 => ?_)
    · refine g_aload_n 0 dX11_refusalOfTold_113 rfl ?_
      refine g_iload_n 2 dX11_refusalOfTold_114 rfl ?_
      refine g_callVi (J := I_X11_noSet) (t := 12) (As := [.int l3]) (rest := []) mjv_X11_noSet ml_RX11_237 ⟨rfl, by decide, by decide⟩ (by decide) rfl rfl (Nat.le_of_ble_eq_true rfl) dX11_refusalOfTold_115 (T_X11_noSet F l0 l3 h16) (fun v18 h19 => ?_)
      refine g_if_eq (tgt := 126) dX11_refusalOfTold_118 (by decide) (fun c20 => ?_) (fun c20 => ?_)
      · refine g_iconst (v := 0) dX11_refusalOfTold_126 (by decide) ?_
        exact g_iret rfl dX11_refusalOfTold_127
      · refine g_bipush (v := (-3)) dX11_refusalOfTold_121 (by decide) ?_
        refine g_goto (tgt := 127) dX11_refusalOfTold_123 (by decide) ?_
        exact g_iret rfl dX11_refusalOfTold_127
    · refine g_bipush (v := (-3)) dX11_refusalOfTold_121 (by decide) ?_
      refine g_goto (tgt := 127) dX11_refusalOfTold_123 (by decide) ?_
      exact g_iret rfl dX11_refusalOfTold_127
  · refine g_aload 3 dX11_refusalOfTold_65 rfl ?_
    refine g_iload 4 dX11_refusalOfTold_67 rfl ?_
    refine g_callVl (J := I_X9_at) (t := 10) (As := [.int l5]) (rest := []) mjv_X9_at ml_RX11_318 ⟨rfl, by decide, by decide⟩ (by decide) rfl rfl (Nat.le_of_ble_eq_true rfl) dX11_refusalOfTold_69 (T_X9_at F l4 l5 h) (fun v21 h22 => ?_)
    refine g_lconst (v := 0) dX11_refusalOfTold_72 (by decide) ?_
    refine g_lc_lt (x := v21) (y := 0) (tgt := 96) dX11_refusalOfTold_73 dX11_refusalOfTold_74 (by decide) (fun c23 => ?_) (fun c23 => ?_)
    · refine g_bipush (v := (-3)) dX11_refusalOfTold_96 (by decide) ?_
      exact g_iret rfl dX11_refusalOfTold_98
    · refine g_aload 3 dX11_refusalOfTold_77 rfl ?_
      refine g_iload 4 dX11_refusalOfTold_79 rfl ?_
      refine g_callVl (J := I_X9_at) (t := 10) (As := [.int l5]) (rest := []) mjv_X9_at ml_RX11_318 ⟨rfl, by decide, by decide⟩ (by decide) rfl rfl (Nat.le_of_ble_eq_true rfl) dX11_refusalOfTold_81 (T_X9_at F l4 l5 h22) (fun v24 h25 => ?_)
      refine g_aload_n 0 dX11_refusalOfTold_84 rfl ?_
      refine g_getR fl_RX11_20 rfl dX11_refusalOfTold_85 (fun v26 => ?_)
      refine g_getI fl_RX11_181 rfl dX11_refusalOfTold_88 (fun v27 => ?_)
      refine g_i2l dX11_refusalOfTold_91 ?_
      refine g_lc_lt (x := v24) (y := (v27.toInt64)) (tgt := 99) dX11_refusalOfTold_92 dX11_refusalOfTold_93 (by decide) (fun c28 => ?_) (fun c28 => ?_)
      · refine g_iinc (v' := l5 + 1) (lv' := [(5, .int (l5 + 1)), (0, .ref l0), (2, .int l2), (3, .int l3), (4, .ref l4)]) 4 dX11_refusalOfTold_99 rfl rfl (by decide) rfl ?_
        refine g_goto (tgt := 55) dX11_refusalOfTold_102 (by decide) ?_
        refine G_lv [1, 2, 3, 4, 0] rfl ?_
        exact hK55 l0 l2 l3 l4 (l5 + 1) h25
      · refine g_bipush (v := (-3)) dX11_refusalOfTold_96 (by decide) ?_
        exact g_iret rfl dX11_refusalOfTold_98
set_option maxRecDepth 100000 in
noncomputable def f_X11_refusalOfTold_55 (F : Nat) : Nat → Nat → Int32 → Int32 → Nat → Int32 → Hp → Option (Int32 × Hp)
  | 0, _, _, _, _, _, _ => none
  | n + 1, l0, l2, l3, l4, l5, h => f_X11_refusalOfTold_55_b F (f_X11_refusalOfTold_55 F n) l0 l2 l3 l4 l5 h
set_option maxRecDepth 100000 in
set_option maxHeartbeats 4000000 in
theorem T_X11_refusalOfTold_55 (F : Nat) : ∀ (n : Nat) (l0 : Nat) (l2 : Int32) (l3 : Int32) (l4 : Nat) (l5 : Int32) (h : Hp), G rvI I_X11_refusalOfTold 2 55 [(0, .ref l0), (2, .int l2), (3, .int l3), (4, .ref l4), (5, .int l5)] [] h (f_X11_refusalOfTold_55 F n l0 l2 l3 l4 l5 h) := by
  intro n
  induction n with
  | zero => intros; exact G_none
  | succ n ih => intro l0 l2 l3 l4 l5 h; exact T_X11_refusalOfTold_55_b F ih l0 l2 l3 l4 l5 h
set_option maxRecDepth 100000 in
noncomputable def f_X11_refusalOfTold (F : Nat) (a0 : Nat) (a1 : Int32) (a2 : Int32) (a3 : Int32) (h : Hp) : Option (Int32 × Hp) :=
  cV 12 h a0 (f_X11_noTray F a0 a1 h) fun v1 h2 => if v1 = 0 then (gR 12 h2 a0 8 fun v4 => aR 26 h2 v4 a1 fun v5 => cV 10 h2 v5 (f_X9_isMissing F v5 h2) fun v6 h7 => if v6 = 0 then (gI 10 h7 v5 0 fun v9 => if v9 < 1 then (some ((-4), h7)) else (gI 10 h7 v5 0 fun v11 => if v11 ≤ 10 then (f_X11_refusalOfTold_55 F F a0 a2 a3 v5 0 h7) else (some ((-4), h7)))) else (some ((-6), h7))) else (some ((-2), h2))
set_option maxRecDepth 100000 in
set_option maxHeartbeats 4000000 in
theorem T_X11_refusalOfTold (F : Nat) (a0 : Nat) (a1 : Int32) (a2 : Int32) (a3 : Int32) (h : Hp) : GM rvI I_X11_refusalOfTold 2 [.ref a0, .int a1, .int a2, .int a3] h (f_X11_refusalOfTold F a0 a1 a2 a3 h) := by
  delta f_X11_refusalOfTold
  refine GM_of (lv := [(0, .ref a0), (1, .int a1), (2, .int a2), (3, .int a3)]) (by decide +kernel) (Nat.le_of_ble_eq_true rfl) rfl ?_
  refine g_aload_n 0 dX11_refusalOfTold_0 rfl ?_
  refine g_iload_n 1 dX11_refusalOfTold_1 rfl ?_
  refine g_callVi (J := I_X11_noTray) (t := 12) (As := [.int a1]) (rest := []) mjv_X11_noTray ml_RX11_220 ⟨rfl, by decide, by decide⟩ (by decide) rfl rfl (Nat.le_of_ble_eq_true rfl) dX11_refusalOfTold_2 (T_X11_noTray F a0 a1 h) (fun v1 h2 => ?_)
  refine g_if_eq (tgt := 11) dX11_refusalOfTold_5 (by decide) (fun c3 => ?_) (fun c3 => ?_)
  · refine g_aload_n 0 dX11_refusalOfTold_11 rfl ?_
    refine g_getR fl_RX11_52 rfl dX11_refusalOfTold_12 (fun v4 => ?_)
    refine g_iload_n 1 dX11_refusalOfTold_15 rfl ?_
    refine g_aald (by decide) (by decide) dX11_refusalOfTold_16 (fun v5 => ?_)
    refine g_astore (lv' := [(4, .ref v5), (0, .ref a0), (1, .int a1), (2, .int a2), (3, .int a3)]) dX11_refusalOfTold_17 (by decide) rfl ?_
    refine g_aload 0 dX11_refusalOfTold_19 rfl ?_
    refine g_callVi (J := I_X9_isMissing) (t := 10) (As := []) (rest := []) mjv_X9_isMissing ml_RX11_223 ⟨rfl, by decide, by decide⟩ (by decide) rfl rfl (Nat.le_of_ble_eq_true rfl) dX11_refusalOfTold_21 (T_X9_isMissing F v5 h2) (fun v6 h7 => ?_)
    refine g_if_eq (tgt := 30) dX11_refusalOfTold_24 (by decide) (fun c8 => ?_) (fun c8 => ?_)
    · refine g_aload 0 dX11_refusalOfTold_30 rfl ?_
      refine g_getI fl_RX11_306 rfl dX11_refusalOfTold_32 (fun v9 => ?_)
      refine g_iconst (v := 1) dX11_refusalOfTold_35 (by decide) ?_
      refine g_icmp_lt (tgt := 49) dX11_refusalOfTold_36 (by decide) (fun c10 => ?_) (fun c10 => ?_)
      · refine g_bipush (v := (-4)) dX11_refusalOfTold_49 (by decide) ?_
        exact g_iret rfl dX11_refusalOfTold_51
      · refine g_aload 0 dX11_refusalOfTold_39 rfl ?_
        refine g_getI fl_RX11_306 rfl dX11_refusalOfTold_41 (fun v11 => ?_)
        refine g_bipush (v := 10) dX11_refusalOfTold_44 (by decide) ?_
        refine g_icmp_le (tgt := 52) dX11_refusalOfTold_46 (by decide) (fun c12 => ?_) (fun c12 => ?_)
        · refine g_iconst (v := 0) dX11_refusalOfTold_52 (by decide) ?_
          refine g_istore (lv' := [(5, .int 0), (4, .ref v5), (0, .ref a0), (1, .int a1), (2, .int a2), (3, .int a3)]) dX11_refusalOfTold_53 (by decide) rfl ?_
          refine G_lv [2, 4, 5, 1, 0] rfl ?_
          exact T_X11_refusalOfTold_55 F F a0 a2 a3 v5 0 h7
        · refine g_bipush (v := (-4)) dX11_refusalOfTold_49 (by decide) ?_
          exact g_iret rfl dX11_refusalOfTold_51
    · refine g_bipush (v := (-6)) dX11_refusalOfTold_27 (by decide) ?_
      exact g_iret rfl dX11_refusalOfTold_29
  · refine g_bipush (v := (-2)) dX11_refusalOfTold_8 (by decide) ?_
    exact g_iret rfl dX11_refusalOfTold_10
set_option maxRecDepth 100000 in
noncomputable def f_X11_surely (F : Nat) (a0 : Nat) (a1 : Int32) (a2 : Int32) (a3 : Int32) (a4 : Int32) (h : Hp) : Option (Int32 × Hp) :=
  cV 12 h a0 (f_X11_noTwin F a0 a4 h) fun v1 h2 => if v1 = 0 then (cV 12 h2 a0 (f_X11_refusalOfTold F a0 a1 a2 a3 h2) fun v4 h5 => if v4 = 0 then (gR 12 h5 a0 16 fun v7 => gR 12 h5 a0 3 fun v8 => gR 12 h5 a0 5 fun v9 => gR 12 h5 a0 8 fun v10 => aR 26 h5 v10 a1 fun v11 => cV 11 h5 v7 (f_X10_ask F v7 v8 v9 v11 a2 a3 h5) fun v12 h13 => if a4 = 0 then (gR 12 h13 a0 16 fun v15 => gI 11 h13 v15 2 fun v16 => some (v16, h13)) else (gR 12 h13 a0 16 fun v17 => gI 11 h13 v17 3 fun v18 => some (v18, h13))) else (some (v4, h5))) else (some ((-2), h2))
set_option maxRecDepth 100000 in
set_option maxHeartbeats 4000000 in
theorem T_X11_surely (F : Nat) (a0 : Nat) (a1 : Int32) (a2 : Int32) (a3 : Int32) (a4 : Int32) (h : Hp) : GM rvI I_X11_surely 22 [.ref a0, .int a1, .int a2, .int a3, .int a4] h (f_X11_surely F a0 a1 a2 a3 a4 h) := by
  delta f_X11_surely
  refine GM_of (lv := [(0, .ref a0), (1, .int a1), (2, .int a2), (3, .int a3), (4, .int a4)]) (by decide +kernel) (Nat.le_of_ble_eq_true rfl) rfl ?_
  refine g_aload_n 0 dX11_surely_0 rfl ?_
  refine g_iload 4 dX11_surely_1 rfl ?_
  refine g_callVi (J := I_X11_noTwin) (t := 12) (As := [.int a4]) (rest := []) mjv_X11_noTwin ml_RX11_149 ⟨rfl, by decide, by decide⟩ (by decide) rfl rfl (Nat.le_of_ble_eq_true rfl) dX11_surely_3 (T_X11_noTwin F a0 a4 h) (fun v1 h2 => ?_)
  refine g_if_eq (tgt := 12) dX11_surely_6 (by decide) (fun c3 => ?_) (fun c3 => ?_)
  · refine g_aload_n 0 dX11_surely_12 rfl ?_
    refine g_iload_n 1 dX11_surely_13 rfl ?_
    refine g_iload_n 2 dX11_surely_14 rfl ?_
    refine g_iload_n 3 dX11_surely_15 rfl ?_
    refine g_callVi (J := I_X11_refusalOfTold) (t := 12) (As := [.int a1, .int a2, .int a3]) (rest := []) mjv_X11_refusalOfTold ml_RX11_296 ⟨rfl, by decide, by decide⟩ (by decide) rfl rfl (Nat.le_of_ble_eq_true rfl) dX11_surely_16 (T_X11_refusalOfTold F a0 a1 a2 a3 h2) (fun v4 h5 => ?_)
    refine g_istore (lv' := [(5, .int v4), (0, .ref a0), (1, .int a1), (2, .int a2), (3, .int a3), (4, .int a4)]) dX11_surely_19 (by decide) rfl ?_
    refine g_iload 0 dX11_surely_21 rfl ?_
    refine g_if_eq (tgt := 29) dX11_surely_23 (by decide) (fun c6 => ?_) (fun c6 => ?_)
    · refine g_aload_n 1 dX11_surely_29 rfl ?_
      refine g_getR fl_RX11_97 rfl dX11_surely_30 (fun v7 => ?_)
      refine g_aload_n 1 dX11_surely_33 rfl ?_
      refine g_getR fl_RX11_20 rfl dX11_surely_34 (fun v8 => ?_)
      refine g_aload_n 1 dX11_surely_37 rfl ?_
      refine g_getR fl_RX11_36 rfl dX11_surely_38 (fun v9 => ?_)
      refine g_aload_n 1 dX11_surely_41 rfl ?_
      refine g_getR fl_RX11_52 rfl dX11_surely_42 (fun v10 => ?_)
      refine g_iload_n 2 dX11_surely_45 rfl ?_
      refine g_aald (by decide) (by decide) dX11_surely_46 (fun v11 => ?_)
      refine g_iload_n 3 dX11_surely_47 rfl ?_
      refine g_iload_n 4 dX11_surely_48 rfl ?_
      refine g_callVv (J := I_X10_ask) (t := 11) (As := [.ref v8, .ref v9, .ref v11, .int a2, .int a3]) (rest := []) mjv_X10_ask ml_RX11_299 ⟨rfl, by decide, by decide⟩ (by decide) rfl rfl (Nat.le_of_ble_eq_true rfl) dX11_surely_49 (T_X10_ask F v7 v8 v9 v11 a2 a3 h5) (fun v12 h13 => ?_)
      refine g_iload 5 dX11_surely_52 rfl ?_
      refine g_if_ne (tgt := 67) dX11_surely_54 (by decide) (fun c14 => ?_) (fun c14 => ?_)
      · refine g_aload_n 1 dX11_surely_57 rfl ?_
        refine g_getR fl_RX11_97 rfl dX11_surely_58 (fun v15 => ?_)
        refine g_getI fl_RX11_312 rfl dX11_surely_61 (fun v16 => ?_)
        refine g_goto (tgt := 74) dX11_surely_64 (by decide) ?_
        exact g_iret rfl dX11_surely_74
      · refine g_aload_n 1 dX11_surely_67 rfl ?_
        refine g_getR fl_RX11_97 rfl dX11_surely_68 (fun v17 => ?_)
        refine g_getI fl_RX11_315 rfl dX11_surely_71 (fun v18 => ?_)
        exact g_iret rfl dX11_surely_74
    · refine g_iload 0 dX11_surely_26 rfl ?_
      exact g_iret rfl dX11_surely_28
  · refine g_bipush (v := (-2)) dX11_surely_9 (by decide) ?_
    exact g_iret rfl dX11_surely_11
set_option maxRecDepth 100000 in
noncomputable def f_X11_tell (F : Nat) (a0 : Nat) (a1 : Int32) (a2 : Int32) (h : Hp) : Option (Int32 × Hp) :=
  gR 12 h a0 6 fun v1 => gR 12 h a0 5 fun v2 => cV 9 h v1 (f_X8_copy F v1 v2 h) fun v3 h4 => gR 12 h4 a0 6 fun v5 => gR 12 h4 a0 3 fun v6 => cV 9 h4 v5 (f_X8_telling F v5 v6 a1 a2 h4) fun v7 h8 => if v7 = 0 then (cV 12 h8 a0 (f_X11_takeTrial F a0 h8) fun v10 h11 => gR 12 h11 a0 5 fun v12 => gI 9 h11 v12 0 fun v13 => bd (f_X2_ageIn F v13 (1 - a1) a2 h11) fun v14 h15 => some (v14, h15)) else (some (((-10) - v7), h8))
set_option maxRecDepth 100000 in
set_option maxHeartbeats 4000000 in
theorem T_X11_tell (F : Nat) (a0 : Nat) (a1 : Int32) (a2 : Int32) (h : Hp) : GM rvI I_X11_tell 5 [.ref a0, .int a1, .int a2] h (f_X11_tell F a0 a1 a2 h) := by
  delta f_X11_tell
  refine GM_of (lv := [(0, .ref a0), (1, .int a1), (2, .int a2)]) (by decide +kernel) (Nat.le_of_ble_eq_true rfl) rfl ?_
  refine g_aload_n 0 dX11_tell_0 rfl ?_
  refine g_getR fl_RX11_40 rfl dX11_tell_1 (fun v1 => ?_)
  refine g_aload_n 0 dX11_tell_4 rfl ?_
  refine g_getR fl_RX11_36 rfl dX11_tell_5 (fun v2 => ?_)
  refine g_callVv (J := I_X8_copy) (t := 9) (As := [.ref v2]) (rest := []) mjv_X8_copy ml_RX11_187 ⟨rfl, by decide, by decide⟩ (by decide) rfl rfl (Nat.le_of_ble_eq_true rfl) dX11_tell_8 (T_X8_copy F v1 v2 h) (fun v3 h4 => ?_)
  refine g_aload_n 0 dX11_tell_11 rfl ?_
  refine g_getR fl_RX11_40 rfl dX11_tell_12 (fun v5 => ?_)
  refine g_aload_n 0 dX11_tell_15 rfl ?_
  refine g_getR fl_RX11_20 rfl dX11_tell_16 (fun v6 => ?_)
  refine g_iload_n 1 dX11_tell_19 rfl ?_
  refine g_iload_n 2 dX11_tell_20 rfl ?_
  refine g_callVi (J := I_X8_telling) (t := 9) (As := [.ref v6, .int a1, .int a2]) (rest := []) mjv_X8_telling ml_RX11_191 ⟨rfl, by decide, by decide⟩ (by decide) rfl rfl (Nat.le_of_ble_eq_true rfl) dX11_tell_21 (T_X8_telling F v5 v6 a1 a2 h4) (fun v7 h8 => ?_)
  refine g_istore_n (lv' := [(3, .int v7), (0, .ref a0), (1, .int a1), (2, .int a2)]) dX11_tell_24 (by decide) rfl ?_
  refine g_iload_n 0 dX11_tell_25 rfl ?_
  refine g_if_eq (tgt := 34) dX11_tell_26 (by decide) (fun c9 => ?_) (fun c9 => ?_)
  · refine g_aload_n 1 dX11_tell_34 rfl ?_
    refine g_callVv (J := I_X11_takeTrial) (t := 12) (As := []) (rest := []) mjv_X11_takeTrial ml_RX11_195 ⟨rfl, by decide, by decide⟩ (by decide) rfl rfl (Nat.le_of_ble_eq_true rfl) dX11_tell_35 (T_X11_takeTrial F a0 h8) (fun v10 h11 => ?_)
    refine g_aload_n 1 dX11_tell_38 rfl ?_
    refine g_getR fl_RX11_36 rfl dX11_tell_39 (fun v12 => ?_)
    refine g_getI fl_RX11_127 rfl dX11_tell_42 (fun v13 => ?_)
    refine g_iconst (v := 1) dX11_tell_45 (by decide) ?_
    refine g_iload_n 2 dX11_tell_46 rfl ?_
    refine g_isub dX11_tell_47 ?_
    refine g_iload_n 3 dX11_tell_48 rfl ?_
    refine g_callSi (J := I_X2_ageIn) (As := [.int v13, .int (1 - a1), .int a2]) (rest := []) mjs_X2_ageIn ml_RX11_156 (by decide) rfl rfl (Nat.le_of_ble_eq_true rfl) dX11_tell_49 (T_X2_ageIn F v13 (1 - a1) a2 h11) (fun v14 h15 => ?_)
    exact g_iret rfl dX11_tell_52
  · refine g_bipush (v := (-10)) dX11_tell_29 (by decide) ?_
    refine g_iload_n 0 dX11_tell_31 rfl ?_
    refine g_isub dX11_tell_32 ?_
    exact g_iret rfl dX11_tell_33
set_option maxRecDepth 100000 in
noncomputable def f_X7_addWithDays_4_b (F : Nat) (K4 : Nat → Int32 → Int32 → Hp → Option (Unit × Hp)) (l0 : Nat) (l2 : Int32) (l3 : Int32) (h : Hp) : Option (Unit × Hp) :=
  if 3 ≤ l3 then (some ((), h)) else (if l2 < 0 then (some ((), h)) else (cV 8 h l0 (f_X7_add F l0 0 l2 h) fun v3 h4 => bd (f_X2_afterDay F l2 h4) fun v5 h6 => K4 l0 v5 (l3 + 1) h6))
set_option maxRecDepth 100000 in
set_option maxHeartbeats 4000000 in
theorem T_X7_addWithDays_4_b (F : Nat) {K4 : Nat → Int32 → Int32 → Hp → Option (Unit × Hp)} (hK4 : ∀ (l0 : Nat) (l2 : Int32) (l3 : Int32) (h : Hp), G rvV I_X7_addWithDays 2 4 [(0, .ref l0), (2, .int l2), (3, .int l3)] [] h (K4 l0 l2 l3 h)) (l0 : Nat) (l2 : Int32) (l3 : Int32) (h : Hp) : G rvV I_X7_addWithDays 2 4 [(0, .ref l0), (2, .int l2), (3, .int l3)] [] h (f_X7_addWithDays_4_b F K4 l0 l2 l3 h) := by
  delta f_X7_addWithDays_4_b
  refine g_iload_n 2 dX7_addWithDays_4 rfl ?_
  refine g_iconst (v := 3) dX7_addWithDays_5 (by decide) ?_
  refine g_icmp_ge (tgt := 30) dX7_addWithDays_6 (by decide) (fun c1 => ?_) (fun c1 => ?_)
  · exact g_vret rfl dX7_addWithDays_30
  · refine g_iload_n 1 dX7_addWithDays_9 rfl ?_
    refine g_if_lt (tgt := 30) dX7_addWithDays_10 (by decide) (fun c2 => ?_) (fun c2 => ?_)
    · exact g_vret rfl dX7_addWithDays_30
    · refine g_aload_n 0 dX7_addWithDays_13 rfl ?_
      refine g_iconst (v := 0) dX7_addWithDays_14 (by decide) ?_
      refine g_iload_n 1 dX7_addWithDays_15 rfl ?_
      refine g_callVv (J := I_X7_add) (t := 8) (As := [.int 0, .int l2]) (rest := []) mjv_X7_add ml_RX7_57 ⟨rfl, by decide, by decide⟩ (by decide) rfl rfl (Nat.le_of_ble_eq_true rfl) dX7_addWithDays_16 (T_X7_add F l0 0 l2 h) (fun v3 h4 => ?_)
      refine g_iload_n 1 dX7_addWithDays_19 rfl ?_
      refine g_callSi (J := I_X2_afterDay) (As := [.int l2]) (rest := []) mjs_X2_afterDay ml_RX7_85 (by decide) rfl rfl (Nat.le_of_ble_eq_true rfl) dX7_addWithDays_20 (T_X2_afterDay F l2 h4) (fun v5 h6 => ?_)
      refine g_istore_n (lv' := [(2, .int v5), (0, .ref l0), (3, .int l3)]) dX7_addWithDays_23 (by decide) rfl ?_
      refine g_iinc (v' := l3 + 1) (lv' := [(3, .int (l3 + 1)), (2, .int v5), (0, .ref l0)]) 2 dX7_addWithDays_24 rfl rfl (by decide) rfl ?_
      refine g_goto (tgt := 4) dX7_addWithDays_27 (by decide) ?_
      refine G_lv [2, 1, 0] rfl ?_
      exact hK4 l0 v5 (l3 + 1) h6
set_option maxRecDepth 100000 in
noncomputable def f_X7_addWithDays_4 (F : Nat) : Nat → Nat → Int32 → Int32 → Hp → Option (Unit × Hp)
  | 0, _, _, _, _ => none
  | n + 1, l0, l2, l3, h => f_X7_addWithDays_4_b F (f_X7_addWithDays_4 F n) l0 l2 l3 h
set_option maxRecDepth 100000 in
set_option maxHeartbeats 4000000 in
theorem T_X7_addWithDays_4 (F : Nat) : ∀ (n : Nat) (l0 : Nat) (l2 : Int32) (l3 : Int32) (h : Hp), G rvV I_X7_addWithDays 2 4 [(0, .ref l0), (2, .int l2), (3, .int l3)] [] h (f_X7_addWithDays_4 F n l0 l2 l3 h) := by
  intro n
  induction n with
  | zero => intros; exact G_none
  | succ n ih => intro l0 l2 l3 h; exact T_X7_addWithDays_4_b F ih l0 l2 l3 h
set_option maxRecDepth 100000 in
noncomputable def f_X7_addWithDays (F : Nat) (a0 : Nat) (a1 : Int32) (h : Hp) : Option (Unit × Hp) :=
  f_X7_addWithDays_4 F F a0 a1 0 h
set_option maxRecDepth 100000 in
set_option maxHeartbeats 4000000 in
theorem T_X7_addWithDays (F : Nat) (a0 : Nat) (a1 : Int32) (h : Hp) : GM rvV I_X7_addWithDays 2 [.ref a0, .int a1] h (f_X7_addWithDays F a0 a1 h) := by
  delta f_X7_addWithDays
  refine GM_of (lv := [(0, .ref a0), (1, .int a1)]) (by decide +kernel) (Nat.le_of_ble_eq_true rfl) rfl ?_
  refine g_iload_n 1 dX7_addWithDays_0 rfl ?_
  refine g_istore_n (lv' := [(2, .int a1), (0, .ref a0), (1, .int a1)]) dX7_addWithDays_1 (by decide) rfl ?_
  refine g_iconst (v := 0) dX7_addWithDays_2 (by decide) ?_
  refine g_istore_n (lv' := [(3, .int 0), (2, .int a1), (0, .ref a0), (1, .int a1)]) dX7_addWithDays_3 (by decide) rfl ?_
  refine G_lv [2, 1, 0] rfl ?_
  exact T_X7_addWithDays_4 F F a0 a1 0 h
set_option maxRecDepth 100000 in
noncomputable def f_X7_openTellings_24_b (F : Nat) (K2 : Nat → Int32 → Int32 → Hp → Option (Unit × Hp)) (K24 : Nat → Int32 → Int32 → Int32 → Int32 → Hp → Option (Unit × Hp)) (l0 : Nat) (l1 : Int32) (l2 : Int32) (l3 : Int32) (l4 : Int32) (h : Hp) : Option (Unit × Hp) :=
  gR 8 h l0 4 fun v6 => gI 3 h v6 0 fun v7 => if v7 ≤ l4 then (K2 l0 l1 (l2 + 1) h) else (gR 8 h l0 4 fun v9 => cV 3 h v9 (f_X2_afterCase F v9 l1 l3 l2 l4 h) fun v10 h11 => cV 8 h11 l0 (f_X7_addWithDays F l0 v10 h11) fun v12 h13 => K24 l0 l1 l2 l3 (l4 + 1) h13)
set_option maxRecDepth 100000 in
set_option maxHeartbeats 4000000 in
theorem T_X7_openTellings_24_b (F : Nat) {K2 : Nat → Int32 → Int32 → Hp → Option (Unit × Hp)} (hK2 : ∀ (l0 : Nat) (l1 : Int32) (l2 : Int32) (h : Hp), G rvV I_X7_openTellings 3 2 [(0, .ref l0), (1, .int l1), (2, .int l2)] [] h (K2 l0 l1 l2 h)) {K24 : Nat → Int32 → Int32 → Int32 → Int32 → Hp → Option (Unit × Hp)} (hK24 : ∀ (l0 : Nat) (l1 : Int32) (l2 : Int32) (l3 : Int32) (l4 : Int32) (h : Hp), G rvV I_X7_openTellings 3 24 [(0, .ref l0), (1, .int l1), (2, .int l2), (3, .int l3), (4, .int l4)] [] h (K24 l0 l1 l2 l3 l4 h)) (l0 : Nat) (l1 : Int32) (l2 : Int32) (l3 : Int32) (l4 : Int32) (h : Hp) : G rvV I_X7_openTellings 3 24 [(0, .ref l0), (1, .int l1), (2, .int l2), (3, .int l3), (4, .int l4)] [] h (f_X7_openTellings_24_b F K2 K24 l0 l1 l2 l3 l4 h) := by
  delta f_X7_openTellings_24_b
  refine g_iload 4 dX7_openTellings_24 rfl ?_
  refine g_aload_n 0 dX7_openTellings_26 rfl ?_
  refine g_getR fl_RX7_18 rfl dX7_openTellings_27 (fun v6 => ?_)
  refine g_getI fl_RX7_78 rfl dX7_openTellings_30 (fun v7 => ?_)
  refine g_icmp_ge (tgt := 58) dX7_openTellings_33 (by decide) (fun c8 => ?_) (fun c8 => ?_)
  · refine g_iinc (v' := l2 + 1) (lv' := [(2, .int (l2 + 1)), (0, .ref l0), (1, .int l1), (3, .int l3), (4, .int l4)]) 2 dX7_openTellings_58 rfl rfl (by decide) rfl ?_
    refine g_goto (tgt := 2) dX7_openTellings_61 (by decide) ?_
    refine G_lv [1, 2, 0] rfl ?_
    exact hK2 l0 l1 (l2 + 1) h
  · refine g_aload_n 0 dX7_openTellings_36 rfl ?_
    refine g_aload_n 0 dX7_openTellings_37 rfl ?_
    refine g_getR fl_RX7_18 rfl dX7_openTellings_38 (fun v9 => ?_)
    refine g_iload_n 1 dX7_openTellings_41 rfl ?_
    refine g_iload_n 3 dX7_openTellings_42 rfl ?_
    refine g_iload_n 2 dX7_openTellings_43 rfl ?_
    refine g_iload 4 dX7_openTellings_44 rfl ?_
    refine g_callVi (J := I_X2_afterCase) (t := 3) (As := [.int l1, .int l3, .int l2, .int l4]) (rest := [.ref l0]) mjv_X2_afterCase ml_RX7_81 ⟨rfl, by decide, by decide⟩ (by decide) rfl rfl (Nat.le_of_ble_eq_true rfl) dX7_openTellings_46 (T_X2_afterCase F v9 l1 l3 l2 l4 h) (fun v10 h11 => ?_)
    refine g_callVv (J := I_X7_addWithDays) (t := 8) (As := [.int v10]) (rest := []) mjv_X7_addWithDays ml_RX7_117 ⟨rfl, by decide, by decide⟩ (by decide) rfl rfl (Nat.le_of_ble_eq_true rfl) dX7_openTellings_49 (T_X7_addWithDays F l0 v10 h11) (fun v12 h13 => ?_)
    refine g_iinc (v' := l4 + 1) (lv' := [(4, .int (l4 + 1)), (0, .ref l0), (1, .int l1), (2, .int l2), (3, .int l3)]) 4 dX7_openTellings_52 rfl rfl (by decide) rfl ?_
    refine g_goto (tgt := 24) dX7_openTellings_55 (by decide) ?_
    refine G_lv [1, 2, 3, 4, 0] rfl ?_
    exact hK24 l0 l1 l2 l3 (l4 + 1) h13
set_option maxRecDepth 100000 in
noncomputable def f_X7_openTellings_24 (F : Nat) (K2 : Nat → Int32 → Int32 → Hp → Option (Unit × Hp)) : Nat → Nat → Int32 → Int32 → Int32 → Int32 → Hp → Option (Unit × Hp)
  | 0, _, _, _, _, _, _ => none
  | n + 1, l0, l1, l2, l3, l4, h => f_X7_openTellings_24_b F K2 (f_X7_openTellings_24 F K2 n) l0 l1 l2 l3 l4 h
set_option maxRecDepth 100000 in
set_option maxHeartbeats 4000000 in
theorem T_X7_openTellings_24 (F : Nat) {K2 : Nat → Int32 → Int32 → Hp → Option (Unit × Hp)} (hK2 : ∀ (l0 : Nat) (l1 : Int32) (l2 : Int32) (h : Hp), G rvV I_X7_openTellings 3 2 [(0, .ref l0), (1, .int l1), (2, .int l2)] [] h (K2 l0 l1 l2 h)) : ∀ (n : Nat) (l0 : Nat) (l1 : Int32) (l2 : Int32) (l3 : Int32) (l4 : Int32) (h : Hp), G rvV I_X7_openTellings 3 24 [(0, .ref l0), (1, .int l1), (2, .int l2), (3, .int l3), (4, .int l4)] [] h (f_X7_openTellings_24 F K2 n l0 l1 l2 l3 l4 h) := by
  intro n
  induction n with
  | zero => intros; exact G_none
  | succ n ih => intro l0 l1 l2 l3 l4 h; exact T_X7_openTellings_24_b F hK2 ih l0 l1 l2 l3 l4 h
set_option maxRecDepth 100000 in
noncomputable def f_X7_openTellings_2_b (F : Nat) (K2 : Nat → Int32 → Int32 → Hp → Option (Unit × Hp)) (l0 : Nat) (l1 : Int32) (l2 : Int32) (h : Hp) : Option (Unit × Hp) :=
  if 2 ≤ l2 then (some ((), h)) else (gR 8 h l0 4 fun v2 => gI 8 h l0 6 fun v3 => cV 3 h v2 (f_X2_caseAt F v2 l1 v3 l2 h) fun v4 h5 => f_X7_openTellings_24 F K2 F l0 l1 l2 v4 0 h5)
set_option maxRecDepth 100000 in
set_option maxHeartbeats 4000000 in
theorem T_X7_openTellings_2_b (F : Nat) {K2 : Nat → Int32 → Int32 → Hp → Option (Unit × Hp)} (hK2 : ∀ (l0 : Nat) (l1 : Int32) (l2 : Int32) (h : Hp), G rvV I_X7_openTellings 3 2 [(0, .ref l0), (1, .int l1), (2, .int l2)] [] h (K2 l0 l1 l2 h)) (l0 : Nat) (l1 : Int32) (l2 : Int32) (h : Hp) : G rvV I_X7_openTellings 3 2 [(0, .ref l0), (1, .int l1), (2, .int l2)] [] h (f_X7_openTellings_2_b F K2 l0 l1 l2 h) := by
  delta f_X7_openTellings_2_b
  refine g_iload_n 2 dX7_openTellings_2 rfl ?_
  refine g_iconst (v := 2) dX7_openTellings_3 (by decide) ?_
  refine g_icmp_ge (tgt := 64) dX7_openTellings_4 (by decide) (fun c1 => ?_) (fun c1 => ?_)
  · exact g_vret rfl dX7_openTellings_64
  · refine g_aload_n 0 dX7_openTellings_7 rfl ?_
    refine g_getR fl_RX7_18 rfl dX7_openTellings_8 (fun v2 => ?_)
    refine g_iload_n 1 dX7_openTellings_11 rfl ?_
    refine g_aload_n 0 dX7_openTellings_12 rfl ?_
    refine g_getI fl_RX7_43 rfl dX7_openTellings_13 (fun v3 => ?_)
    refine g_iload_n 2 dX7_openTellings_16 rfl ?_
    refine g_callVi (J := I_X2_caseAt) (t := 3) (As := [.int l1, .int v3, .int l2]) (rest := []) mjv_X2_caseAt ml_RX7_74 ⟨rfl, by decide, by decide⟩ (by decide) rfl rfl (Nat.le_of_ble_eq_true rfl) dX7_openTellings_17 (T_X2_caseAt F v2 l1 v3 l2 h) (fun v4 h5 => ?_)
    refine g_istore_n (lv' := [(3, .int v4), (0, .ref l0), (1, .int l1), (2, .int l2)]) dX7_openTellings_20 (by decide) rfl ?_
    refine g_iconst (v := 0) dX7_openTellings_21 (by decide) ?_
    refine g_istore (lv' := [(4, .int 0), (3, .int v4), (0, .ref l0), (1, .int l1), (2, .int l2)]) dX7_openTellings_22 (by decide) rfl ?_
    refine G_lv [2, 3, 4, 1, 0] rfl ?_
    exact T_X7_openTellings_24 F hK2 F l0 l1 l2 v4 0 h5
set_option maxRecDepth 100000 in
noncomputable def f_X7_openTellings_2 (F : Nat) : Nat → Nat → Int32 → Int32 → Hp → Option (Unit × Hp)
  | 0, _, _, _, _ => none
  | n + 1, l0, l1, l2, h => f_X7_openTellings_2_b F (f_X7_openTellings_2 F n) l0 l1 l2 h
set_option maxRecDepth 100000 in
set_option maxHeartbeats 4000000 in
theorem T_X7_openTellings_2 (F : Nat) : ∀ (n : Nat) (l0 : Nat) (l1 : Int32) (l2 : Int32) (h : Hp), G rvV I_X7_openTellings 3 2 [(0, .ref l0), (1, .int l1), (2, .int l2)] [] h (f_X7_openTellings_2 F n l0 l1 l2 h) := by
  intro n
  induction n with
  | zero => intros; exact G_none
  | succ n ih => intro l0 l1 l2 h; exact T_X7_openTellings_2_b F ih l0 l1 l2 h
set_option maxRecDepth 100000 in
noncomputable def f_X7_openTellings (F : Nat) (a0 : Nat) (a1 : Int32) (h : Hp) : Option (Unit × Hp) :=
  f_X7_openTellings_2 F F a0 a1 0 h
set_option maxRecDepth 100000 in
set_option maxHeartbeats 4000000 in
theorem T_X7_openTellings (F : Nat) (a0 : Nat) (a1 : Int32) (h : Hp) : GM rvV I_X7_openTellings 3 [.ref a0, .int a1] h (f_X7_openTellings F a0 a1 h) := by
  delta f_X7_openTellings
  refine GM_of (lv := [(0, .ref a0), (1, .int a1)]) (by decide +kernel) (Nat.le_of_ble_eq_true rfl) rfl ?_
  refine g_iconst (v := 0) dX7_openTellings_0 (by decide) ?_
  refine g_istore_n (lv' := [(2, .int 0), (0, .ref a0), (1, .int a1)]) dX7_openTellings_1 (by decide) rfl ?_
  refine G_lv [1, 2, 0] rfl ?_
  exact T_X7_openTellings_2 F F a0 a1 0 h
set_option maxRecDepth 100000 in
noncomputable def f_X7_fewestTellings_49_b (F : Nat) (K20 : Nat → Int32 → Int32 → Int32 → Int32 → Hp → Option (Int32 × Hp)) (K49 : Nat → Int32 → Int32 → Int32 → Int32 → Int32 → Hp → Option (Int32 × Hp)) (l0 : Nat) (l3 : Int32) (l4 : Int32) (l6 : Int32) (l7 : Int32) (l8 : Int32) (h : Hp) : Option (Int32 × Hp) :=
  if l7 ≤ l8 then (K20 l0 l3 l4 l7 (l6 + 1) h) else (gR 8 h l0 4 fun v13 => cV 8 h l0 (f_X7_agesOf F l0 l8 h) fun v14 h15 => cV 3 h15 v13 (f_X2_doAtLeast F v13 v14 l3 l4 h15) fun v16 h17 => if v16 = 0 then (cV 8 h17 l0 (f_X7_agesOf F l0 l8 h17) fun v19 h20 => cV 8 h20 l0 (f_X7_openTellings F l0 v19 h20) fun v21 h22 => K49 l0 l3 l4 l6 l7 (l8 + 1) h22) else (some (l6, h17)))
set_option maxRecDepth 100000 in
set_option maxHeartbeats 4000000 in
theorem T_X7_fewestTellings_49_b (F : Nat) {K20 : Nat → Int32 → Int32 → Int32 → Int32 → Hp → Option (Int32 × Hp)} (hK20 : ∀ (l0 : Nat) (l3 : Int32) (l4 : Int32) (l5 : Int32) (l6 : Int32) (h : Hp), G rvI I_X7_fewestTellings 4 20 [(0, .ref l0), (3, .int l3), (4, .int l4), (5, .int l5), (6, .int l6)] [] h (K20 l0 l3 l4 l5 l6 h)) {K49 : Nat → Int32 → Int32 → Int32 → Int32 → Int32 → Hp → Option (Int32 × Hp)} (hK49 : ∀ (l0 : Nat) (l3 : Int32) (l4 : Int32) (l6 : Int32) (l7 : Int32) (l8 : Int32) (h : Hp), G rvI I_X7_fewestTellings 4 49 [(0, .ref l0), (3, .int l3), (4, .int l4), (6, .int l6), (7, .int l7), (8, .int l8)] [] h (K49 l0 l3 l4 l6 l7 l8 h)) (l0 : Nat) (l3 : Int32) (l4 : Int32) (l6 : Int32) (l7 : Int32) (l8 : Int32) (h : Hp) : G rvI I_X7_fewestTellings 4 49 [(0, .ref l0), (3, .int l3), (4, .int l4), (6, .int l6), (7, .int l7), (8, .int l8)] [] h (f_X7_fewestTellings_49_b F K20 K49 l0 l3 l4 l6 l7 l8 h) := by
  delta f_X7_fewestTellings_49_b
  refine g_iload 5 dX7_fewestTellings_49 rfl ?_
  refine g_iload 4 dX7_fewestTellings_51 rfl ?_
  refine g_icmp_ge (tgt := 94) dX7_fewestTellings_53 (by decide) (fun c12 => ?_) (fun c12 => ?_)
  · refine g_iload 4 dX7_fewestTellings_94 rfl ?_
    refine g_istore (lv' := [(5, .int l7), (0, .ref l0), (3, .int l3), (4, .int l4), (6, .int l6), (7, .int l7), (8, .int l8)]) dX7_fewestTellings_96 (by decide) rfl ?_
    refine g_iinc (v' := l6 + 1) (lv' := [(6, .int (l6 + 1)), (5, .int l7), (0, .ref l0), (3, .int l3), (4, .int l4), (7, .int l7), (8, .int l8)]) 4 dX7_fewestTellings_98 rfl rfl (by decide) rfl ?_
    refine g_goto (tgt := 20) dX7_fewestTellings_101 (by decide) ?_
    refine G_lv [2, 3, 4, 1, 0] rfl ?_
    exact hK20 l0 l3 l4 l7 (l6 + 1) h
  · refine g_aload_n 0 dX7_fewestTellings_56 rfl ?_
    refine g_getR fl_RX7_18 rfl dX7_fewestTellings_57 (fun v13 => ?_)
    refine g_aload_n 0 dX7_fewestTellings_60 rfl ?_
    refine g_iload 5 dX7_fewestTellings_61 rfl ?_
    refine g_callVi (J := I_X7_agesOf) (t := 8) (As := [.int l8]) (rest := [.ref v13]) mjv_X7_agesOf ml_RX7_70 ⟨rfl, by decide, by decide⟩ (by decide) rfl rfl (Nat.le_of_ble_eq_true rfl) dX7_fewestTellings_63 (T_X7_agesOf F l0 l8 h) (fun v14 h15 => ?_)
    refine g_iload_n 1 dX7_fewestTellings_66 rfl ?_
    refine g_iload 2 dX7_fewestTellings_67 rfl ?_
    refine g_callVi (J := I_X2_doAtLeast) (t := 3) (As := [.int v14, .int l3, .int l4]) (rest := []) mjv_X2_doAtLeast ml_RX7_97 ⟨rfl, by decide, by decide⟩ (by decide) rfl rfl (Nat.le_of_ble_eq_true rfl) dX7_fewestTellings_69 (T_X2_doAtLeast F v13 v14 l3 l4 h15) (fun v16 h17 => ?_)
    refine g_if_eq (tgt := 78) dX7_fewestTellings_72 (by decide) (fun c18 => ?_) (fun c18 => ?_)
    · refine g_aload_n 0 dX7_fewestTellings_78 rfl ?_
      refine g_aload_n 0 dX7_fewestTellings_79 rfl ?_
      refine g_iload 5 dX7_fewestTellings_80 rfl ?_
      refine g_callVi (J := I_X7_agesOf) (t := 8) (As := [.int l8]) (rest := [.ref l0]) mjv_X7_agesOf ml_RX7_70 ⟨rfl, by decide, by decide⟩ (by decide) rfl rfl (Nat.le_of_ble_eq_true rfl) dX7_fewestTellings_82 (T_X7_agesOf F l0 l8 h17) (fun v19 h20 => ?_)
      refine g_callVv (J := I_X7_openTellings) (t := 8) (As := [.int v19]) (rest := []) mjv_X7_openTellings ml_RX7_120 ⟨rfl, by decide, by decide⟩ (by decide) rfl rfl (Nat.le_of_ble_eq_true rfl) dX7_fewestTellings_85 (T_X7_openTellings F l0 v19 h20) (fun v21 h22 => ?_)
      refine g_iinc (v' := l8 + 1) (lv' := [(8, .int (l8 + 1)), (0, .ref l0), (3, .int l3), (4, .int l4), (6, .int l6), (7, .int l7)]) 5 dX7_fewestTellings_88 rfl rfl (by decide) rfl ?_
      refine g_goto (tgt := 49) dX7_fewestTellings_91 (by decide) ?_
      refine G_lv [1, 2, 3, 4, 5, 0] rfl ?_
      exact hK49 l0 l3 l4 l6 l7 (l8 + 1) h22
    · refine g_iload 3 dX7_fewestTellings_75 rfl ?_
      exact g_iret rfl dX7_fewestTellings_77
set_option maxRecDepth 100000 in
noncomputable def f_X7_fewestTellings_49 (F : Nat) (K20 : Nat → Int32 → Int32 → Int32 → Int32 → Hp → Option (Int32 × Hp)) : Nat → Nat → Int32 → Int32 → Int32 → Int32 → Int32 → Hp → Option (Int32 × Hp)
  | 0, _, _, _, _, _, _, _ => none
  | n + 1, l0, l3, l4, l6, l7, l8, h => f_X7_fewestTellings_49_b F K20 (f_X7_fewestTellings_49 F K20 n) l0 l3 l4 l6 l7 l8 h
set_option maxRecDepth 100000 in
set_option maxHeartbeats 4000000 in
theorem T_X7_fewestTellings_49 (F : Nat) {K20 : Nat → Int32 → Int32 → Int32 → Int32 → Hp → Option (Int32 × Hp)} (hK20 : ∀ (l0 : Nat) (l3 : Int32) (l4 : Int32) (l5 : Int32) (l6 : Int32) (h : Hp), G rvI I_X7_fewestTellings 4 20 [(0, .ref l0), (3, .int l3), (4, .int l4), (5, .int l5), (6, .int l6)] [] h (K20 l0 l3 l4 l5 l6 h)) : ∀ (n : Nat) (l0 : Nat) (l3 : Int32) (l4 : Int32) (l6 : Int32) (l7 : Int32) (l8 : Int32) (h : Hp), G rvI I_X7_fewestTellings 4 49 [(0, .ref l0), (3, .int l3), (4, .int l4), (6, .int l6), (7, .int l7), (8, .int l8)] [] h (f_X7_fewestTellings_49 F K20 n l0 l3 l4 l6 l7 l8 h) := by
  intro n
  induction n with
  | zero => intros; exact G_none
  | succ n ih => intro l0 l3 l4 l6 l7 l8 h; exact T_X7_fewestTellings_49_b F hK20 ih l0 l3 l4 l6 l7 l8 h
set_option maxRecDepth 100000 in
noncomputable def f_X7_fewestTellings_20_b (F : Nat) (K20 : Nat → Int32 → Int32 → Int32 → Int32 → Hp → Option (Int32 × Hp)) (l0 : Nat) (l3 : Int32) (l4 : Int32) (l5 : Int32) (l6 : Int32) (h : Hp) : Option (Int32 × Hp) :=
  gR 8 h l0 0 fun v6 => al 20 h v6 fun v7 => if v7 ≤ l6 then (some ((-1), h)) else (gI 8 h l0 2 fun v9 => if v9 ≤ l5 then (some ((-1), h)) else (gI 8 h l0 2 fun v11 => f_X7_fewestTellings_49 F K20 F l0 l3 l4 l6 v11 l5 h))
set_option maxRecDepth 100000 in
set_option maxHeartbeats 4000000 in
theorem T_X7_fewestTellings_20_b (F : Nat) {K20 : Nat → Int32 → Int32 → Int32 → Int32 → Hp → Option (Int32 × Hp)} (hK20 : ∀ (l0 : Nat) (l3 : Int32) (l4 : Int32) (l5 : Int32) (l6 : Int32) (h : Hp), G rvI I_X7_fewestTellings 4 20 [(0, .ref l0), (3, .int l3), (4, .int l4), (5, .int l5), (6, .int l6)] [] h (K20 l0 l3 l4 l5 l6 h)) (l0 : Nat) (l3 : Int32) (l4 : Int32) (l5 : Int32) (l6 : Int32) (h : Hp) : G rvI I_X7_fewestTellings 4 20 [(0, .ref l0), (3, .int l3), (4, .int l4), (5, .int l5), (6, .int l6)] [] h (f_X7_fewestTellings_20_b F K20 l0 l3 l4 l5 l6 h) := by
  delta f_X7_fewestTellings_20_b
  refine g_iload 4 dX7_fewestTellings_20 rfl ?_
  refine g_aload_n 0 dX7_fewestTellings_22 rfl ?_
  refine g_getR fl_RX7_9 rfl dX7_fewestTellings_23 (fun v6 => ?_)
  refine g_alen (by decide) (by decide) dX7_fewestTellings_26 (fun v7 => ?_)
  refine g_icmp_ge (tgt := 104) dX7_fewestTellings_27 (by decide) (fun c8 => ?_) (fun c8 => ?_)
  · refine g_iconst (v := (-1)) dX7_fewestTellings_104 (by decide) ?_
    exact g_iret rfl dX7_fewestTellings_105
  · refine g_iload 3 dX7_fewestTellings_30 rfl ?_
    refine g_aload_n 0 dX7_fewestTellings_32 rfl ?_
    refine g_getI fl_RX7_28 rfl dX7_fewestTellings_33 (fun v9 => ?_)
    refine g_icmp_ge (tgt := 104) dX7_fewestTellings_36 (by decide) (fun c10 => ?_) (fun c10 => ?_)
    · refine g_iconst (v := (-1)) dX7_fewestTellings_104 (by decide) ?_
      exact g_iret rfl dX7_fewestTellings_105
    · refine g_aload_n 0 dX7_fewestTellings_39 rfl ?_
      refine g_getI fl_RX7_28 rfl dX7_fewestTellings_40 (fun v11 => ?_)
      refine g_istore (lv' := [(7, .int v11), (0, .ref l0), (3, .int l3), (4, .int l4), (5, .int l5), (6, .int l6)]) dX7_fewestTellings_43 (by decide) rfl ?_
      refine g_iload 4 dX7_fewestTellings_45 rfl ?_
      refine g_istore (lv' := [(8, .int l5), (7, .int v11), (0, .ref l0), (3, .int l3), (4, .int l4), (5, .int l5), (6, .int l6)]) dX7_fewestTellings_47 (by decide) rfl ?_
      refine G_lv [2, 3, 4, 6, 1, 0] rfl ?_
      exact T_X7_fewestTellings_49 F hK20 F l0 l3 l4 l6 v11 l5 h
set_option maxRecDepth 100000 in
noncomputable def f_X7_fewestTellings_20 (F : Nat) : Nat → Nat → Int32 → Int32 → Int32 → Int32 → Hp → Option (Int32 × Hp)
  | 0, _, _, _, _, _, _ => none
  | n + 1, l0, l3, l4, l5, l6, h => f_X7_fewestTellings_20_b F (f_X7_fewestTellings_20 F n) l0 l3 l4 l5 l6 h
set_option maxRecDepth 100000 in
set_option maxHeartbeats 4000000 in
theorem T_X7_fewestTellings_20 (F : Nat) : ∀ (n : Nat) (l0 : Nat) (l3 : Int32) (l4 : Int32) (l5 : Int32) (l6 : Int32) (h : Hp), G rvI I_X7_fewestTellings 4 20 [(0, .ref l0), (3, .int l3), (4, .int l4), (5, .int l5), (6, .int l6)] [] h (f_X7_fewestTellings_20 F n l0 l3 l4 l5 l6 h) := by
  intro n
  induction n with
  | zero => intros; exact G_none
  | succ n ih => intro l0 l3 l4 l5 l6 h; exact T_X7_fewestTellings_20_b F ih l0 l3 l4 l5 l6 h
set_option maxRecDepth 100000 in
noncomputable def f_X7_fewestTellings (F : Nat) (a0 : Nat) (a1 : Nat) (a2 : Nat) (a3 : Int32) (a4 : Int32) (h : Hp) : Option (Int32 × Hp) :=
  cV 8 h a0 (f_X7_settle F a0 a1 a2 h) fun v1 h2 => gI 8 h2 a0 5 fun v3 => cV 8 h2 a0 (f_X7_addWithDays F a0 v3 h2) fun v4 h5 => f_X7_fewestTellings_20 F F a0 a3 a4 0 0 h5
set_option maxRecDepth 100000 in
set_option maxHeartbeats 4000000 in
theorem T_X7_fewestTellings (F : Nat) (a0 : Nat) (a1 : Nat) (a2 : Nat) (a3 : Int32) (a4 : Int32) (h : Hp) : GM rvI I_X7_fewestTellings 4 [.ref a0, .ref a1, .ref a2, .int a3, .int a4] h (f_X7_fewestTellings F a0 a1 a2 a3 a4 h) := by
  delta f_X7_fewestTellings
  refine GM_of (lv := [(0, .ref a0), (1, .ref a1), (2, .ref a2), (3, .int a3), (4, .int a4)]) (by decide +kernel) (Nat.le_of_ble_eq_true rfl) rfl ?_
  refine g_aload_n 0 dX7_fewestTellings_0 rfl ?_
  refine g_aload_n 1 dX7_fewestTellings_1 rfl ?_
  refine g_aload_n 2 dX7_fewestTellings_2 rfl ?_
  refine g_callVv (J := I_X7_settle) (t := 8) (As := [.ref a1, .ref a2]) (rest := []) mjv_X7_settle ml_RX7_53 ⟨rfl, by decide, by decide⟩ (by decide) rfl rfl (Nat.le_of_ble_eq_true rfl) dX7_fewestTellings_3 (T_X7_settle F a0 a1 a2 h) (fun v1 h2 => ?_)
  refine g_aload_n 0 dX7_fewestTellings_6 rfl ?_
  refine g_aload_n 0 dX7_fewestTellings_7 rfl ?_
  refine g_getI fl_RX7_35 rfl dX7_fewestTellings_8 (fun v3 => ?_)
  refine g_callVv (J := I_X7_addWithDays) (t := 8) (As := [.int v3]) (rest := []) mjv_X7_addWithDays ml_RX7_117 ⟨rfl, by decide, by decide⟩ (by decide) rfl rfl (Nat.le_of_ble_eq_true rfl) dX7_fewestTellings_11 (T_X7_addWithDays F a0 v3 h2) (fun v4 h5 => ?_)
  refine g_iconst (v := 0) dX7_fewestTellings_14 (by decide) ?_
  refine g_istore (lv' := [(5, .int 0), (0, .ref a0), (1, .ref a1), (2, .ref a2), (3, .int a3), (4, .int a4)]) dX7_fewestTellings_15 (by decide) rfl ?_
  refine g_iconst (v := 0) dX7_fewestTellings_17 (by decide) ?_
  refine g_istore (lv' := [(6, .int 0), (5, .int 0), (0, .ref a0), (1, .ref a1), (2, .ref a2), (3, .int a3), (4, .int a4)]) dX7_fewestTellings_18 (by decide) rfl ?_
  refine G_lv [2, 5, 6, 1, 0] rfl ?_
  exact T_X7_fewestTellings_20 F F a0 a3 a4 0 0 h5
set_option maxRecDepth 100000 in
noncomputable def f_X11_tellings (F : Nat) (a0 : Nat) (a1 : Int32) (a2 : Int32) (h : Hp) : Option (Int32 × Hp) :=
  cV 12 h a0 (f_X11_noSet F a0 a1 h) fun v1 h2 => if v1 = 0 then (cV 12 h2 a0 (f_X11_noSet F a0 a2 h2) fun v4 h5 => if v4 = 0 then (gR 12 h5 a0 12 fun v7 => gR 12 h5 a0 3 fun v8 => gR 12 h5 a0 5 fun v9 => cV 8 h5 v7 (f_X7_fewestTellings F v7 v8 v9 a1 a2 h5) fun v10 h11 => gR 12 h11 a0 12 fun v12 => cV 8 h11 v12 (f_X7_drop F v12 h11) fun v13 h14 => some (v10, h14)) else (some ((-3), h5))) else (some ((-3), h2))
set_option maxRecDepth 100000 in
set_option maxHeartbeats 4000000 in
theorem T_X11_tellings (F : Nat) (a0 : Nat) (a1 : Int32) (a2 : Int32) (h : Hp) : GM rvI I_X11_tellings 5 [.ref a0, .int a1, .int a2] h (f_X11_tellings F a0 a1 a2 h) := by
  delta f_X11_tellings
  refine GM_of (lv := [(0, .ref a0), (1, .int a1), (2, .int a2)]) (by decide +kernel) (Nat.le_of_ble_eq_true rfl) rfl ?_
  refine g_aload_n 0 dX11_tellings_0 rfl ?_
  refine g_iload_n 1 dX11_tellings_1 rfl ?_
  refine g_callVi (J := I_X11_noSet) (t := 12) (As := [.int a1]) (rest := []) mjv_X11_noSet ml_RX11_237 ⟨rfl, by decide, by decide⟩ (by decide) rfl rfl (Nat.le_of_ble_eq_true rfl) dX11_tellings_2 (T_X11_noSet F a0 a1 h) (fun v1 h2 => ?_)
  refine g_if_ne (tgt := 16) dX11_tellings_5 (by decide) (fun c3 => ?_) (fun c3 => ?_)
  · refine g_aload_n 0 dX11_tellings_8 rfl ?_
    refine g_iload_n 2 dX11_tellings_9 rfl ?_
    refine g_callVi (J := I_X11_noSet) (t := 12) (As := [.int a2]) (rest := []) mjv_X11_noSet ml_RX11_237 ⟨rfl, by decide, by decide⟩ (by decide) rfl rfl (Nat.le_of_ble_eq_true rfl) dX11_tellings_10 (T_X11_noSet F a0 a2 h2) (fun v4 h5 => ?_)
    refine g_if_eq (tgt := 19) dX11_tellings_13 (by decide) (fun c6 => ?_) (fun c6 => ?_)
    · refine g_aload_n 0 dX11_tellings_19 rfl ?_
      refine g_getR fl_RX11_70 rfl dX11_tellings_20 (fun v7 => ?_)
      refine g_aload_n 0 dX11_tellings_23 rfl ?_
      refine g_getR fl_RX11_20 rfl dX11_tellings_24 (fun v8 => ?_)
      refine g_aload_n 0 dX11_tellings_27 rfl ?_
      refine g_getR fl_RX11_36 rfl dX11_tellings_28 (fun v9 => ?_)
      refine g_iload_n 1 dX11_tellings_31 rfl ?_
      refine g_iload_n 2 dX11_tellings_32 rfl ?_
      refine g_callVi (J := I_X7_fewestTellings) (t := 8) (As := [.ref v8, .ref v9, .int a1, .int a2]) (rest := []) mjv_X7_fewestTellings ml_RX11_277 ⟨rfl, by decide, by decide⟩ (by decide) rfl rfl (Nat.le_of_ble_eq_true rfl) dX11_tellings_33 (T_X7_fewestTellings F v7 v8 v9 a1 a2 h5) (fun v10 h11 => ?_)
      refine g_istore_n (lv' := [(3, .int v10), (0, .ref a0), (1, .int a1), (2, .int a2)]) dX11_tellings_36 (by decide) rfl ?_
      refine g_aload_n 1 dX11_tellings_37 rfl ?_
      refine g_getR fl_RX11_70 rfl dX11_tellings_38 (fun v12 => ?_)
      refine g_callVv (J := I_X7_drop) (t := 8) (As := []) (rest := []) mjv_X7_drop ml_RX11_110 ⟨rfl, by decide, by decide⟩ (by decide) rfl rfl (Nat.le_of_ble_eq_true rfl) dX11_tellings_41 (T_X7_drop F v12 h11) (fun v13 h14 => ?_)
      refine g_iload_n 0 dX11_tellings_44 rfl ?_
      exact g_iret rfl dX11_tellings_45
    · refine g_bipush (v := (-3)) dX11_tellings_16 (by decide) ?_
      exact g_iret rfl dX11_tellings_18
  · refine g_bipush (v := (-3)) dX11_tellings_16 (by decide) ?_
    exact g_iret rfl dX11_tellings_18
set_option maxRecDepth 100000 in
noncomputable def f_X11_told (F : Nat) (a0 : Nat) (a1 : Int32) (a2 : Int32) (a3 : Int32) (h : Hp) : Option (Int32 × Hp) :=
  cV 12 h a0 (f_X11_refusalOfTold F a0 a1 a2 a3 h) fun v1 h2 => if v1 = 0 then (gR 12 h2 a0 16 fun v4 => gR 12 h2 a0 3 fun v5 => gR 12 h2 a0 5 fun v6 => gR 12 h2 a0 8 fun v7 => aR 26 h2 v7 a1 fun v8 => cV 11 h2 v4 (f_X10_ask F v4 v5 v6 v8 a2 a3 h2) fun v9 h10 => gR 12 h10 a0 16 fun v11 => gI 11 h10 v11 0 fun v12 => some (v12, h10)) else (some (v1, h2))
set_option maxRecDepth 100000 in
set_option maxHeartbeats 4000000 in
theorem T_X11_told (F : Nat) (a0 : Nat) (a1 : Int32) (a2 : Int32) (a3 : Int32) (h : Hp) : GM rvI I_X11_told 22 [.ref a0, .int a1, .int a2, .int a3] h (f_X11_told F a0 a1 a2 a3 h) := by
  delta f_X11_told
  refine GM_of (lv := [(0, .ref a0), (1, .int a1), (2, .int a2), (3, .int a3)]) (by decide +kernel) (Nat.le_of_ble_eq_true rfl) rfl ?_
  refine g_aload_n 0 dX11_told_0 rfl ?_
  refine g_iload_n 1 dX11_told_1 rfl ?_
  refine g_iload_n 2 dX11_told_2 rfl ?_
  refine g_iload_n 3 dX11_told_3 rfl ?_
  refine g_callVi (J := I_X11_refusalOfTold) (t := 12) (As := [.int a1, .int a2, .int a3]) (rest := []) mjv_X11_refusalOfTold ml_RX11_296 ⟨rfl, by decide, by decide⟩ (by decide) rfl rfl (Nat.le_of_ble_eq_true rfl) dX11_told_4 (T_X11_refusalOfTold F a0 a1 a2 a3 h) (fun v1 h2 => ?_)
  refine g_istore (lv' := [(4, .int v1), (0, .ref a0), (1, .int a1), (2, .int a2), (3, .int a3)]) dX11_told_7 (by decide) rfl ?_
  refine g_iload 0 dX11_told_9 rfl ?_
  refine g_if_eq (tgt := 17) dX11_told_11 (by decide) (fun c3 => ?_) (fun c3 => ?_)
  · refine g_aload_n 1 dX11_told_17 rfl ?_
    refine g_getR fl_RX11_97 rfl dX11_told_18 (fun v4 => ?_)
    refine g_aload_n 1 dX11_told_21 rfl ?_
    refine g_getR fl_RX11_20 rfl dX11_told_22 (fun v5 => ?_)
    refine g_aload_n 1 dX11_told_25 rfl ?_
    refine g_getR fl_RX11_36 rfl dX11_told_26 (fun v6 => ?_)
    refine g_aload_n 1 dX11_told_29 rfl ?_
    refine g_getR fl_RX11_52 rfl dX11_told_30 (fun v7 => ?_)
    refine g_iload_n 2 dX11_told_33 rfl ?_
    refine g_aald (by decide) (by decide) dX11_told_34 (fun v8 => ?_)
    refine g_iload_n 3 dX11_told_35 rfl ?_
    refine g_iload_n 4 dX11_told_36 rfl ?_
    refine g_callVv (J := I_X10_ask) (t := 11) (As := [.ref v5, .ref v6, .ref v8, .int a2, .int a3]) (rest := []) mjv_X10_ask ml_RX11_299 ⟨rfl, by decide, by decide⟩ (by decide) rfl rfl (Nat.le_of_ble_eq_true rfl) dX11_told_37 (T_X10_ask F v4 v5 v6 v8 a2 a3 h2) (fun v9 h10 => ?_)
    refine g_aload_n 1 dX11_told_40 rfl ?_
    refine g_getR fl_RX11_97 rfl dX11_told_41 (fun v11 => ?_)
    refine g_getI fl_RX11_303 rfl dX11_told_44 (fun v12 => ?_)
    exact g_iret rfl dX11_told_47
  · refine g_iload 0 dX11_told_14 rfl ?_
    exact g_iret rfl dX11_told_16
