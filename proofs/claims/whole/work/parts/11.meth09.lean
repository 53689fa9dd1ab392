/-! L2, by program (wip/whole/gen/gen.py) -/
set_option maxRecDepth 100000 in
noncomputable def f_X5_both_7_b (F : Nat) (Rc : Nat → Nat → Int32 → Hp → Option (Unit × Hp)) (K7 : Nat → Int32 → Int32 → Hp → Option (Unit × Hp)) (l0 : Nat) (l1 : Int32) (l2 : Int32) (h : Hp) : Option (Unit × Hp) :=
  gI 6 h l0 3 fun v3 => if v3 ≤ l2 then (some ((), h)) else (gI 6 h l0 6 fun v5 => if v5 = 219 then (cV 6 h l0 (f_X5_advance F l0 h) fun v7 h8 => cV 6 h8 l0 (Rc 7 l0 l1 h8) fun v9 h10 => gR 6 h10 l0 9 fun v11 => cV 4 h10 v11 (f_X3_add F v11 12 h10) fun v12 h13 => K7 l0 l1 (l2 + 1) h13) else (some ((), h)))
set_option maxRecDepth 100000 in
set_option maxHeartbeats 4000000 in
theorem T_X5_both_7_b (F : Nat) {d dR : Nat} (hd1 : 8 ≤ d) (hdR : dR + 1 ≤ d) {Rc : Nat → Nat → Int32 → Hp → Option (Unit × Hp)} (hR : ∀ (w : Nat) (a0 : Nat) (a1 : Int32) (h : Hp), GM rvV (I_grp_X5_atom w) dR [.ref a0, .int a1] h (Rc w a0 a1 h)) {K7 : Nat → Int32 → Int32 → Hp → Option (Unit × Hp)} (hK7 : ∀ (l0 : Nat) (l1 : Int32) (l2 : Int32) (h : Hp), G rvV I_X5_both d 7 [(0, .ref l0), (1, .int l1), (2, .int l2)] [] h (K7 l0 l1 l2 h)) (l0 : Nat) (l1 : Int32) (l2 : Int32) (h : Hp) : G rvV I_X5_both d 7 [(0, .ref l0), (1, .int l1), (2, .int l2)] [] h (f_X5_both_7_b F Rc K7 l0 l1 l2 h) := by
  delta f_X5_both_7_b
  refine g_iload_n 2 dX5_both_7 rfl ?_
  refine g_aload_n 0 dX5_both_8 rfl ?_
  refine g_getI fl_RX5_36 rfl dX5_both_9 (fun v3 => ?_)
  refine g_icmp_ge (tgt := 49) dX5_both_12 (by decide) (fun c4 => ?_) (fun c4 => ?_)
  · exact g_vret rfl dX5_both_49
  · refine g_aload_n 0 dX5_both_15 rfl ?_
    refine g_getI fl_RX5_61 rfl dX5_both_16 (fun v5 => ?_)
    refine g_sipush (v := 219) dX5_both_19 (by decide) ?_
    refine g_icmp_ne (tgt := 49) dX5_both_22 (by decide) (fun c6 => ?_) (fun c6 => ?_)
    · refine g_aload_n 0 dX5_both_25 rfl ?_
      refine g_callVv (J := I_X5_advance) (t := 6) (As := []) (rest := []) mjv_X5_advance ml_RX5_51 ⟨rfl, by decide, by decide⟩ (Nat.le_trans (by decide) hd1) rfl rfl (Nat.le_of_ble_eq_true rfl) dX5_both_26 (T_X5_advance F l0 h) (fun v7 h8 => ?_)
      refine g_aload_n 0 dX5_both_29 rfl ?_
      refine g_iload_n 1 dX5_both_30 rfl ?_
      refine g_callVv (J := I_X5_unit) (t := 6) (As := [.int l1]) (rest := []) mjv_X5_unit ml_RX5_185 ⟨rfl, by decide, by decide⟩ hdR rfl rfl (Nat.le_of_ble_eq_true rfl) dX5_both_31 (hR 7 l0 l1 h8) (fun v9 h10 => ?_)
      refine g_aload_n 0 dX5_both_34 rfl ?_
      refine g_getR fl_RX5_22 rfl dX5_both_35 (fun v11 => ?_)
      refine g_bipush (v := 12) dX5_both_38 (by decide) ?_
      refine g_callVv (J := I_X3_add) (t := 4) (As := [.int 12]) (rest := []) mjv_X3_add ml_RX5_166 ⟨rfl, by decide, by decide⟩ (Nat.le_trans (by decide) hd1) rfl rfl (Nat.le_of_ble_eq_true rfl) dX5_both_40 (T_X3_add F v11 12 h10) (fun v12 h13 => ?_)
      refine g_iinc (v' := l2 + 1) (lv' := [(2, .int (l2 + 1)), (0, .ref l0), (1, .int l1)]) 2 dX5_both_43 rfl rfl (by decide) rfl ?_
      refine g_goto (tgt := 7) dX5_both_46 (by decide) ?_
      refine G_lv [1, 2, 0] rfl ?_
      exact hK7 l0 l1 (l2 + 1) h13
    · exact g_vret rfl dX5_both_49
set_option maxRecDepth 100000 in
noncomputable def f_X5_both_7 (F : Nat) (Rc : Nat → Nat → Int32 → Hp → Option (Unit × Hp)) : Nat → Nat → Int32 → Int32 → Hp → Option (Unit × Hp)
  | 0, _, _, _, _ => none
  | n + 1, l0, l1, l2, h => f_X5_both_7_b F Rc (f_X5_both_7 F Rc n) l0 l1 l2 h
set_option maxRecDepth 100000 in
set_option maxHeartbeats 4000000 in
theorem T_X5_both_7 (F : Nat) {d dR : Nat} (hd1 : 8 ≤ d) (hdR : dR + 1 ≤ d) {Rc : Nat → Nat → Int32 → Hp → Option (Unit × Hp)} (hR : ∀ (w : Nat) (a0 : Nat) (a1 : Int32) (h : Hp), GM rvV (I_grp_X5_atom w) dR [.ref a0, .int a1] h (Rc w a0 a1 h)) : ∀ (n : Nat) (l0 : Nat) (l1 : Int32) (l2 : Int32) (h : Hp), G rvV I_X5_both d 7 [(0, .ref l0), (1, .int l1), (2, .int l2)] [] h (f_X5_both_7 F Rc n l0 l1 l2 h) := by
  intro n
  induction n with
  | zero => intros; exact G_none
  | succ n ih => intro l0 l1 l2 h; exact T_X5_both_7_b F hd1 hdR hR ih l0 l1 l2 h
set_option maxRecDepth 100000 in
noncomputable def f_X5_both_w (F : Nat) (Rc : Nat → Nat → Int32 → Hp → Option (Unit × Hp)) (a0 : Nat) (a1 : Int32) (h : Hp) : Option (Unit × Hp) :=
  cV 6 h a0 (Rc 7 a0 a1 h) fun v1 h2 => f_X5_both_7 F Rc F a0 a1 0 h2
set_option maxRecDepth 100000 in
set_option maxHeartbeats 4000000 in
theorem T_X5_both_w (F : Nat) {d dR : Nat} (hd1 : 8 ≤ d) (hdR : dR + 1 ≤ d) {Rc : Nat → Nat → Int32 → Hp → Option (Unit × Hp)} (hR : ∀ (w : Nat) (a0 : Nat) (a1 : Int32) (h : Hp), GM rvV (I_grp_X5_atom w) dR [.ref a0, .int a1] h (Rc w a0 a1 h)) (a0 : Nat) (a1 : Int32) (h : Hp) : GM rvV I_X5_both d [.ref a0, .int a1] h (f_X5_both_w F Rc a0 a1 h) := by
  delta f_X5_both_w
  refine GM_of (lv := [(0, .ref a0), (1, .int a1)]) (by decide +kernel) (Nat.le_of_ble_eq_true rfl) rfl ?_
  refine g_aload_n 0 dX5_both_0 rfl ?_
  refine g_iload_n 1 dX5_both_1 rfl ?_
  refine g_callVv (J := I_X5_unit) (t := 6) (As := [.int a1]) (rest := []) mjv_X5_unit ml_RX5_185 ⟨rfl, by decide, by decide⟩ hdR rfl rfl (Nat.le_of_ble_eq_true rfl) dX5_both_2 (hR 7 a0 a1 h) (fun v1 h2 => ?_)
  refine g_iconst (v := 0) dX5_both_5 (by decide) ?_
  refine g_istore_n (lv' := [(2, .int 0), (0, .ref a0), (1, .int a1)]) dX5_both_6 (by decide) rfl ?_
  refine G_lv [1, 2, 0] rfl ?_
  exact T_X5_both_7 F hd1 hdR hR F a0 a1 0 h2
set_option maxRecDepth 100000 in
noncomputable def f_X5_choice_w (F : Nat) (Rc : Nat → Nat → Int32 → Hp → Option (Unit × Hp)) (a0 : Nat) (a1 : Int32) (h : Hp) : Option (Unit × Hp) :=
  cV 6 h a0 (Rc 6 a0 a1 h) fun v1 h2 => cV 6 h2 a0 (f_X5_take F a0 212 h2) fun v3 h4 => cV 6 h4 a0 (Rc 4 a0 a1 h4) fun v5 h6 => cV 6 h6 a0 (f_X5_take F a0 213 h6) fun v7 h8 => cV 6 h8 a0 (Rc 4 a0 a1 h8) fun v9 h10 => cV 6 h10 a0 (f_X5_take F a0 214 h10) fun v11 h12 => gR 6 h12 a0 9 fun v13 => cV 4 h12 v13 (f_X3_add F v13 15 h12) fun v14 h15 => some ((), h15)
set_option maxRecDepth 100000 in
set_option maxHeartbeats 4000000 in
theorem T_X5_choice_w (F : Nat) {d dR : Nat} (hd1 : 8 ≤ d) (hdR : dR + 1 ≤ d) {Rc : Nat → Nat → Int32 → Hp → Option (Unit × Hp)} (hR : ∀ (w : Nat) (a0 : Nat) (a1 : Int32) (h : Hp), GM rvV (I_grp_X5_atom w) dR [.ref a0, .int a1] h (Rc w a0 a1 h)) (a0 : Nat) (a1 : Int32) (h : Hp) : GM rvV I_X5_choice d [.ref a0, .int a1] h (f_X5_choice_w F Rc a0 a1 h) := by
  delta f_X5_choice_w
  refine GM_of (lv := [(0, .ref a0), (1, .int a1)]) (by decide +kernel) (Nat.le_of_ble_eq_true rfl) rfl ?_
  refine g_aload_n 0 dX5_choice_0 rfl ?_
  refine g_iload_n 1 dX5_choice_1 rfl ?_
  refine g_callVv (J := I_X5_truth) (t := 6) (As := [.int a1]) (rest := []) mjv_X5_truth ml_RX5_151 ⟨rfl, by decide, by decide⟩ hdR rfl rfl (Nat.le_of_ble_eq_true rfl) dX5_choice_2 (hR 6 a0 a1 h) (fun v1 h2 => ?_)
  refine g_aload_n 0 dX5_choice_5 rfl ?_
  refine g_sipush (v := 212) dX5_choice_6 (by decide) ?_
  refine g_callVv (J := I_X5_take) (t := 6) (As := [.int 212]) (rest := []) mjv_X5_take ml_RX5_54 ⟨rfl, by decide, by decide⟩ (Nat.le_trans (by decide) hd1) rfl rfl (Nat.le_of_ble_eq_true rfl) dX5_choice_9 (T_X5_take F a0 212 h2) (fun v3 h4 => ?_)
  refine g_aload_n 0 dX5_choice_12 rfl ?_
  refine g_iload_n 1 dX5_choice_13 rfl ?_
  refine g_callVv (J := I_X5_sum) (t := 6) (As := [.int a1]) (rest := []) mjv_X5_sum ml_RX5_157 ⟨rfl, by decide, by decide⟩ hdR rfl rfl (Nat.le_of_ble_eq_true rfl) dX5_choice_14 (hR 4 a0 a1 h4) (fun v5 h6 => ?_)
  refine g_aload_n 0 dX5_choice_17 rfl ?_
  refine g_sipush (v := 213) dX5_choice_18 (by decide) ?_
  refine g_callVv (J := I_X5_take) (t := 6) (As := [.int 213]) (rest := []) mjv_X5_take ml_RX5_54 ⟨rfl, by decide, by decide⟩ (Nat.le_trans (by decide) hd1) rfl rfl (Nat.le_of_ble_eq_true rfl) dX5_choice_21 (T_X5_take F a0 213 h6) (fun v7 h8 => ?_)
  refine g_aload_n 0 dX5_choice_24 rfl ?_
  refine g_iload_n 1 dX5_choice_25 rfl ?_
  refine g_callVv (J := I_X5_sum) (t := 6) (As := [.int a1]) (rest := []) mjv_X5_sum ml_RX5_157 ⟨rfl, by decide, by decide⟩ hdR rfl rfl (Nat.le_of_ble_eq_true rfl) dX5_choice_26 (hR 4 a0 a1 h8) (fun v9 h10 => ?_)
  refine g_aload_n 0 dX5_choice_29 rfl ?_
  refine g_sipush (v := 214) dX5_choice_30 (by decide) ?_
  refine g_callVv (J := I_X5_take) (t := 6) (As := [.int 214]) (rest := []) mjv_X5_take ml_RX5_54 ⟨rfl, by decide, by decide⟩ (Nat.le_trans (by decide) hd1) rfl rfl (Nat.le_of_ble_eq_true rfl) dX5_choice_33 (T_X5_take F a0 214 h10) (fun v11 h12 => ?_)
  refine g_aload_n 0 dX5_choice_36 rfl ?_
  refine g_getR fl_RX5_22 rfl dX5_choice_37 (fun v13 => ?_)
  refine g_bipush (v := 15) dX5_choice_40 (by decide) ?_
  refine g_callVv (J := I_X3_add) (t := 4) (As := [.int 15]) (rest := []) mjv_X3_add ml_RX5_166 ⟨rfl, by decide, by decide⟩ (Nat.le_trans (by decide) hd1) rfl rfl (Nat.le_of_ble_eq_true rfl) dX5_choice_42 (T_X3_add F v13 15 h12) (fun v14 h15 => ?_)
  exact g_vret rfl dX5_choice_45
set_option maxRecDepth 100000 in
noncomputable def f_X5_comparison_63 (F : Nat) (Rc : Nat → Nat → Int32 → Hp → Option (Unit × Hp)) (l0 : Nat) (l1 : Int32) (l2 : Int32) (h : Hp) : Option (Unit × Hp) :=
  cV 6 h l0 (f_X5_advance F l0 h) fun v7 h8 => cV 6 h8 l0 (Rc 4 l0 l1 h8) fun v9 h10 => gR 6 h10 l0 9 fun v11 => cV 4 h10 v11 (f_X3_add F v11 l2 h10) fun v12 h13 => some ((), h13)
set_option maxRecDepth 100000 in
set_option maxHeartbeats 4000000 in
theorem T_X5_comparison_63 (F : Nat) {d dR : Nat} (hd1 : 8 ≤ d) (hdR : dR + 1 ≤ d) {Rc : Nat → Nat → Int32 → Hp → Option (Unit × Hp)} (hR : ∀ (w : Nat) (a0 : Nat) (a1 : Int32) (h : Hp), GM rvV (I_grp_X5_atom w) dR [.ref a0, .int a1] h (Rc w a0 a1 h)) (l0 : Nat) (l1 : Int32) (l2 : Int32) (h : Hp) : G rvV I_X5_comparison d 63 [(0, .ref l0), (1, .int l1), (2, .int l2)] [] h (f_X5_comparison_63 F Rc l0 l1 l2 h) := by
  delta f_X5_comparison_63
  refine g_aload_n 0 dX5_comparison_63 rfl ?_
  refine g_callVv (J := I_X5_advance) (t := 6) (As := []) (rest := []) mjv_X5_advance ml_RX5_51 ⟨rfl, by decide, by decide⟩ (Nat.le_trans (by decide) hd1) rfl rfl (Nat.le_of_ble_eq_true rfl) dX5_comparison_64 (T_X5_advance F l0 h) (fun v7 h8 => ?_)
  refine g_aload_n 0 dX5_comparison_67 rfl ?_
  refine g_iload_n 1 dX5_comparison_68 rfl ?_
  refine g_callVv (J := I_X5_sum) (t := 6) (As := [.int l1]) (rest := []) mjv_X5_sum ml_RX5_157 ⟨rfl, by decide, by decide⟩ hdR rfl rfl (Nat.le_of_ble_eq_true rfl) dX5_comparison_69 (hR 4 l0 l1 h8) (fun v9 h10 => ?_)
  refine g_aload_n 0 dX5_comparison_72 rfl ?_
  refine g_getR fl_RX5_22 rfl dX5_comparison_73 (fun v11 => ?_)
  refine g_iload_n 2 dX5_comparison_76 rfl ?_
  refine g_callVv (J := I_X3_add) (t := 4) (As := [.int l2]) (rest := []) mjv_X3_add ml_RX5_166 ⟨rfl, by decide, by decide⟩ (Nat.le_trans (by decide) hd1) rfl rfl (Nat.le_of_ble_eq_true rfl) dX5_comparison_77 (T_X3_add F v11 l2 h10) (fun v12 h13 => ?_)
  refine g_goto (tgt := 88) dX5_comparison_80 (by decide) ?_
  exact g_vret rfl dX5_comparison_88
set_option maxRecDepth 100000 in
noncomputable def f_X5_comparison_35 (F : Nat) (Rc : Nat → Nat → Int32 → Hp → Option (Unit × Hp)) (l0 : Nat) (l1 : Int32) (s0 : Int32) (h : Hp) : Option (Unit × Hp) :=
  gI 6 h l0 6 fun v5 => if v5 = 61 then (f_X5_comparison_63 F Rc l0 l1 s0 h) else (gI 6 h l0 6 fun v14 => if v14 = 60 then (f_X5_comparison_63 F Rc l0 l1 s0 h) else (gI 6 h l0 6 fun v16 => if v16 = 62 then (f_X5_comparison_63 F Rc l0 l1 s0 h) else (cV 6 h l0 (f_X5_fail F l0 2 h) fun v18 h19 => some ((), h19))))
set_option maxRecDepth 100000 in
set_option maxHeartbeats 4000000 in
theorem T_X5_comparison_35 (F : Nat) {d dR : Nat} (hd1 : 8 ≤ d) (hdR : dR + 1 ≤ d) {Rc : Nat → Nat → Int32 → Hp → Option (Unit × Hp)} (hR : ∀ (w : Nat) (a0 : Nat) (a1 : Int32) (h : Hp), GM rvV (I_grp_X5_atom w) dR [.ref a0, .int a1] h (Rc w a0 a1 h)) (l0 : Nat) (l1 : Int32) (s0 : Int32) (h : Hp) : G rvV I_X5_comparison d 35 [(0, .ref l0), (1, .int l1)] [.int s0] h (f_X5_comparison_35 F Rc l0 l1 s0 h) := by
  delta f_X5_comparison_35
  refine g_istore_n (lv' := [(2, .int s0), (0, .ref l0), (1, .int l1)]) dX5_comparison_35 (by decide) rfl ?_
  refine g_aload_n 1 dX5_comparison_36 rfl ?_
  refine g_getI fl_RX5_61 rfl dX5_comparison_37 (fun v5 => ?_)
  refine g_bipush (v := 61) dX5_comparison_40 (by decide) ?_
  refine g_icmp_eq (tgt := 63) dX5_comparison_42 (by decide) (fun c6 => ?_) (fun c6 => ?_)
  · refine G_lv [1, 2, 0] rfl ?_
    exact T_X5_comparison_63 F hd1 hdR hR l0 l1 s0 h
  · refine g_aload_n 1 dX5_comparison_45 rfl ?_
    refine g_getI fl_RX5_61 rfl dX5_comparison_46 (fun v14 => ?_)
    refine g_bipush (v := 60) dX5_comparison_49 (by decide) ?_
    refine g_icmp_eq (tgt := 63) dX5_comparison_51 (by decide) (fun c15 => ?_) (fun c15 => ?_)
    · refine G_lv [1, 2, 0] rfl ?_
      exact T_X5_comparison_63 F hd1 hdR hR l0 l1 s0 h
    · refine g_aload_n 1 dX5_comparison_54 rfl ?_
      refine g_getI fl_RX5_61 rfl dX5_comparison_55 (fun v16 => ?_)
      refine g_bipush (v := 62) dX5_comparison_58 (by decide) ?_
      refine g_icmp_ne (tgt := 83) dX5_comparison_60 (by decide) (fun c17 => ?_) (fun c17 => ?_)
      · refine G_lv [1, 2, 0] rfl ?_
        exact T_X5_comparison_63 F hd1 hdR hR l0 l1 s0 h
      · refine g_aload_n 1 dX5_comparison_83 rfl ?_
        refine g_iconst (v := 2) dX5_comparison_84 (by decide) ?_
        refine g_callVv (J := I_X5_fail) (t := 6) (As := [.int 2]) (rest := []) mjv_X5_fail ml_RX5_77 ⟨rfl, by decide, by decide⟩ (Nat.le_trans (by decide) hd1) rfl rfl (Nat.le_of_ble_eq_true rfl) dX5_comparison_85 (T_X5_fail F l0 2 h) (fun v18 h19 => ?_)
        exact g_vret rfl dX5_comparison_88
set_option maxRecDepth 100000 in
noncomputable def f_X5_comparison_w (F : Nat) (Rc : Nat → Nat → Int32 → Hp → Option (Unit × Hp)) (a0 : Nat) (a1 : Int32) (h : Hp) : Option (Unit × Hp) :=
  cV 6 h a0 (Rc 4 a0 a1 h) fun v1 h2 => gI 6 h2 a0 6 fun v3 => if v3 = 61 then (f_X5_comparison_35 F Rc a0 a1 9 h2) else (gI 6 h2 a0 6 fun v20 => if v20 = 60 then (f_X5_comparison_35 F Rc a0 a1 10 h2) else (f_X5_comparison_35 F Rc a0 a1 11 h2))
set_option maxRecDepth 100000 in
set_option maxHeartbeats 4000000 in
theorem T_X5_comparison_w (F : Nat) {d dR : Nat} (hd1 : 8 ≤ d) (hdR : dR + 1 ≤ d) {Rc : Nat → Nat → Int32 → Hp → Option (Unit × Hp)} (hR : ∀ (w : Nat) (a0 : Nat) (a1 : Int32) (h : Hp), GM rvV (I_grp_X5_atom w) dR [.ref a0, .int a1] h (Rc w a0 a1 h)) (a0 : Nat) (a1 : Int32) (h : Hp) : GM rvV I_X5_comparison d [.ref a0, .int a1] h (f_X5_comparison_w F Rc a0 a1 h) := by
  delta f_X5_comparison_w
  refine GM_of (lv := [(0, .ref a0), (1, .int a1)]) (by decide +kernel) (Nat.le_of_ble_eq_true rfl) rfl ?_
  refine g_aload_n 0 dX5_comparison_0 rfl ?_
  refine g_iload_n 1 dX5_comparison_1 rfl ?_
  refine g_callVv (J := I_X5_sum) (t := 6) (As := [.int a1]) (rest := []) mjv_X5_sum ml_RX5_157 ⟨rfl, by decide, by decide⟩ hdR rfl rfl (Nat.le_of_ble_eq_true rfl) dX5_comparison_2 (hR 4 a0 a1 h) (fun v1 h2 => ?_)
  refine g_aload_n 0 dX5_comparison_5 rfl ?_
  refine g_getI fl_RX5_61 rfl dX5_comparison_6 (fun v3 => ?_)
  refine g_bipush (v := 61) dX5_comparison_9 (by decide) ?_
  refine g_icmp_ne (tgt := 19) dX5_comparison_11 (by decide) (fun c4 => ?_) (fun c4 => ?_)
  · refine g_bipush (v := 9) dX5_comparison_14 (by decide) ?_
    refine g_goto (tgt := 35) dX5_comparison_16 (by decide) ?_
    refine G_lv [0, 1] rfl ?_
    exact T_X5_comparison_35 F hd1 hdR hR a0 a1 9 h2
  · refine g_aload_n 0 dX5_comparison_19 rfl ?_
    refine g_getI fl_RX5_61 rfl dX5_comparison_20 (fun v20 => ?_)
    refine g_bipush (v := 60) dX5_comparison_23 (by decide) ?_
    refine g_icmp_ne (tgt := 33) dX5_comparison_25 (by decide) (fun c21 => ?_) (fun c21 => ?_)
    · refine g_bipush (v := 10) dX5_comparison_28 (by decide) ?_
      refine g_goto (tgt := 35) dX5_comparison_30 (by decide) ?_
      refine G_lv [0, 1] rfl ?_
      exact T_X5_comparison_35 F hd1 hdR hR a0 a1 10 h2
    · refine g_bipush (v := 11) dX5_comparison_33 (by decide) ?_
      refine G_lv [0, 1] rfl ?_
      exact T_X5_comparison_35 F hd1 hdR hR a0 a1 11 h2
set_option maxRecDepth 100000 in
noncomputable def f_X5_sum_49 (F : Nat) (Rc : Nat → Nat → Int32 → Hp → Option (Unit × Hp)) (K7 : Nat → Int32 → Int32 → Hp → Option (Unit × Hp)) (l0 : Nat) (l1 : Int32) (l2 : Int32) (s0 : Int32) (h : Hp) : Option (Unit × Hp) :=
  cV 6 h l0 (f_X5_advance F l0 h) fun v9 h10 => cV 6 h10 l0 (Rc 5 l0 l1 h10) fun v11 h12 => gR 6 h12 l0 9 fun v13 => cV 4 h12 v13 (f_X3_add F v13 s0 h12) fun v14 h15 => K7 l0 l1 (l2 + 1) h15
set_option maxRecDepth 100000 in
set_option maxHeartbeats 4000000 in
theorem T_X5_sum_49 (F : Nat) {d dR : Nat} (hd1 : 8 ≤ d) (hdR : dR + 1 ≤ d) {Rc : Nat → Nat → Int32 → Hp → Option (Unit × Hp)} (hR : ∀ (w : Nat) (a0 : Nat) (a1 : Int32) (h : Hp), GM rvV (I_grp_X5_atom w) dR [.ref a0, .int a1] h (Rc w a0 a1 h)) {K7 : Nat → Int32 → Int32 → Hp → Option (Unit × Hp)} (hK7 : ∀ (l0 : Nat) (l1 : Int32) (l2 : Int32) (h : Hp), G rvV I_X5_sum d 7 [(0, .ref l0), (1, .int l1), (2, .int l2)] [] h (K7 l0 l1 l2 h)) (l0 : Nat) (l1 : Int32) (l2 : Int32) (s0 : Int32) (h : Hp) : G rvV I_X5_sum d 49 [(0, .ref l0), (1, .int l1), (2, .int l2)] [.int s0] h (f_X5_sum_49 F Rc K7 l0 l1 l2 s0 h) := by
  delta f_X5_sum_49
  refine g_istore_n (lv' := [(3, .int s0), (0, .ref l0), (1, .int l1), (2, .int l2)]) dX5_sum_49 (by decide) rfl ?_
  refine g_aload_n 1 dX5_sum_50 rfl ?_
  refine g_callVv (J := I_X5_advance) (t := 6) (As := []) (rest := []) mjv_X5_advance ml_RX5_51 ⟨rfl, by decide, by decide⟩ (Nat.le_trans (by decide) hd1) rfl rfl (Nat.le_of_ble_eq_true rfl) dX5_sum_51 (T_X5_advance F l0 h) (fun v9 h10 => ?_)
  refine g_aload_n 1 dX5_sum_54 rfl ?_
  refine g_iload_n 2 dX5_sum_55 rfl ?_
  refine g_callVv (J := I_X5_term) (t := 6) (As := [.int l1]) (rest := []) mjv_X5_term ml_RX5_163 ⟨rfl, by decide, by decide⟩ hdR rfl rfl (Nat.le_of_ble_eq_true rfl) dX5_sum_56 (hR 5 l0 l1 h10) (fun v11 h12 => ?_)
  refine g_aload_n 1 dX5_sum_59 rfl ?_
  refine g_getR fl_RX5_22 rfl dX5_sum_60 (fun v13 => ?_)
  refine g_iload_n 0 dX5_sum_63 rfl ?_
  refine g_callVv (J := I_X3_add) (t := 4) (As := [.int s0]) (rest := []) mjv_X3_add ml_RX5_166 ⟨rfl, by decide, by decide⟩ (Nat.le_trans (by decide) hd1) rfl rfl (Nat.le_of_ble_eq_true rfl) dX5_sum_64 (T_X3_add F v13 s0 h12) (fun v14 h15 => ?_)
  refine g_iinc (v' := l2 + 1) (lv' := [(2, .int (l2 + 1)), (3, .int s0), (0, .ref l0), (1, .int l1)]) 3 dX5_sum_67 rfl rfl (by decide) rfl ?_
  refine g_goto (tgt := 7) dX5_sum_70 (by decide) ?_
  refine G_lv [2, 3, 0] rfl ?_
  exact hK7 l0 l1 (l2 + 1) h15
set_option maxRecDepth 100000 in
noncomputable def f_X5_sum_33 (F : Nat) (Rc : Nat → Nat → Int32 → Hp → Option (Unit × Hp)) (K7 : Nat → Int32 → Int32 → Hp → Option (Unit × Hp)) (l0 : Nat) (l1 : Int32) (l2 : Int32) (h : Hp) : Option (Unit × Hp) :=
  gI 6 h l0 6 fun v7 => if v7 = 43 then (f_X5_sum_49 F Rc K7 l0 l1 l2 6 h) else (f_X5_sum_49 F Rc K7 l0 l1 l2 7 h)
set_option maxRecDepth 100000 in
set_option maxHeartbeats 4000000 in
theorem T_X5_sum_33 (F : Nat) {d dR : Nat} (hd1 : 8 ≤ d) (hdR : dR + 1 ≤ d) {Rc : Nat → Nat → Int32 → Hp → Option (Unit × Hp)} (hR : ∀ (w : Nat) (a0 : Nat) (a1 : Int32) (h : Hp), GM rvV (I_grp_X5_atom w) dR [.ref a0, .int a1] h (Rc w a0 a1 h)) {K7 : Nat → Int32 → Int32 → Hp → Option (Unit × Hp)} (hK7 : ∀ (l0 : Nat) (l1 : Int32) (l2 : Int32) (h : Hp), G rvV I_X5_sum d 7 [(0, .ref l0), (1, .int l1), (2, .int l2)] [] h (K7 l0 l1 l2 h)) (l0 : Nat) (l1 : Int32) (l2 : Int32) (h : Hp) : G rvV I_X5_sum d 33 [(0, .ref l0), (1, .int l1), (2, .int l2)] [] h (f_X5_sum_33 F Rc K7 l0 l1 l2 h) := by
  delta f_X5_sum_33
  refine g_aload_n 0 dX5_sum_33 rfl ?_
  refine g_getI fl_RX5_61 rfl dX5_sum_34 (fun v7 => ?_)
  refine g_bipush (v := 43) dX5_sum_37 (by decide) ?_
  refine g_icmp_ne (tgt := 47) dX5_sum_39 (by decide) (fun c8 => ?_) (fun c8 => ?_)
  · refine g_bipush (v := 6) dX5_sum_42 (by decide) ?_
    refine g_goto (tgt := 49) dX5_sum_44 (by decide) ?_
    refine G_lv [0, 1, 2] rfl ?_
    exact T_X5_sum_49 F hd1 hdR hR hK7 l0 l1 l2 6 h
  · refine g_bipush (v := 7) dX5_sum_47 (by decide) ?_
    refine G_lv [0, 1, 2] rfl ?_
    exact T_X5_sum_49 F hd1 hdR hR hK7 l0 l1 l2 7 h
set_option maxRecDepth 100000 in
noncomputable def f_X5_sum_7_b (F : Nat) (Rc : Nat → Nat → Int32 → Hp → Option (Unit × Hp)) (K7 : Nat → Int32 → Int32 → Hp → Option (Unit × Hp)) (l0 : Nat) (l1 : Int32) (l2 : Int32) (h : Hp) : Option (Unit × Hp) :=
  gI 6 h l0 3 fun v3 => if v3 ≤ l2 then (some ((), h)) else (gI 6 h l0 6 fun v5 => if v5 = 43 then (f_X5_sum_33 F Rc K7 l0 l1 l2 h) else (gI 6 h l0 6 fun v16 => if v16 = 45 then (f_X5_sum_33 F Rc K7 l0 l1 l2 h) else (some ((), h))))
set_option maxRecDepth 100000 in
set_option maxHeartbeats 4000000 in
theorem T_X5_sum_7_b (F : Nat) {d dR : Nat} (hd1 : 8 ≤ d) (hdR : dR + 1 ≤ d) {Rc : Nat → Nat → Int32 → Hp → Option (Unit × Hp)} (hR : ∀ (w : Nat) (a0 : Nat) (a1 : Int32) (h : Hp), GM rvV (I_grp_X5_atom w) dR [.ref a0, .int a1] h (Rc w a0 a1 h)) {K7 : Nat → Int32 → Int32 → Hp → Option (Unit × Hp)} (hK7 : ∀ (l0 : Nat) (l1 : Int32) (l2 : Int32) (h : Hp), G rvV I_X5_sum d 7 [(0, .ref l0), (1, .int l1), (2, .int l2)] [] h (K7 l0 l1 l2 h)) (l0 : Nat) (l1 : Int32) (l2 : Int32) (h : Hp) : G rvV I_X5_sum d 7 [(0, .ref l0), (1, .int l1), (2, .int l2)] [] h (f_X5_sum_7_b F Rc K7 l0 l1 l2 h) := by
  delta f_X5_sum_7_b
  refine g_iload_n 2 dX5_sum_7 rfl ?_
  refine g_aload_n 0 dX5_sum_8 rfl ?_
  refine g_getI fl_RX5_36 rfl dX5_sum_9 (fun v3 => ?_)
  refine g_icmp_ge (tgt := 73) dX5_sum_12 (by decide) (fun c4 => ?_) (fun c4 => ?_)
  · exact g_vret rfl dX5_sum_73
  · refine g_aload_n 0 dX5_sum_15 rfl ?_
    refine g_getI fl_RX5_61 rfl dX5_sum_16 (fun v5 => ?_)
    refine g_bipush (v := 43) dX5_sum_19 (by decide) ?_
    refine g_icmp_eq (tgt := 33) dX5_sum_21 (by decide) (fun c6 => ?_) (fun c6 => ?_)
    · refine G_lv [0, 1, 2] rfl ?_
      exact T_X5_sum_33 F hd1 hdR hR hK7 l0 l1 l2 h
    · refine g_aload_n 0 dX5_sum_24 rfl ?_
      refine g_getI fl_RX5_61 rfl dX5_sum_25 (fun v16 => ?_)
      refine g_bipush (v := 45) dX5_sum_28 (by decide) ?_
      refine g_icmp_ne (tgt := 73) dX5_sum_30 (by decide) (fun c17 => ?_) (fun c17 => ?_)
      · refine G_lv [0, 1, 2] rfl ?_
        exact T_X5_sum_33 F hd1 hdR hR hK7 l0 l1 l2 h
      · exact g_vret rfl dX5_sum_73
set_option maxRecDepth 100000 in
noncomputable def f_X5_sum_7 (F : Nat) (Rc : Nat → Nat → Int32 → Hp → Option (Unit × Hp)) : Nat → Nat → Int32 → Int32 → Hp → Option (Unit × Hp)
  | 0, _, _, _, _ => none
  | n + 1, l0, l1, l2, h => f_X5_sum_7_b F Rc (f_X5_sum_7 F Rc n) l0 l1 l2 h
set_option maxRecDepth 100000 in
set_option maxHeartbeats 4000000 in
theorem T_X5_sum_7 (F : Nat) {d dR : Nat} (hd1 : 8 ≤ d) (hdR : dR + 1 ≤ d) {Rc : Nat → Nat → Int32 → Hp → Option (Unit × Hp)} (hR : ∀ (w : Nat) (a0 : Nat) (a1 : Int32) (h : Hp), GM rvV (I_grp_X5_atom w) dR [.ref a0, .int a1] h (Rc w a0 a1 h)) : ∀ (n : Nat) (l0 : Nat) (l1 : Int32) (l2 : Int32) (h : Hp), G rvV I_X5_sum d 7 [(0, .ref l0), (1, .int l1), (2, .int l2)] [] h (f_X5_sum_7 F Rc n l0 l1 l2 h) := by
  intro n
  induction n with
  | zero => intros; exact G_none
  | succ n ih => intro l0 l1 l2 h; exact T_X5_sum_7_b F hd1 hdR hR ih l0 l1 l2 h
set_option maxRecDepth 100000 in
noncomputable def f_X5_sum_w (F : Nat) (Rc : Nat → Nat → Int32 → Hp → Option (Unit × Hp)) (a0 : Nat) (a1 : Int32) (h : Hp) : Option (Unit × Hp) :=
  cV 6 h a0 (Rc 5 a0 a1 h) fun v1 h2 => f_X5_sum_7 F Rc F a0 a1 0 h2
set_option maxRecDepth 100000 in
set_option maxHeartbeats 4000000 in
theorem T_X5_sum_w (F : Nat) {d dR : Nat} (hd1 : 8 ≤ d) (hdR : dR + 1 ≤ d) {Rc : Nat → Nat → Int32 → Hp → Option (Unit × Hp)} (hR : ∀ (w : Nat) (a0 : Nat) (a1 : Int32) (h : Hp), GM rvV (I_grp_X5_atom w) dR [.ref a0, .int a1] h (Rc w a0 a1 h)) (a0 : Nat) (a1 : Int32) (h : Hp) : GM rvV I_X5_sum d [.ref a0, .int a1] h (f_X5_sum_w F Rc a0 a1 h) := by
  delta f_X5_sum_w
  refine GM_of (lv := [(0, .ref a0), (1, .int a1)]) (by decide +kernel) (Nat.le_of_ble_eq_true rfl) rfl ?_
  refine g_aload_n 0 dX5_sum_0 rfl ?_
  refine g_iload_n 1 dX5_sum_1 rfl ?_
  refine g_callVv (J := I_X5_term) (t := 6) (As := [.int a1]) (rest := []) mjv_X5_term ml_RX5_163 ⟨rfl, by decide, by decide⟩ hdR rfl rfl (Nat.le_of_ble_eq_true rfl) dX5_sum_2 (hR 5 a0 a1 h) (fun v1 h2 => ?_)
  refine g_iconst (v := 0) dX5_sum_5 (by decide) ?_
  refine g_istore_n (lv' := [(2, .int 0), (0, .ref a0), (1, .int a1)]) dX5_sum_6 (by decide) rfl ?_
  refine G_lv [1, 2, 0] rfl ?_
  exact T_X5_sum_7 F hd1 hdR hR F a0 a1 0 h2
set_option maxRecDepth 100000 in
noncomputable def f_X5_term_7_b (F : Nat) (Rc : Nat → Nat → Int32 → Hp → Option (Unit × Hp)) (K7 : Nat → Int32 → Int32 → Hp → Option (Unit × Hp)) (l0 : Nat) (l1 : Int32) (l2 : Int32) (h : Hp) : Option (Unit × Hp) :=
  gI 6 h l0 3 fun v3 => if v3 ≤ l2 then (some ((), h)) else (gI 6 h l0 6 fun v5 => if v5 = 42 then (cV 6 h l0 (f_X5_advance F l0 h) fun v7 h8 => cV 6 h8 l0 (Rc 0 l0 l1 h8) fun v9 h10 => gR 6 h10 l0 9 fun v11 => cV 4 h10 v11 (f_X3_add F v11 8 h10) fun v12 h13 => K7 l0 l1 (l2 + 1) h13) else (some ((), h)))
set_option maxRecDepth 100000 in
set_option maxHeartbeats 4000000 in
theorem T_X5_term_7_b (F : Nat) {d dR : Nat} (hd1 : 8 ≤ d) (hdR : dR + 1 ≤ d) {Rc : Nat → Nat → Int32 → Hp → Option (Unit × Hp)} (hR : ∀ (w : Nat) (a0 : Nat) (a1 : Int32) (h : Hp), GM rvV (I_grp_X5_atom w) dR [.ref a0, .int a1] h (Rc w a0 a1 h)) {K7 : Nat → Int32 → Int32 → Hp → Option (Unit × Hp)} (hK7 : ∀ (l0 : Nat) (l1 : Int32) (l2 : Int32) (h : Hp), G rvV I_X5_term d 7 [(0, .ref l0), (1, .int l1), (2, .int l2)] [] h (K7 l0 l1 l2 h)) (l0 : Nat) (l1 : Int32) (l2 : Int32) (h : Hp) : G rvV I_X5_term d 7 [(0, .ref l0), (1, .int l1), (2, .int l2)] [] h (f_X5_term_7_b F Rc K7 l0 l1 l2 h) := by
  delta f_X5_term_7_b
  refine g_iload_n 2 dX5_term_7 rfl ?_
  refine g_aload_n 0 dX5_term_8 rfl ?_
  refine g_getI fl_RX5_36 rfl dX5_term_9 (fun v3 => ?_)
  refine g_icmp_ge (tgt := 48) dX5_term_12 (by decide) (fun c4 => ?_) (fun c4 => ?_)
  · exact g_vret rfl dX5_term_48
  · refine g_aload_n 0 dX5_term_15 rfl ?_
    refine g_getI fl_RX5_61 rfl dX5_term_16 (fun v5 => ?_)
    refine g_bipush (v := 42) dX5_term_19 (by decide) ?_
    refine g_icmp_ne (tgt := 48) dX5_term_21 (by decide) (fun c6 => ?_) (fun c6 => ?_)
    · refine g_aload_n 0 dX5_term_24 rfl ?_
      refine g_callVv (J := I_X5_advance) (t := 6) (As := []) (rest := []) mjv_X5_advance ml_RX5_51 ⟨rfl, by decide, by decide⟩ (Nat.le_trans (by decide) hd1) rfl rfl (Nat.le_of_ble_eq_true rfl) dX5_term_25 (T_X5_advance F l0 h) (fun v7 h8 => ?_)
      refine g_aload_n 0 dX5_term_28 rfl ?_
      refine g_iload_n 1 dX5_term_29 rfl ?_
      refine g_callVv (J := I_X5_atom) (t := 6) (As := [.int l1]) (rest := []) mjv_X5_atom ml_RX5_169 ⟨rfl, by decide, by decide⟩ hdR rfl rfl (Nat.le_of_ble_eq_true rfl) dX5_term_30 (hR 0 l0 l1 h8) (fun v9 h10 => ?_)
      refine g_aload_n 0 dX5_term_33 rfl ?_
      refine g_getR fl_RX5_22 rfl dX5_term_34 (fun v11 => ?_)
      refine g_bipush (v := 8) dX5_term_37 (by decide) ?_
      refine g_callVv (J := I_X3_add) (t := 4) (As := [.int 8]) (rest := []) mjv_X3_add ml_RX5_166 ⟨rfl, by decide, by decide⟩ (Nat.le_trans (by decide) hd1) rfl rfl (Nat.le_of_ble_eq_true rfl) dX5_term_39 (T_X3_add F v11 8 h10) (fun v12 h13 => ?_)
      refine g_iinc (v' := l2 + 1) (lv' := [(2, .int (l2 + 1)), (0, .ref l0), (1, .int l1)]) 2 dX5_term_42 rfl rfl (by decide) rfl ?_
      refine g_goto (tgt := 7) dX5_term_45 (by decide) ?_
      refine G_lv [1, 2, 0] rfl ?_
      exact hK7 l0 l1 (l2 + 1) h13
    · exact g_vret rfl dX5_term_48
set_option maxRecDepth 100000 in
noncomputable def f_X5_term_7 (F : Nat) (Rc : Nat → Nat → Int32 → Hp → Option (Unit × Hp)) : Nat → Nat → Int32 → Int32 → Hp → Option (Unit × Hp)
  | 0, _, _, _, _ => none
  | n + 1, l0, l1, l2, h => f_X5_term_7_b F Rc (f_X5_term_7 F Rc n) l0 l1 l2 h
set_option maxRecDepth 100000 in
set_option maxHeartbeats 4000000 in
theorem T_X5_term_7 (F : Nat) {d dR : Nat} (hd1 : 8 ≤ d) (hdR : dR + 1 ≤ d) {Rc : Nat → Nat → Int32 → Hp → Option (Unit × Hp)} (hR : ∀ (w : Nat) (a0 : Nat) (a1 : Int32) (h : Hp), GM rvV (I_grp_X5_atom w) dR [.ref a0, .int a1] h (Rc w a0 a1 h)) : ∀ (n : Nat) (l0 : Nat) (l1 : Int32) (l2 : Int32) (h : Hp), G rvV I_X5_term d 7 [(0, .ref l0), (1, .int l1), (2, .int l2)] [] h (f_X5_term_7 F Rc n l0 l1 l2 h) := by
  intro n
  induction n with
  | zero => intros; exact G_none
  | succ n ih => intro l0 l1 l2 h; exact T_X5_term_7_b F hd1 hdR hR ih l0 l1 l2 h
set_option maxRecDepth 100000 in
noncomputable def f_X5_term_w (F : Nat) (Rc : Nat → Nat → Int32 → Hp → Option (Unit × Hp)) (a0 : Nat) (a1 : Int32) (h : Hp) : Option (Unit × Hp) :=
  cV 6 h a0 (Rc 0 a0 a1 h) fun v1 h2 => f_X5_term_7 F Rc F a0 a1 0 h2
set_option maxRecDepth 100000 in
set_option maxHeartbeats 4000000 in
theorem T_X5_term_w (F : Nat) {d dR : Nat} (hd1 : 8 ≤ d) (hdR : dR + 1 ≤ d) {Rc : Nat → Nat → Int32 → Hp → Option (Unit × Hp)} (hR : ∀ (w : Nat) (a0 : Nat) (a1 : Int32) (h : Hp), GM rvV (I_grp_X5_atom w) dR [.ref a0, .int a1] h (Rc w a0 a1 h)) (a0 : Nat) (a1 : Int32) (h : Hp) : GM rvV I_X5_term d [.ref a0, .int a1] h (f_X5_term_w F Rc a0 a1 h) := by
  delta f_X5_term_w
  refine GM_of (lv := [(0, .ref a0), (1, .int a1)]) (by decide +kernel) (Nat.le_of_ble_eq_true rfl) rfl ?_
  refine g_aload_n 0 dX5_term_0 rfl ?_
  refine g_iload_n 1 dX5_term_1 rfl ?_
  refine g_callVv (J := I_X5_atom) (t := 6) (As := [.int a1]) (rest := []) mjv_X5_atom ml_RX5_169 ⟨rfl, by decide, by decide⟩ hdR rfl rfl (Nat.le_of_ble_eq_true rfl) dX5_term_2 (hR 0 a0 a1 h) (fun v1 h2 => ?_)
  refine g_iconst (v := 0) dX5_term_5 (by decide) ?_
  refine g_istore_n (lv' := [(2, .int 0), (0, .ref a0), (1, .int a1)]) dX5_term_6 (by decide) rfl ?_
  refine G_lv [1, 2, 0] rfl ?_
  exact T_X5_term_7 F hd1 hdR hR F a0 a1 0 h2
set_option maxRecDepth 100000 in
noncomputable def f_X5_truth_7_b (F : Nat) (Rc : Nat → Nat → Int32 → Hp → Option (Unit × Hp)) (K7 : Nat → Int32 → Int32 → Hp → Option (Unit × Hp)) (l0 : Nat) (l1 : Int32) (l2 : Int32) (h : Hp) : Option (Unit × Hp) :=
  gI 6 h l0 3 fun v3 => if v3 ≤ l2 then (some ((), h)) else (gI 6 h l0 6 fun v5 => if v5 = 218 then (cV 6 h l0 (f_X5_advance F l0 h) fun v7 h8 => cV 6 h8 l0 (Rc 1 l0 l1 h8) fun v9 h10 => gR 6 h10 l0 9 fun v11 => cV 4 h10 v11 (f_X3_add F v11 13 h10) fun v12 h13 => K7 l0 l1 (l2 + 1) h13) else (some ((), h)))
set_option maxRecDepth 100000 in
set_option maxHeartbeats 4000000 in
theorem T_X5_truth_7_b (F : Nat) {d dR : Nat} (hd1 : 8 ≤ d) (hdR : dR + 1 ≤ d) {Rc : Nat → Nat → Int32 → Hp → Option (Unit × Hp)} (hR : ∀ (w : Nat) (a0 : Nat) (a1 : Int32) (h : Hp), GM rvV (I_grp_X5_atom w) dR [.ref a0, .int a1] h (Rc w a0 a1 h)) {K7 : Nat → Int32 → Int32 → Hp → Option (Unit × Hp)} (hK7 : ∀ (l0 : Nat) (l1 : Int32) (l2 : Int32) (h : Hp), G rvV I_X5_truth d 7 [(0, .ref l0), (1, .int l1), (2, .int l2)] [] h (K7 l0 l1 l2 h)) (l0 : Nat) (l1 : Int32) (l2 : Int32) (h : Hp) : G rvV I_X5_truth d 7 [(0, .ref l0), (1, .int l1), (2, .int l2)] [] h (f_X5_truth_7_b F Rc K7 l0 l1 l2 h) := by
  delta f_X5_truth_7_b
  refine g_iload_n 2 dX5_truth_7 rfl ?_
  refine g_aload_n 0 dX5_truth_8 rfl ?_
  refine g_getI fl_RX5_36 rfl dX5_truth_9 (fun v3 => ?_)
  refine g_icmp_ge (tgt := 49) dX5_truth_12 (by decide) (fun c4 => ?_) (fun c4 => ?_)
  · exact g_vret rfl dX5_truth_49
  · refine g_aload_n 0 dX5_truth_15 rfl ?_
    refine g_getI fl_RX5_61 rfl dX5_truth_16 (fun v5 => ?_)
    refine g_sipush (v := 218) dX5_truth_19 (by decide) ?_
    refine g_icmp_ne (tgt := 49) dX5_truth_22 (by decide) (fun c6 => ?_) (fun c6 => ?_)
    · refine g_aload_n 0 dX5_truth_25 rfl ?_
      refine g_callVv (J := I_X5_advance) (t := 6) (As := []) (rest := []) mjv_X5_advance ml_RX5_51 ⟨rfl, by decide, by decide⟩ (Nat.le_trans (by decide) hd1) rfl rfl (Nat.le_of_ble_eq_true rfl) dX5_truth_26 (T_X5_advance F l0 h) (fun v7 h8 => ?_)
      refine g_aload_n 0 dX5_truth_29 rfl ?_
      refine g_iload_n 1 dX5_truth_30 rfl ?_
      refine g_callVv (J := I_X5_both) (t := 6) (As := [.int l1]) (rest := []) mjv_X5_both ml_RX5_182 ⟨rfl, by decide, by decide⟩ hdR rfl rfl (Nat.le_of_ble_eq_true rfl) dX5_truth_31 (hR 1 l0 l1 h8) (fun v9 h10 => ?_)
      refine g_aload_n 0 dX5_truth_34 rfl ?_
      refine g_getR fl_RX5_22 rfl dX5_truth_35 (fun v11 => ?_)
      refine g_bipush (v := 13) dX5_truth_38 (by decide) ?_
      refine g_callVv (J := I_X3_add) (t := 4) (As := [.int 13]) (rest := []) mjv_X3_add ml_RX5_166 ⟨rfl, by decide, by decide⟩ (Nat.le_trans (by decide) hd1) rfl rfl (Nat.le_of_ble_eq_true rfl) dX5_truth_40 (T_X3_add F v11 13 h10) (fun v12 h13 => ?_)
      refine g_iinc (v' := l2 + 1) (lv' := [(2, .int (l2 + 1)), (0, .ref l0), (1, .int l1)]) 2 dX5_truth_43 rfl rfl (by decide) rfl ?_
      refine g_goto (tgt := 7) dX5_truth_46 (by decide) ?_
      refine G_lv [1, 2, 0] rfl ?_
      exact hK7 l0 l1 (l2 + 1) h13
    · exact g_vret rfl dX5_truth_49
set_option maxRecDepth 100000 in
noncomputable def f_X5_truth_7 (F : Nat) (Rc : Nat → Nat → Int32 → Hp → Option (Unit × Hp)) : Nat → Nat → Int32 → Int32 → Hp → Option (Unit × Hp)
  | 0, _, _, _, _ => none
  | n + 1, l0, l1, l2, h => f_X5_truth_7_b F Rc (f_X5_truth_7 F Rc n) l0 l1 l2 h
set_option maxRecDepth 100000 in
set_option maxHeartbeats 4000000 in
theorem T_X5_truth_7 (F : Nat) {d dR : Nat} (hd1 : 8 ≤ d) (hdR : dR + 1 ≤ d) {Rc : Nat → Nat → Int32 → Hp → Option (Unit × Hp)} (hR : ∀ (w : Nat) (a0 : Nat) (a1 : Int32) (h : Hp), GM rvV (I_grp_X5_atom w) dR [.ref a0, .int a1] h (Rc w a0 a1 h)) : ∀ (n : Nat) (l0 : Nat) (l1 : Int32) (l2 : Int32) (h : Hp), G rvV I_X5_truth d 7 [(0, .ref l0), (1, .int l1), (2, .int l2)] [] h (f_X5_truth_7 F Rc n l0 l1 l2 h) := by
  intro n
  induction n with
  | zero => intros; exact G_none
  | succ n ih => intro l0 l1 l2 h; exact T_X5_truth_7_b F hd1 hdR hR ih l0 l1 l2 h
set_option maxRecDepth 100000 in
noncomputable def f_X5_truth_w (F : Nat) (Rc : Nat → Nat → Int32 → Hp → Option (Unit × Hp)) (a0 : Nat) (a1 : Int32) (h : Hp) : Option (Unit × Hp) :=
  cV 6 h a0 (Rc 1 a0 a1 h) fun v1 h2 => f_X5_truth_7 F Rc F a0 a1 0 h2
set_option maxRecDepth 100000 in
set_option maxHeartbeats 4000000 in
theorem T_X5_truth_w (F : Nat) {d dR : Nat} (hd1 : 8 ≤ d) (hdR : dR + 1 ≤ d) {Rc : Nat → Nat → Int32 → Hp → Option (Unit × Hp)} (hR : ∀ (w : Nat) (a0 : Nat) (a1 : Int32) (h : Hp), GM rvV (I_grp_X5_atom w) dR [.ref a0, .int a1] h (Rc w a0 a1 h)) (a0 : Nat) (a1 : Int32) (h : Hp) : GM rvV I_X5_truth d [.ref a0, .int a1] h (f_X5_truth_w F Rc a0 a1 h) := by
  delta f_X5_truth_w
  refine GM_of (lv := [(0, .ref a0), (1, .int a1)]) (by decide +kernel) (Nat.le_of_ble_eq_true rfl) rfl ?_
  refine g_aload_n 0 dX5_truth_0 rfl ?_
  refine g_iload_n 1 dX5_truth_1 rfl ?_
  refine g_callVv (J := I_X5_both) (t := 6) (As := [.int a1]) (rest := []) mjv_X5_both ml_RX5_182 ⟨rfl, by decide, by decide⟩ hdR rfl rfl (Nat.le_of_ble_eq_true rfl) dX5_truth_2 (hR 1 a0 a1 h) (fun v1 h2 => ?_)
  refine g_iconst (v := 0) dX5_truth_5 (by decide) ?_
  refine g_istore_n (lv' := [(2, .int 0), (0, .ref a0), (1, .int a1)]) dX5_truth_6 (by decide) rfl ?_
  refine G_lv [1, 2, 0] rfl ?_
  exact T_X5_truth_7 F hd1 hdR hR F a0 a1 0 h2
set_option maxRecDepth 100000 in
noncomputable def f_X5_unit_w (F : Nat) (Rc : Nat → Nat → Int32 → Hp → Option (Unit × Hp)) (a0 : Nat) (a1 : Int32) (h : Hp) : Option (Unit × Hp) :=
  gI 6 h a0 6 fun v1 => if v1 = 220 then (cV 6 h a0 (f_X5_opens F a0 a1 h) fun v3 h4 => if v3 = 0 then (some ((), h4)) else (cV 6 h4 a0 (Rc 7 a0 (a1 + 1) h4) fun v6 h7 => gR 6 h7 a0 9 fun v8 => cV 4 h7 v8 (f_X3_add F v8 14 h7) fun v9 h10 => some ((), h10))) else (gI 6 h a0 6 fun v11 => if v11 = 91 then (cV 6 h a0 (f_X5_opens F a0 a1 h) fun v13 h14 => if v13 = 0 then (some ((), h14)) else (cV 6 h14 a0 (Rc 6 a0 (a1 + 1) h14) fun v16 h17 => cV 6 h17 a0 (f_X5_take F a0 93 h17) fun v18 h19 => some ((), h19))) else (cV 6 h a0 (Rc 3 a0 a1 h) fun v20 h21 => some ((), h21)))
set_option maxRecDepth 100000 in
set_option maxHeartbeats 4000000 in
theorem T_X5_unit_w (F : Nat) {d dR : Nat} (hd1 : 8 ≤ d) (hdR : dR + 1 ≤ d) {Rc : Nat → Nat → Int32 → Hp → Option (Unit × Hp)} (hR : ∀ (w : Nat) (a0 : Nat) (a1 : Int32) (h : Hp), GM rvV (I_grp_X5_atom w) dR [.ref a0, .int a1] h (Rc w a0 a1 h)) (a0 : Nat) (a1 : Int32) (h : Hp) : GM rvV I_X5_unit d [.ref a0, .int a1] h (f_X5_unit_w F Rc a0 a1 h) := by
  delta f_X5_unit_w
  refine GM_of (lv := [(0, .ref a0), (1, .int a1)]) (by decide +kernel) (Nat.le_of_ble_eq_true rfl) rfl ?_
  refine g_aload_n 0 dX5_unit_0 rfl ?_
  refine g_getI fl_RX5_61 rfl dX5_unit_1 (fun v1 => ?_)
  refine g_sipush (v := 220) dX5_unit_4 (by decide) ?_
  refine g_icmp_ne (tgt := 37) dX5_unit_7 (by decide) (fun c2 => ?_) (fun c2 => ?_)
  · refine g_aload_n 0 dX5_unit_10 rfl ?_
    refine g_iload_n 1 dX5_unit_11 rfl ?_
    refine g_callVi (J := I_X5_opens) (t := 6) (As := [.int a1]) (rest := []) mjv_X5_opens ml_RX5_172 ⟨rfl, by decide, by decide⟩ (Nat.le_trans (by decide) hd1) rfl rfl (Nat.le_of_ble_eq_true rfl) dX5_unit_12 (T_X5_opens F a0 a1 h) (fun v3 h4 => ?_)
    refine g_if_eq (tgt := 75) dX5_unit_15 (by decide) (fun c5 => ?_) (fun c5 => ?_)
    · exact g_vret rfl dX5_unit_75
    · refine g_aload_n 0 dX5_unit_18 rfl ?_
      refine g_iload_n 1 dX5_unit_19 rfl ?_
      refine g_iconst (v := 1) dX5_unit_20 (by decide) ?_
      refine g_iadd dX5_unit_21 ?_
      refine g_callVv (J := I_X5_unit) (t := 6) (As := [.int (a1 + 1)]) (rest := []) mjv_X5_unit ml_RX5_185 ⟨rfl, by decide, by decide⟩ hdR rfl rfl (Nat.le_of_ble_eq_true rfl) dX5_unit_22 (hR 7 a0 (a1 + 1) h4) (fun v6 h7 => ?_)
      refine g_aload_n 0 dX5_unit_25 rfl ?_
      refine g_getR fl_RX5_22 rfl dX5_unit_26 (fun v8 => ?_)
      refine g_bipush (v := 14) dX5_unit_29 (by decide) ?_
      refine g_callVv (J := I_X3_add) (t := 4) (As := [.int 14]) (rest := []) mjv_X3_add ml_RX5_166 ⟨rfl, by decide, by decide⟩ (Nat.le_trans (by decide) hd1) rfl rfl (Nat.le_of_ble_eq_true rfl) dX5_unit_31 (T_X3_add F v8 14 h7) (fun v9 h10 => ?_)
      refine g_goto (tgt := 75) dX5_unit_34 (by decide) ?_
      exact g_vret rfl dX5_unit_75
  · refine g_aload_n 0 dX5_unit_37 rfl ?_
    refine g_getI fl_RX5_61 rfl dX5_unit_38 (fun v11 => ?_)
    refine g_bipush (v := 91) dX5_unit_41 (by decide) ?_
    refine g_icmp_ne (tgt := 70) dX5_unit_43 (by decide) (fun c12 => ?_) (fun c12 => ?_)
    · refine g_aload_n 0 dX5_unit_46 rfl ?_
      refine g_iload_n 1 dX5_unit_47 rfl ?_
      refine g_callVi (J := I_X5_opens) (t := 6) (As := [.int a1]) (rest := []) mjv_X5_opens ml_RX5_172 ⟨rfl, by decide, by decide⟩ (Nat.le_trans (by decide) hd1) rfl rfl (Nat.le_of_ble_eq_true rfl) dX5_unit_48 (T_X5_opens F a0 a1 h) (fun v13 h14 => ?_)
      refine g_if_eq (tgt := 75) dX5_unit_51 (by decide) (fun c15 => ?_) (fun c15 => ?_)
      · exact g_vret rfl dX5_unit_75
      · refine g_aload_n 0 dX5_unit_54 rfl ?_
        refine g_iload_n 1 dX5_unit_55 rfl ?_
        refine g_iconst (v := 1) dX5_unit_56 (by decide) ?_
        refine g_iadd dX5_unit_57 ?_
        refine g_callVv (J := I_X5_truth) (t := 6) (As := [.int (a1 + 1)]) (rest := []) mjv_X5_truth ml_RX5_151 ⟨rfl, by decide, by decide⟩ hdR rfl rfl (Nat.le_of_ble_eq_true rfl) dX5_unit_58 (hR 6 a0 (a1 + 1) h14) (fun v16 h17 => ?_)
        refine g_aload_n 0 dX5_unit_61 rfl ?_
        refine g_bipush (v := 93) dX5_unit_62 (by decide) ?_
        refine g_callVv (J := I_X5_take) (t := 6) (As := [.int 93]) (rest := []) mjv_X5_take ml_RX5_54 ⟨rfl, by decide, by decide⟩ (Nat.le_trans (by decide) hd1) rfl rfl (Nat.le_of_ble_eq_true rfl) dX5_unit_64 (T_X5_take F a0 93 h17) (fun v18 h19 => ?_)
        refine g_goto (tgt := 75) dX5_unit_67 (by decide) ?_
        exact g_vret rfl dX5_unit_75
    · refine g_aload_n 0 dX5_unit_70 rfl ?_
      refine g_iload_n 1 dX5_unit_71 rfl ?_
      refine g_callVv (J := I_X5_comparison) (t := 6) (As := [.int a1]) (rest := []) mjv_X5_comparison ml_RX5_188 ⟨rfl, by decide, by decide⟩ hdR rfl rfl (Nat.le_of_ble_eq_true rfl) dX5_unit_72 (hR 3 a0 a1 h) (fun v20 h21 => ?_)
      exact g_vret rfl dX5_unit_75
set_option maxRecDepth 100000 in
noncomputable def f_grp_X5_atom (F : Nat) : Nat → Nat → Nat → Int32 → Hp → Option (Unit × Hp)
  | 0, _, _, _, _ => none
  | D + 1, w, a0, a1, h => if w = 0 then f_X5_atom_w F (f_grp_X5_atom F D) a0 a1 h else if w = 1 then f_X5_both_w F (f_grp_X5_atom F D) a0 a1 h else if w = 2 then f_X5_choice_w F (f_grp_X5_atom F D) a0 a1 h else if w = 3 then f_X5_comparison_w F (f_grp_X5_atom F D) a0 a1 h else if w = 4 then f_X5_sum_w F (f_grp_X5_atom F D) a0 a1 h else if w = 5 then f_X5_term_w F (f_grp_X5_atom F D) a0 a1 h else if w = 6 then f_X5_truth_w F (f_grp_X5_atom F D) a0 a1 h else f_X5_unit_w F (f_grp_X5_atom F D) a0 a1 h
set_option maxRecDepth 100000 in
set_option maxHeartbeats 4000000 in
theorem T_grp_X5_atom (F : Nat) : ∀ (D w : Nat) (a0 : Nat) (a1 : Int32) (h : Hp), GM rvV (I_grp_X5_atom w) (8 + D) [.ref a0, .int a1] h (f_grp_X5_atom F D w a0 a1 h) := by
  intro D
  induction D with
  | zero => intros; exact fun x hx => by cases hx
  | succ D ih =>
    intro w a0 a1 h
    show GM _ (I_grp_X5_atom w) _ _ _ (if w = 0 then f_X5_atom_w F (f_grp_X5_atom F D) a0 a1 h else if w = 1 then f_X5_both_w F (f_grp_X5_atom F D) a0 a1 h else if w = 2 then f_X5_choice_w F (f_grp_X5_atom F D) a0 a1 h else if w = 3 then f_X5_comparison_w F (f_grp_X5_atom F D) a0 a1 h else if w = 4 then f_X5_sum_w F (f_grp_X5_atom F D) a0 a1 h else if w = 5 then f_X5_term_w F (f_grp_X5_atom F D) a0 a1 h else if w = 6 then f_X5_truth_w F (f_grp_X5_atom F D) a0 a1 h else f_X5_unit_w F (f_grp_X5_atom F D) a0 a1 h)
    unfold I_grp_X5_atom
    by_cases e0 : w = 0
    · rw [if_pos e0, if_pos e0]; exact T_X5_atom_w F (by omega) (by omega) ih a0 a1 h
    rw [if_neg e0, if_neg e0]
    by_cases e1 : w = 1
    · rw [if_pos e1, if_pos e1]; exact T_X5_both_w F (by omega) (by omega) ih a0 a1 h
    rw [if_neg e1, if_neg e1]
    by_cases e2 : w = 2
    · rw [if_pos e2, if_pos e2]; exact T_X5_choice_w F (by omega) (by omega) ih a0 a1 h
    rw [if_neg e2, if_neg e2]
    by_cases e3 : w = 3
    · rw [if_pos e3, if_pos e3]; exact T_X5_comparison_w F (by omega) (by omega) ih a0 a1 h
    rw [if_neg e3, if_neg e3]
    by_cases e4 : w = 4
    · rw [if_pos e4, if_pos e4]; exact T_X5_sum_w F (by omega) (by omega) ih a0 a1 h
    rw [if_neg e4, if_neg e4]
    by_cases e5 : w = 5
    · rw [if_pos e5, if_pos e5]; exact T_X5_term_w F (by omega) (by omega) ih a0 a1 h
    rw [if_neg e5, if_neg e5]
    by_cases e6 : w = 6
    · rw [if_pos e6, if_pos e6]; exact T_X5_truth_w F (by omega) (by omega) ih a0 a1 h
    rw [if_neg e6, if_neg e6]
    exact T_X5_unit_w F (by omega) (by omega) ih a0 a1 h
set_option maxRecDepth 100000 in
noncomputable def f_X5_atom (F : Nat) (a0 : Nat) (a1 : Int32) (h : Hp) : Option (Unit × Hp) := f_grp_X5_atom F 64 0 a0 a1 h
set_option maxRecDepth 100000 in
set_option maxHeartbeats 4000000 in
theorem T_X5_atom (F : Nat) (a0 : Nat) (a1 : Int32) (h : Hp) : GM rvV I_X5_atom 72 [.ref a0, .int a1] h (f_X5_atom F a0 a1 h) := T_grp_X5_atom F 64 0 a0 a1 h
set_option maxRecDepth 100000 in
noncomputable def f_X5_both (F : Nat) (a0 : Nat) (a1 : Int32) (h : Hp) : Option (Unit × Hp) := f_grp_X5_atom F 64 1 a0 a1 h
set_option maxRecDepth 100000 in
set_option maxHeartbeats 4000000 in
theorem T_X5_both (F : Nat) (a0 : Nat) (a1 : Int32) (h : Hp) : GM rvV I_X5_both 72 [.ref a0, .int a1] h (f_X5_both F a0 a1 h) := T_grp_X5_atom F 64 1 a0 a1 h
set_option maxRecDepth 100000 in
noncomputable def f_X5_choice (F : Nat) (a0 : Nat) (a1 : Int32) (h : Hp) : Option (Unit × Hp) := f_grp_X5_atom F 64 2 a0 a1 h
set_option maxRecDepth 100000 in
set_option maxHeartbeats 4000000 in
theorem T_X5_choice (F : Nat) (a0 : Nat) (a1 : Int32) (h : Hp) : GM rvV I_X5_choice 72 [.ref a0, .int a1] h (f_X5_choice F a0 a1 h) := T_grp_X5_atom F 64 2 a0 a1 h
set_option maxRecDepth 100000 in
noncomputable def f_X5_comparison (F : Nat) (a0 : Nat) (a1 : Int32) (h : Hp) : Option (Unit × Hp) := f_grp_X5_atom F 64 3 a0 a1 h
set_option maxRecDepth 100000 in
set_option maxHeartbeats 4000000 in
theorem T_X5_comparison (F : Nat) (a0 : Nat) (a1 : Int32) (h : Hp) : GM rvV I_X5_comparison 72 [.ref a0, .int a1] h (f_X5_comparison F a0 a1 h) := T_grp_X5_atom F 64 3 a0 a1 h
set_option maxRecDepth 100000 in
noncomputable def f_X5_sum (F : Nat) (a0 : Nat) (a1 : Int32) (h : Hp) : Option (Unit × Hp) := f_grp_X5_atom F 64 4 a0 a1 h
set_option maxRecDepth 100000 in
set_option maxHeartbeats 4000000 in
theorem T_X5_sum (F : Nat) (a0 : Nat) (a1 : Int32) (h : Hp) : GM rvV I_X5_sum 72 [.ref a0, .int a1] h (f_X5_sum F a0 a1 h) := T_grp_X5_atom F 64 4 a0 a1 h
set_option maxRecDepth 100000 in
noncomputable def f_X5_term (F : Nat) (a0 : Nat) (a1 : Int32) (h : Hp) : Option (Unit × Hp) := f_grp_X5_atom F 64 5 a0 a1 h
set_option maxRecDepth 100000 in
set_option maxHeartbeats 4000000 in
theorem T_X5_term (F : Nat) (a0 : Nat) (a1 : Int32) (h : Hp) : GM rvV I_X5_term 72 [.ref a0, .int a1] h (f_X5_term F a0 a1 h) := T_grp_X5_atom F 64 5 a0 a1 h
set_option maxRecDepth 100000 in
noncomputable def f_X5_truth (F : Nat) (a0 : Nat) (a1 : Int32) (h : Hp) : Option (Unit × Hp) := f_grp_X5_atom F 64 6 a0 a1 h
set_option maxRecDepth 100000 in
set_option maxHeartbeats 4000000 in
theorem T_X5_truth (F : Nat) (a0 : Nat) (a1 : Int32) (h : Hp) : GM rvV I_X5_truth 72 [.ref a0, .int a1] h (f_X5_truth F a0 a1 h) := T_grp_X5_atom F 64 6 a0 a1 h
set_option maxRecDepth 100000 in
noncomputable def f_X5_unit (F : Nat) (a0 : Nat) (a1 : Int32) (h : Hp) : Option (Unit × Hp) := f_grp_X5_atom F 64 7 a0 a1 h
set_option maxRecDepth 100000 in
set_option maxHeartbeats 4000000 in
theorem T_X5_unit (F : Nat) (a0 : Nat) (a1 : Int32) (h : Hp) : GM rvV I_X5_unit 72 [.ref a0, .int a1] h (f_X5_unit F a0 a1 h) := T_grp_X5_atom F 64 7 a0 a1 h
set_option maxRecDepth 100000 in
noncomputable def f_X5_lawLine_16 (F : Nat) (l0 : Nat) (s0 : Int32) (s1 : Nat) (h : Hp) : Option (Unit × Hp) :=
  pZ 6 h s1 10 s0 fun h3 => cV 6 h3 l0 (f_X5_advance F l0 h3) fun v4 h5 => cV 6 h5 l0 (f_X5_take F l0 58 h5) fun v6 h7 => gR 6 h7 l0 9 fun v8 => gI 4 h7 v8 1 fun v9 => gI 6 h7 l0 10 fun v10 => if v10 = 0 then (cV 6 h7 l0 (f_X5_sum F l0 0 h7) fun v12 h13 => gR 6 h13 l0 9 fun v14 => cV 4 h13 v14 (f_X3_setComes F v14 v9 h13) fun v15 h16 => some ((), h16)) else (cV 6 h7 l0 (f_X5_truth F l0 0 h7) fun v17 h18 => gR 6 h18 l0 9 fun v19 => cV 4 h18 v19 (f_X3_setMay F v19 v9 h18) fun v20 h21 => some ((), h21))
set_option maxRecDepth 100000 in
set_option maxHeartbeats 4000000 in
theorem T_X5_lawLine_16 (F : Nat) (l0 : Nat) (s0 : Int32) (s1 : Nat) (h : Hp) : G rvV I_X5_lawLine 73 16 [(0, .ref l0)] [.int s0, .ref s1] h (f_X5_lawLine_16 F l0 s0 s1 h) := by
  delta f_X5_lawLine_16
  refine g_putZ fl_RX5_144 (Or.inl rfl) dX5_lawLine_16 (fun h3 => ?_)
  refine g_aload_n 0 dX5_lawLine_19 rfl ?_
  refine g_callVv (J := I_X5_advance) (t := 6) (As := []) (rest := []) mjv_X5_advance ml_RX5_51 ⟨rfl, by decide, by decide⟩ (by decide) rfl rfl (Nat.le_of_ble_eq_true rfl) dX5_lawLine_20 (T_X5_advance F l0 h3) (fun v4 h5 => ?_)
  refine g_aload_n 0 dX5_lawLine_23 rfl ?_
  refine g_bipush (v := 58) dX5_lawLine_24 (by decide) ?_
  refine g_callVv (J := I_X5_take) (t := 6) (As := [.int 58]) (rest := []) mjv_X5_take ml_RX5_54 ⟨rfl, by decide, by decide⟩ (by decide) rfl rfl (Nat.le_of_ble_eq_true rfl) dX5_lawLine_26 (T_X5_take F l0 58 h5) (fun v6 h7 => ?_)
  refine g_aload_n 0 dX5_lawLine_29 rfl ?_
  refine g_getR fl_RX5_22 rfl dX5_lawLine_30 (fun v8 => ?_)
  refine g_getI fl_RX5_148 rfl dX5_lawLine_33 (fun v9 => ?_)
  refine g_istore_n (lv' := [(1, .int v9), (0, .ref l0)]) dX5_lawLine_36 (by decide) rfl ?_
  refine g_aload_n 1 dX5_lawLine_37 rfl ?_
  refine g_getI fl_RX5_144 rfl dX5_lawLine_38 (fun v10 => ?_)
  refine g_if_eq (tgt := 60) dX5_lawLine_41 (by decide) (fun c11 => ?_) (fun c11 => ?_)
  · refine g_aload_n 1 dX5_lawLine_60 rfl ?_
    refine g_iconst (v := 0) dX5_lawLine_61 (by decide) ?_
    refine g_callVv (J := I_X5_sum) (t := 6) (As := [.int 0]) (rest := []) mjv_X5_sum ml_RX5_157 ⟨rfl, by decide, by decide⟩ (by decide) rfl rfl (Nat.le_of_ble_eq_true rfl) dX5_lawLine_62 (T_X5_sum F l0 0 h7) (fun v12 h13 => ?_)
    refine g_aload_n 1 dX5_lawLine_65 rfl ?_
    refine g_getR fl_RX5_22 rfl dX5_lawLine_66 (fun v14 => ?_)
    refine g_iload_n 0 dX5_lawLine_69 rfl ?_
    refine g_callVv (J := I_X3_setComes) (t := 4) (As := [.int v9]) (rest := []) mjv_X3_setComes ml_RX5_160 ⟨rfl, by decide, by decide⟩ (by decide) rfl rfl (Nat.le_of_ble_eq_true rfl) dX5_lawLine_70 (T_X3_setComes F v14 v9 h13) (fun v15 h16 => ?_)
    exact g_vret rfl dX5_lawLine_73
  · refine g_aload_n 1 dX5_lawLine_44 rfl ?_
    refine g_iconst (v := 0) dX5_lawLine_45 (by decide) ?_
    refine g_callVv (J := I_X5_truth) (t := 6) (As := [.int 0]) (rest := []) mjv_X5_truth ml_RX5_151 ⟨rfl, by decide, by decide⟩ (by decide) rfl rfl (Nat.le_of_ble_eq_true rfl) dX5_lawLine_46 (T_X5_truth F l0 0 h7) (fun v17 h18 => ?_)
    refine g_aload_n 1 dX5_lawLine_49 rfl ?_
    refine g_getR fl_RX5_22 rfl dX5_lawLine_50 (fun v19 => ?_)
    refine g_iload_n 0 dX5_lawLine_53 rfl ?_
    refine g_callVv (J := I_X3_setMay) (t := 4) (As := [.int v9]) (rest := []) mjv_X3_setMay ml_RX5_154 ⟨rfl, by decide, by decide⟩ (by decide) rfl rfl (Nat.le_of_ble_eq_true rfl) dX5_lawLine_54 (T_X3_setMay F v19 v9 h18) (fun v20 h21 => ?_)
    refine g_goto (tgt := 73) dX5_lawLine_57 (by decide) ?_
    exact g_vret rfl dX5_lawLine_73
set_option maxRecDepth 100000 in
noncomputable def f_X5_lawLine (F : Nat) (a0 : Nat) (h : Hp) : Option (Unit × Hp) :=
  gI 6 h a0 6 fun v1 => if v1 = 206 then (f_X5_lawLine_16 F a0 1 a0 h) else (f_X5_lawLine_16 F a0 0 a0 h)
set_option maxRecDepth 100000 in
set_option maxHeartbeats 4000000 in
theorem T_X5_lawLine (F : Nat) (a0 : Nat) (h : Hp) : GM rvV I_X5_lawLine 73 [.ref a0] h (f_X5_lawLine F a0 h) := by
  delta f_X5_lawLine
  refine GM_of (lv := [(0, .ref a0)]) (by decide +kernel) (Nat.le_of_ble_eq_true rfl) rfl ?_
  refine g_aload_n 0 dX5_lawLine_0 rfl ?_
  refine g_aload_n 0 dX5_lawLine_1 rfl ?_
  refine g_getI fl_RX5_61 rfl dX5_lawLine_2 (fun v1 => ?_)
  refine g_sipush (v := 206) dX5_lawLine_5 (by decide) ?_
  refine g_icmp_ne (tgt := 15) dX5_lawLine_8 (by decide) (fun c2 => ?_) (fun c2 => ?_)
  · refine g_iconst (v := 1) dX5_lawLine_11 (by decide) ?_
    refine g_goto (tgt := 16) dX5_lawLine_12 (by decide) ?_
    refine G_lv [0] rfl ?_
    exact T_X5_lawLine_16 F a0 1 a0 h
  · refine g_iconst (v := 0) dX5_lawLine_15 (by decide) ?_
    refine G_lv [0] rfl ?_
    exact T_X5_lawLine_16 F a0 0 a0 h
set_option maxRecDepth 100000 in
noncomputable def f_X5_line_98 (F : Nat) (l0 : Nat) (h : Hp) : Option (Unit × Hp) :=
  cV 6 h l0 (f_X5_take F l0 59 h) fun v5 h6 => gR 6 h6 l0 8 fun v7 => gI 3 h6 v7 2 fun v8 => pI 3 h6 v7 2 (v8 + 1) fun h9 => some ((), h9)
set_option maxRecDepth 100000 in
set_option maxHeartbeats 4000000 in
theorem T_X5_line_98 (F : Nat) (l0 : Nat) (h : Hp) : G rvV I_X5_line 74 98 [(0, .ref l0)] [] h (f_X5_line_98 F l0 h) := by
  delta f_X5_line_98
  refine g_aload_n 0 dX5_line_98 rfl ?_
  refine g_bipush (v := 59) dX5_line_99 (by decide) ?_
  refine g_callVv (J := I_X5_take) (t := 6) (As := [.int 59]) (rest := []) mjv_X5_take ml_RX5_54 ⟨rfl, by decide, by decide⟩ (by decide) rfl rfl (Nat.le_of_ble_eq_true rfl) dX5_line_101 (T_X5_take F l0 59 h) (fun v5 h6 => ?_)
  refine g_aload_n 0 dX5_line_104 rfl ?_
  refine g_getR fl_RX5_26 rfl dX5_line_105 (fun v7 => ?_)
  refine g_dup dX5_line_108 rfl ?_
  refine g_getI fl_RX5_58 rfl dX5_line_109 (fun v8 => ?_)
  refine g_iconst (v := 1) dX5_line_112 (by decide) ?_
  refine g_iadd dX5_line_113 ?_
  refine g_putI fl_RX5_58 (Or.inl rfl) dX5_line_114 (fun h9 => ?_)
  exact g_vret rfl dX5_line_117
set_option maxRecDepth 100000 in
noncomputable def f_X5_line (F : Nat) (a0 : Nat) (h : Hp) : Option (Unit × Hp) :=
  gI 6 h a0 6 fun v1 => if v1 = 201 then (cV 6 h a0 (f_X5_factLine F a0 h) fun v3 h4 => f_X5_line_98 F a0 h4) else (if v1 = 202 then (cV 6 h a0 (f_X5_doingLine F a0 h) fun v11 h12 => f_X5_line_98 F a0 h12) else (if v1 = 203 then (cV 6 h a0 (f_X5_advance F a0 h) fun v14 h15 => gR 6 h15 a0 8 fun v16 => cV 6 h15 a0 (f_X5_takeNumber F a0 0 9 h15) fun v17 h18 => pI 3 h18 v16 3 v17 fun h19 => f_X5_line_98 F a0 h19) else (if v1 = 204 then (cV 6 h a0 (f_X5_knowsLine F a0 h) fun v21 h22 => f_X5_line_98 F a0 h22) else (if v1 = 205 then (cV 6 h a0 (f_X5_lawLine F a0 h) fun v24 h25 => f_X5_line_98 F a0 h25) else (if v1 = 206 then (cV 6 h a0 (f_X5_lawLine F a0 h) fun v27 h28 => f_X5_line_98 F a0 h28) else (cV 6 h a0 (f_X5_fail F a0 2 h) fun v29 h30 => f_X5_line_98 F a0 h30))))))
set_option maxRecDepth 100000 in
set_option maxHeartbeats 4000000 in
theorem T_X5_line (F : Nat) (a0 : Nat) (h : Hp) : GM rvV I_X5_line 74 [.ref a0] h (f_X5_line F a0 h) := by
  delta f_X5_line
  refine GM_of (lv := [(0, .ref a0)]) (by decide +kernel) (Nat.le_of_ble_eq_true rfl) rfl ?_
  refine g_aload_n 0 dX5_line_0 rfl ?_
  refine g_getI fl_RX5_61 rfl dX5_line_1 (fun v1 => ?_)
  refine G_ite (fun c2 => ?_) (fun c2 => ?_)
  · refine g_tin 201 (40) dX5_line_4 c2 (by decide) (by decide) (by decide) (by decide) (tgt := 44) ?_
    refine g_aload_n 0 dX5_line_44 rfl ?_
    refine g_callVv (J := I_X5_factLine) (t := 6) (As := []) (rest := []) mjv_X5_factLine ml_RX5_106 ⟨rfl, by decide, by decide⟩ (by decide) rfl rfl (Nat.le_of_ble_eq_true rfl) dX5_line_45 (T_X5_factLine F a0 h) (fun v3 h4 => ?_)
    refine g_goto (tgt := 98) dX5_line_48 (by decide) ?_
    refine G_lv [0] rfl ?_
    exact T_X5_line_98 F a0 h4
  · refine G_ite (fun c10 => ?_) (fun c10 => ?_)
    · refine g_tin 202 (47) dX5_line_4 c10 (by decide) (by decide) (by decide) (by decide) (tgt := 51) ?_
      refine g_aload_n 0 dX5_line_51 rfl ?_
      refine g_callVv (J := I_X5_doingLine) (t := 6) (As := []) (rest := []) mjv_X5_doingLine ml_RX5_109 ⟨rfl, by decide, by decide⟩ (by decide) rfl rfl (Nat.le_of_ble_eq_true rfl) dX5_line_52 (T_X5_doingLine F a0 h) (fun v11 h12 => ?_)
      refine g_goto (tgt := 98) dX5_line_55 (by decide) ?_
      refine G_lv [0] rfl ?_
      exact T_X5_line_98 F a0 h12
    · refine G_ite (fun c13 => ?_) (fun c13 => ?_)
      · refine g_tin 203 (54) dX5_line_4 c13 (by decide) (by decide) (by decide) (by decide) (tgt := 58) ?_
        refine g_aload_n 0 dX5_line_58 rfl ?_
        refine g_callVv (J := I_X5_advance) (t := 6) (As := []) (rest := []) mjv_X5_advance ml_RX5_51 ⟨rfl, by decide, by decide⟩ (by decide) rfl rfl (Nat.le_of_ble_eq_true rfl) dX5_line_59 (T_X5_advance F a0 h) (fun v14 h15 => ?_)
        refine g_aload_n 0 dX5_line_62 rfl ?_
        refine g_getR fl_RX5_26 rfl dX5_line_63 (fun v16 => ?_)
        refine g_aload_n 0 dX5_line_66 rfl ?_
        refine g_iconst (v := 0) dX5_line_67 (by decide) ?_
        refine g_bipush (v := 9) dX5_line_68 (by decide) ?_
        refine g_callVi (J := I_X5_takeNumber) (t := 6) (As := [.int 0, .int 9]) (rest := [.ref v16]) mjv_X5_takeNumber ml_RX5_112 ⟨rfl, by decide, by decide⟩ (by decide) rfl rfl (Nat.le_of_ble_eq_true rfl) dX5_line_70 (T_X5_takeNumber F a0 0 9 h15) (fun v17 h18 => ?_)
        refine g_putI fl_RX5_115 (Or.inl rfl) dX5_line_73 (fun h19 => ?_)
        refine g_goto (tgt := 98) dX5_line_76 (by decide) ?_
        refine G_lv [0] rfl ?_
        exact T_X5_line_98 F a0 h19
      · refine G_ite (fun c20 => ?_) (fun c20 => ?_)
        · refine g_tin 204 (75) dX5_line_4 c20 (by decide) (by decide) (by decide) (by decide) (tgt := 79) ?_
          refine g_aload_n 0 dX5_line_79 rfl ?_
          refine g_callVv (J := I_X5_knowsLine) (t := 6) (As := []) (rest := []) mjv_X5_knowsLine ml_RX5_118 ⟨rfl, by decide, by decide⟩ (by decide) rfl rfl (Nat.le_of_ble_eq_true rfl) dX5_line_80 (T_X5_knowsLine F a0 h) (fun v21 h22 => ?_)
          refine g_goto (tgt := 98) dX5_line_83 (by decide) ?_
          refine G_lv [0] rfl ?_
          exact T_X5_line_98 F a0 h22
        · refine G_ite (fun c23 => ?_) (fun c23 => ?_)
          · refine g_tin 205 (82) dX5_line_4 c23 (by decide) (by decide) (by decide) (by decide) (tgt := 86) ?_
            refine g_aload_n 0 dX5_line_86 rfl ?_
            refine g_callVv (J := I_X5_lawLine) (t := 6) (As := []) (rest := []) mjv_X5_lawLine ml_RX5_121 ⟨rfl, by decide, by decide⟩ (by decide) rfl rfl (Nat.le_of_ble_eq_true rfl) dX5_line_87 (T_X5_lawLine F a0 h) (fun v24 h25 => ?_)
            refine g_goto (tgt := 98) dX5_line_90 (by decide) ?_
            refine G_lv [0] rfl ?_
            exact T_X5_line_98 F a0 h25
          · refine G_ite (fun c26 => ?_) (fun c26 => ?_)
            · refine g_tin 206 (82) dX5_line_4 c26 (by decide) (by decide) (by decide) (by decide) (tgt := 86) ?_
              refine g_aload_n 0 dX5_line_86 rfl ?_
              refine g_callVv (J := I_X5_lawLine) (t := 6) (As := []) (rest := []) mjv_X5_lawLine ml_RX5_121 ⟨rfl, by decide, by decide⟩ (by decide) rfl rfl (Nat.le_of_ble_eq_true rfl) dX5_line_87 (T_X5_lawLine F a0 h) (fun v27 h28 => ?_)
              refine g_goto (tgt := 98) dX5_line_90 (by decide) ?_
              refine G_lv [0] rfl ?_
              exact T_X5_line_98 F a0 h28
            · refine g_tout (tgt := 93) dX5_line_4 (by have z0 := lv_neT c2 (show (201 : Int32).toInt = 201 by decide); have z1 := lv_neT c10 (show (202 : Int32).toInt = 202 by decide); have z2 := lv_neT c13 (show (203 : Int32).toInt = 203 by decide); have z3 := lv_neT c20 (show (204 : Int32).toInt = 204 by decide); have z4 := lv_neT c23 (show (205 : Int32).toInt = 205 by decide); have z5 := lv_neT c26 (show (206 : Int32).toInt = 206 by decide); omega) (by decide) ?_
              refine g_aload_n 0 dX5_line_93 rfl ?_
              refine g_iconst (v := 2) dX5_line_94 (by decide) ?_
              refine g_callVv (J := I_X5_fail) (t := 6) (As := [.int 2]) (rest := []) mjv_X5_fail ml_RX5_77 ⟨rfl, by decide, by decide⟩ (by decide) rfl rfl (Nat.le_of_ble_eq_true rfl) dX5_line_95 (T_X5_fail F a0 2 h) (fun v29 h30 => ?_)
              refine G_lv [0] rfl ?_
              exact T_X5_line_98 F a0 h30
