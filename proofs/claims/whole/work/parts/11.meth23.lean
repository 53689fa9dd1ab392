/-! L2, by program (wip/whole/gen/gen.py) -/
set_option maxRecDepth 100000 in
noncomputable def f_X12_readTerm_5_b (F : Nat) (Rc : Nat → Nat → Int32 → Hp → Option (Unit × Hp)) (K5 : Nat → Int32 → Hp → Option (Unit × Hp)) (l0 : Nat) (l1 : Int32) (h : Hp) : Option (Unit × Hp) :=
  cV 13 h l0 (f_X12_eats F l0 34 h) fun v3 h4 => if v3 = 0 then (some ((), h4)) else (cV 13 h4 l0 (Rc 0 l0 l1 h4) fun v6 h7 => cV 13 h7 l0 (f_X12_codes F l0 3002 h7) fun v8 h9 => K5 l0 l1 h9)
set_option maxRecDepth 100000 in
set_option maxHeartbeats 4000000 in
theorem T_X12_readTerm_5_b (F : Nat) {d dR : Nat} (hd1 : 8 ≤ d) (hdR : dR + 1 ≤ d) {Rc : Nat → Nat → Int32 → Hp → Option (Unit × Hp)} (hR : ∀ (w : Nat) (a0 : Nat) (a1 : Int32) (h : Hp), GM rvV (I_grp_X12_readAtom w) dR [.ref a0, .int a1] h (Rc w a0 a1 h)) {K5 : Nat → Int32 → Hp → Option (Unit × Hp)} (hK5 : ∀ (l0 : Nat) (l1 : Int32) (h : Hp), G rvV I_X12_readTerm d 5 [(0, .ref l0), (1, .int l1)] [] h (K5 l0 l1 h)) (l0 : Nat) (l1 : Int32) (h : Hp) : G rvV I_X12_readTerm d 5 [(0, .ref l0), (1, .int l1)] [] h (f_X12_readTerm_5_b F Rc K5 l0 l1 h) := by
  delta f_X12_readTerm_5_b
  refine g_aload_n 0 dX12_readTerm_5 rfl ?_
  refine g_bipush (v := 34) dX12_readTerm_6 (by decide) ?_
  refine g_callVi (J := I_X12_eats) (t := 13) (As := [.int 34]) (rest := []) mjv_X12_eats ml_RX12_157 ⟨rfl, by decide, by decide⟩ (Nat.le_trans (by decide) hd1) rfl rfl (Nat.le_of_ble_eq_true rfl) dX12_readTerm_8 (T_X12_eats F l0 34 h) (fun v3 h4 => ?_)
  refine g_if_eq (tgt := 29) dX12_readTerm_11 (by decide) (fun c5 => ?_) (fun c5 => ?_)
  · exact g_vret rfl dX12_readTerm_29
  · refine g_aload_n 0 dX12_readTerm_14 rfl ?_
    refine g_iload_n 1 dX12_readTerm_15 rfl ?_
    refine g_callVv (J := I_X12_readAtom) (t := 13) (As := [.int l1]) (rest := []) mjv_X12_readAtom ml_RX12_166 ⟨rfl, by decide, by decide⟩ hdR rfl rfl (Nat.le_of_ble_eq_true rfl) dX12_readTerm_16 (hR 0 l0 l1 h4) (fun v6 h7 => ?_)
    refine g_aload_n 0 dX12_readTerm_19 rfl ?_
    refine g_sipush (v := 3002) dX12_readTerm_20 (by decide) ?_
    refine g_callVv (J := I_X12_codes) (t := 13) (As := [.int 3002]) (rest := []) mjv_X12_codes ml_RX12_145 ⟨rfl, by decide, by decide⟩ (Nat.le_trans (by decide) hd1) rfl rfl (Nat.le_of_ble_eq_true rfl) dX12_readTerm_23 (T_X12_codes F l0 3002 h7) (fun v8 h9 => ?_)
    refine g_goto (tgt := 5) dX12_readTerm_26 (by decide) ?_
    refine G_lv [0, 1] rfl ?_
    exact hK5 l0 l1 h9
set_option maxRecDepth 100000 in
noncomputable def f_X12_readTerm_5 (F : Nat) (Rc : Nat → Nat → Int32 → Hp → Option (Unit × Hp)) : Nat → Nat → Int32 → Hp → Option (Unit × Hp)
  | 0, _, _, _ => none
  | n + 1, l0, l1, h => f_X12_readTerm_5_b F Rc (f_X12_readTerm_5 F Rc n) l0 l1 h
set_option maxRecDepth 100000 in
set_option maxHeartbeats 4000000 in
theorem T_X12_readTerm_5 (F : Nat) {d dR : Nat} (hd1 : 8 ≤ d) (hdR : dR + 1 ≤ d) {Rc : Nat → Nat → Int32 → Hp → Option (Unit × Hp)} (hR : ∀ (w : Nat) (a0 : Nat) (a1 : Int32) (h : Hp), GM rvV (I_grp_X12_readAtom w) dR [.ref a0, .int a1] h (Rc w a0 a1 h)) : ∀ (n : Nat) (l0 : Nat) (l1 : Int32) (h : Hp), G rvV I_X12_readTerm d 5 [(0, .ref l0), (1, .int l1)] [] h (f_X12_readTerm_5 F Rc n l0 l1 h) := by
  intro n
  induction n with
  | zero => intros; exact G_none
  | succ n ih => intro l0 l1 h; exact T_X12_readTerm_5_b F hd1 hdR hR ih l0 l1 h
set_option maxRecDepth 100000 in
noncomputable def f_X12_readTerm_w (F : Nat) (Rc : Nat → Nat → Int32 → Hp → Option (Unit × Hp)) (a0 : Nat) (a1 : Int32) (h : Hp) : Option (Unit × Hp) :=
  cV 13 h a0 (Rc 0 a0 a1 h) fun v1 h2 => f_X12_readTerm_5 F Rc F a0 a1 h2
set_option maxRecDepth 100000 in
set_option maxHeartbeats 4000000 in
theorem T_X12_readTerm_w (F : Nat) {d dR : Nat} (hd1 : 8 ≤ d) (hdR : dR + 1 ≤ d) {Rc : Nat → Nat → Int32 → Hp → Option (Unit × Hp)} (hR : ∀ (w : Nat) (a0 : Nat) (a1 : Int32) (h : Hp), GM rvV (I_grp_X12_readAtom w) dR [.ref a0, .int a1] h (Rc w a0 a1 h)) (a0 : Nat) (a1 : Int32) (h : Hp) : GM rvV I_X12_readTerm d [.ref a0, .int a1] h (f_X12_readTerm_w F Rc a0 a1 h) := by
  delta f_X12_readTerm_w
  refine GM_of (lv := [(0, .ref a0), (1, .int a1)]) (by decide +kernel) (Nat.le_of_ble_eq_true rfl) rfl ?_
  refine g_aload_n 0 dX12_readTerm_0 rfl ?_
  refine g_iload_n 1 dX12_readTerm_1 rfl ?_
  refine g_callVv (J := I_X12_readAtom) (t := 13) (As := [.int a1]) (rest := []) mjv_X12_readAtom ml_RX12_166 ⟨rfl, by decide, by decide⟩ hdR rfl rfl (Nat.le_of_ble_eq_true rfl) dX12_readTerm_2 (hR 0 a0 a1 h) (fun v1 h2 => ?_)
  refine G_lv [0, 1] rfl ?_
  exact T_X12_readTerm_5 F hd1 hdR hR F a0 a1 h2
set_option maxRecDepth 100000 in
noncomputable def f_X12_readTruth_5_b (F : Nat) (Rc : Nat → Nat → Int32 → Hp → Option (Unit × Hp)) (K5 : Nat → Int32 → Hp → Option (Unit × Hp)) (l0 : Nat) (l1 : Int32) (h : Hp) : Option (Unit × Hp) :=
  cV 13 h l0 (f_X12_eats F l0 19 h) fun v3 h4 => if v3 = 0 then (some ((), h4)) else (cV 13 h4 l0 (Rc 1 l0 l1 h4) fun v6 h7 => cV 13 h7 l0 (f_X12_codes F l0 3008 h7) fun v8 h9 => K5 l0 l1 h9)
set_option maxRecDepth 100000 in
set_option maxHeartbeats 4000000 in
theorem T_X12_readTruth_5_b (F : Nat) {d dR : Nat} (hd1 : 8 ≤ d) (hdR : dR + 1 ≤ d) {Rc : Nat → Nat → Int32 → Hp → Option (Unit × Hp)} (hR : ∀ (w : Nat) (a0 : Nat) (a1 : Int32) (h : Hp), GM rvV (I_grp_X12_readAtom w) dR [.ref a0, .int a1] h (Rc w a0 a1 h)) {K5 : Nat → Int32 → Hp → Option (Unit × Hp)} (hK5 : ∀ (l0 : Nat) (l1 : Int32) (h : Hp), G rvV I_X12_readTruth d 5 [(0, .ref l0), (1, .int l1)] [] h (K5 l0 l1 h)) (l0 : Nat) (l1 : Int32) (h : Hp) : G rvV I_X12_readTruth d 5 [(0, .ref l0), (1, .int l1)] [] h (f_X12_readTruth_5_b F Rc K5 l0 l1 h) := by
  delta f_X12_readTruth_5_b
  refine g_aload_n 0 dX12_readTruth_5 rfl ?_
  refine g_bipush (v := 19) dX12_readTruth_6 (by decide) ?_
  refine g_callVi (J := I_X12_eats) (t := 13) (As := [.int 19]) (rest := []) mjv_X12_eats ml_RX12_157 ⟨rfl, by decide, by decide⟩ (Nat.le_trans (by decide) hd1) rfl rfl (Nat.le_of_ble_eq_true rfl) dX12_readTruth_8 (T_X12_eats F l0 19 h) (fun v3 h4 => ?_)
  refine g_if_eq (tgt := 29) dX12_readTruth_11 (by decide) (fun c5 => ?_) (fun c5 => ?_)
  · exact g_vret rfl dX12_readTruth_29
  · refine g_aload_n 0 dX12_readTruth_14 rfl ?_
    refine g_iload_n 1 dX12_readTruth_15 rfl ?_
    refine g_callVv (J := I_X12_readBoth) (t := 13) (As := [.int l1]) (rest := []) mjv_X12_readBoth ml_RX12_175 ⟨rfl, by decide, by decide⟩ hdR rfl rfl (Nat.le_of_ble_eq_true rfl) dX12_readTruth_16 (hR 1 l0 l1 h4) (fun v6 h7 => ?_)
    refine g_aload_n 0 dX12_readTruth_19 rfl ?_
    refine g_sipush (v := 3008) dX12_readTruth_20 (by decide) ?_
    refine g_callVv (J := I_X12_codes) (t := 13) (As := [.int 3008]) (rest := []) mjv_X12_codes ml_RX12_145 ⟨rfl, by decide, by decide⟩ (Nat.le_trans (by decide) hd1) rfl rfl (Nat.le_of_ble_eq_true rfl) dX12_readTruth_23 (T_X12_codes F l0 3008 h7) (fun v8 h9 => ?_)
    refine g_goto (tgt := 5) dX12_readTruth_26 (by decide) ?_
    refine G_lv [0, 1] rfl ?_
    exact hK5 l0 l1 h9
set_option maxRecDepth 100000 in
noncomputable def f_X12_readTruth_5 (F : Nat) (Rc : Nat → Nat → Int32 → Hp → Option (Unit × Hp)) : Nat → Nat → Int32 → Hp → Option (Unit × Hp)
  | 0, _, _, _ => none
  | n + 1, l0, l1, h => f_X12_readTruth_5_b F Rc (f_X12_readTruth_5 F Rc n) l0 l1 h
set_option maxRecDepth 100000 in
set_option maxHeartbeats 4000000 in
theorem T_X12_readTruth_5 (F : Nat) {d dR : Nat} (hd1 : 8 ≤ d) (hdR : dR + 1 ≤ d) {Rc : Nat → Nat → Int32 → Hp → Option (Unit × Hp)} (hR : ∀ (w : Nat) (a0 : Nat) (a1 : Int32) (h : Hp), GM rvV (I_grp_X12_readAtom w) dR [.ref a0, .int a1] h (Rc w a0 a1 h)) : ∀ (n : Nat) (l0 : Nat) (l1 : Int32) (h : Hp), G rvV I_X12_readTruth d 5 [(0, .ref l0), (1, .int l1)] [] h (f_X12_readTruth_5 F Rc n l0 l1 h) := by
  intro n
  induction n with
  | zero => intros; exact G_none
  | succ n ih => intro l0 l1 h; exact T_X12_readTruth_5_b F hd1 hdR hR ih l0 l1 h
set_option maxRecDepth 100000 in
noncomputable def f_X12_readTruth_w (F : Nat) (Rc : Nat → Nat → Int32 → Hp → Option (Unit × Hp)) (a0 : Nat) (a1 : Int32) (h : Hp) : Option (Unit × Hp) :=
  cV 13 h a0 (Rc 1 a0 a1 h) fun v1 h2 => f_X12_readTruth_5 F Rc F a0 a1 h2
set_option maxRecDepth 100000 in
set_option maxHeartbeats 4000000 in
theorem T_X12_readTruth_w (F : Nat) {d dR : Nat} (hd1 : 8 ≤ d) (hdR : dR + 1 ≤ d) {Rc : Nat → Nat → Int32 → Hp → Option (Unit × Hp)} (hR : ∀ (w : Nat) (a0 : Nat) (a1 : Int32) (h : Hp), GM rvV (I_grp_X12_readAtom w) dR [.ref a0, .int a1] h (Rc w a0 a1 h)) (a0 : Nat) (a1 : Int32) (h : Hp) : GM rvV I_X12_readTruth d [.ref a0, .int a1] h (f_X12_readTruth_w F Rc a0 a1 h) := by
  delta f_X12_readTruth_w
  refine GM_of (lv := [(0, .ref a0), (1, .int a1)]) (by decide +kernel) (Nat.le_of_ble_eq_true rfl) rfl ?_
  refine g_aload_n 0 dX12_readTruth_0 rfl ?_
  refine g_iload_n 1 dX12_readTruth_1 rfl ?_
  refine g_callVv (J := I_X12_readBoth) (t := 13) (As := [.int a1]) (rest := []) mjv_X12_readBoth ml_RX12_175 ⟨rfl, by decide, by decide⟩ hdR rfl rfl (Nat.le_of_ble_eq_true rfl) dX12_readTruth_2 (hR 1 a0 a1 h) (fun v1 h2 => ?_)
  refine G_lv [0, 1] rfl ?_
  exact T_X12_readTruth_5 F hd1 hdR hR F a0 a1 h2
set_option maxRecDepth 100000 in
noncomputable def f_X12_readUnit_151 (F : Nat) (Rc : Nat → Nat → Int32 → Hp → Option (Unit × Hp)) (l0 : Nat) (l1 : Int32) (l2 : Int32) (h : Hp) : Option (Unit × Hp) :=
  cV 13 h l0 (Rc 3 l0 l1 h) fun v26 h27 => cV 13 h27 l0 (f_X12_codes F l0 l2 h27) fun v28 h29 => some ((), h29)
set_option maxRecDepth 100000 in
set_option maxHeartbeats 4000000 in
theorem T_X12_readUnit_151 (F : Nat) {d dR : Nat} (hd1 : 8 ≤ d) (hdR : dR + 1 ≤ d) {Rc : Nat → Nat → Int32 → Hp → Option (Unit × Hp)} (hR : ∀ (w : Nat) (a0 : Nat) (a1 : Int32) (h : Hp), GM rvV (I_grp_X12_readAtom w) dR [.ref a0, .int a1] h (Rc w a0 a1 h)) (l0 : Nat) (l1 : Int32) (l2 : Int32) (h : Hp) : G rvV I_X12_readUnit d 151 [(0, .ref l0), (1, .int l1), (2, .int l2)] [] h (f_X12_readUnit_151 F Rc l0 l1 l2 h) := by
  delta f_X12_readUnit_151
  refine g_aload_n 0 dX12_readUnit_151 rfl ?_
  refine g_iload_n 1 dX12_readUnit_152 rfl ?_
  refine g_callVv (J := I_X12_readSum) (t := 13) (As := [.int l1]) (rest := []) mjv_X12_readSum ml_RX12_154 ⟨rfl, by decide, by decide⟩ hdR rfl rfl (Nat.le_of_ble_eq_true rfl) dX12_readUnit_153 (hR 3 l0 l1 h) (fun v26 h27 => ?_)
  refine g_aload_n 0 dX12_readUnit_156 rfl ?_
  refine g_iload_n 2 dX12_readUnit_157 rfl ?_
  refine g_callVv (J := I_X12_codes) (t := 13) (As := [.int l2]) (rest := []) mjv_X12_codes ml_RX12_145 ⟨rfl, by decide, by decide⟩ (Nat.le_trans (by decide) hd1) rfl rfl (Nat.le_of_ble_eq_true rfl) dX12_readUnit_158 (T_X12_codes F l0 l2 h27) (fun v28 h29 => ?_)
  exact g_vret rfl dX12_readUnit_161
set_option maxRecDepth 100000 in
noncomputable def f_X12_readUnit_139 (F : Nat) (Rc : Nat → Nat → Int32 → Hp → Option (Unit × Hp)) (l0 : Nat) (l1 : Int32) (l2 : Int32) (h : Hp) : Option (Unit × Hp) :=
  cV 13 h l0 (f_X12_next F l0 h) fun v30 h31 => f_X12_readUnit_151 F Rc l0 l1 l2 h31
set_option maxRecDepth 100000 in
set_option maxHeartbeats 4000000 in
theorem T_X12_readUnit_139 (F : Nat) {d dR : Nat} (hd1 : 8 ≤ d) (hdR : dR + 1 ≤ d) {Rc : Nat → Nat → Int32 → Hp → Option (Unit × Hp)} (hR : ∀ (w : Nat) (a0 : Nat) (a1 : Int32) (h : Hp), GM rvV (I_grp_X12_readAtom w) dR [.ref a0, .int a1] h (Rc w a0 a1 h)) (l0 : Nat) (l1 : Int32) (l2 : Int32) (h : Hp) : G rvV I_X12_readUnit d 139 [(0, .ref l0), (1, .int l1), (2, .int l2)] [] h (f_X12_readUnit_139 F Rc l0 l1 l2 h) := by
  delta f_X12_readUnit_139
  refine g_aload_n 0 dX12_readUnit_139 rfl ?_
  refine g_callVv (J := I_X12_next) (t := 13) (As := []) (rest := []) mjv_X12_next ml_RX12_131 ⟨rfl, by decide, by decide⟩ (Nat.le_trans (by decide) hd1) rfl rfl (Nat.le_of_ble_eq_true rfl) dX12_readUnit_140 (T_X12_next F l0 h) (fun v30 h31 => ?_)
  refine g_goto (tgt := 151) dX12_readUnit_143 (by decide) ?_
  refine G_lv [0, 1, 2] rfl ?_
  exact T_X12_readUnit_151 F hd1 hdR hR l0 l1 l2 h31
set_option maxRecDepth 100000 in
noncomputable def f_X12_readUnit_111 (F : Nat) (Rc : Nat → Nat → Int32 → Hp → Option (Unit × Hp)) (l0 : Nat) (l1 : Int32) (s0 : Int32) (h : Hp) : Option (Unit × Hp) :=
  cV 13 h l0 (f_X12_is F l0 39 h) fun v15 h16 => if v15 = 0 then (cV 13 h16 l0 (f_X12_is F l0 40 h16) fun v18 h19 => if v18 = 0 then (cV 13 h19 l0 (f_X12_is F l0 41 h19) fun v21 h22 => if v21 = 0 then (cV 13 h22 l0 (f_X12_fails F l0 2 h22) fun v24 h25 => f_X12_readUnit_151 F Rc l0 l1 s0 h25) else (f_X12_readUnit_139 F Rc l0 l1 s0 h22)) else (f_X12_readUnit_139 F Rc l0 l1 s0 h19)) else (f_X12_readUnit_139 F Rc l0 l1 s0 h16)
set_option maxRecDepth 100000 in
set_option maxHeartbeats 4000000 in
theorem T_X12_readUnit_111 (F : Nat) {d dR : Nat} (hd1 : 8 ≤ d) (hdR : dR + 1 ≤ d) {Rc : Nat → Nat → Int32 → Hp → Option (Unit × Hp)} (hR : ∀ (w : Nat) (a0 : Nat) (a1 : Int32) (h : Hp), GM rvV (I_grp_X12_readAtom w) dR [.ref a0, .int a1] h (Rc w a0 a1 h)) (l0 : Nat) (l1 : Int32) (s0 : Int32) (h : Hp) : G rvV I_X12_readUnit d 111 [(0, .ref l0), (1, .int l1)] [.int s0] h (f_X12_readUnit_111 F Rc l0 l1 s0 h) := by
  delta f_X12_readUnit_111
  refine g_istore_n (lv' := [(2, .int s0), (0, .ref l0), (1, .int l1)]) dX12_readUnit_111 (by decide) rfl ?_
  refine g_aload_n 1 dX12_readUnit_112 rfl ?_
  refine g_bipush (v := 39) dX12_readUnit_113 (by decide) ?_
  refine g_callVi (J := I_X12_is) (t := 13) (As := [.int 39]) (rest := []) mjv_X12_is ml_RX12_128 ⟨rfl, by decide, by decide⟩ (Nat.le_trans (by decide) hd1) rfl rfl (Nat.le_of_ble_eq_true rfl) dX12_readUnit_115 (T_X12_is F l0 39 h) (fun v15 h16 => ?_)
  refine g_if_ne (tgt := 139) dX12_readUnit_118 (by decide) (fun c17 => ?_) (fun c17 => ?_)
  · refine g_aload_n 1 dX12_readUnit_121 rfl ?_
    refine g_bipush (v := 40) dX12_readUnit_122 (by decide) ?_
    refine g_callVi (J := I_X12_is) (t := 13) (As := [.int 40]) (rest := []) mjv_X12_is ml_RX12_128 ⟨rfl, by decide, by decide⟩ (Nat.le_trans (by decide) hd1) rfl rfl (Nat.le_of_ble_eq_true rfl) dX12_readUnit_124 (T_X12_is F l0 40 h16) (fun v18 h19 => ?_)
    refine g_if_ne (tgt := 139) dX12_readUnit_127 (by decide) (fun c20 => ?_) (fun c20 => ?_)
    · refine g_aload_n 1 dX12_readUnit_130 rfl ?_
      refine g_bipush (v := 41) dX12_readUnit_131 (by decide) ?_
      refine g_callVi (J := I_X12_is) (t := 13) (As := [.int 41]) (rest := []) mjv_X12_is ml_RX12_128 ⟨rfl, by decide, by decide⟩ (Nat.le_trans (by decide) hd1) rfl rfl (Nat.le_of_ble_eq_true rfl) dX12_readUnit_133 (T_X12_is F l0 41 h19) (fun v21 h22 => ?_)
      refine g_if_eq (tgt := 146) dX12_readUnit_136 (by decide) (fun c23 => ?_) (fun c23 => ?_)
      · refine g_aload_n 1 dX12_readUnit_146 rfl ?_
        refine g_iconst (v := 2) dX12_readUnit_147 (by decide) ?_
        refine g_callVv (J := I_X12_fails) (t := 13) (As := [.int 2]) (rest := []) mjv_X12_fails ml_RX12_134 ⟨rfl, by decide, by decide⟩ (Nat.le_trans (by decide) hd1) rfl rfl (Nat.le_of_ble_eq_true rfl) dX12_readUnit_148 (T_X12_fails F l0 2 h22) (fun v24 h25 => ?_)
        refine G_lv [1, 2, 0] rfl ?_
        exact T_X12_readUnit_151 F hd1 hdR hR l0 l1 s0 h25
      · refine G_lv [1, 2, 0] rfl ?_
        exact T_X12_readUnit_139 F hd1 hdR hR l0 l1 s0 h22
    · refine G_lv [1, 2, 0] rfl ?_
      exact T_X12_readUnit_139 F hd1 hdR hR l0 l1 s0 h19
  · refine G_lv [1, 2, 0] rfl ?_
    exact T_X12_readUnit_139 F hd1 hdR hR l0 l1 s0 h16
set_option maxRecDepth 100000 in
noncomputable def f_X12_readUnit_w (F : Nat) (Rc : Nat → Nat → Int32 → Hp → Option (Unit × Hp)) (a0 : Nat) (a1 : Int32) (h : Hp) : Option (Unit × Hp) :=
  cV 13 h a0 (f_X12_is F a0 20 h) fun v1 h2 => if v1 = 0 then (cV 13 h2 a0 (f_X12_is F a0 37 h2) fun v4 h5 => if v4 = 0 then (cV 13 h5 a0 (Rc 3 a0 a1 h5) fun v7 h8 => cV 13 h8 a0 (f_X12_is F a0 39 h8) fun v9 h10 => if v9 = 0 then (cV 13 h10 a0 (f_X12_is F a0 40 h10) fun v12 h13 => if v12 = 0 then (f_X12_readUnit_111 F Rc a0 a1 3005 h13) else (f_X12_readUnit_111 F Rc a0 a1 3004 h13)) else (f_X12_readUnit_111 F Rc a0 a1 3003 h10)) else (cV 13 h5 a0 (f_X12_goesIn F a0 a1 h5) fun v32 h33 => if v32 = 0 then (some ((), h33)) else (cV 13 h33 a0 (Rc 5 a0 (a1 + 1) h33) fun v35 h36 => cV 13 h36 a0 (f_X12_eats F a0 38 h36) fun v37 h38 => if v37 = 0 then (cV 13 h38 a0 (f_X12_fails F a0 2 h38) fun v40 h41 => some ((), h41)) else (some ((), h38))))) else (cV 13 h2 a0 (f_X12_goesIn F a0 a1 h2) fun v42 h43 => if v42 = 0 then (some ((), h43)) else (cV 13 h43 a0 (Rc 6 a0 (a1 + 1) h43) fun v45 h46 => cV 13 h46 a0 (f_X12_codes F a0 3006 h46) fun v47 h48 => some ((), h48)))
set_option maxRecDepth 100000 in
set_option maxHeartbeats 4000000 in
theorem T_X12_readUnit_w (F : Nat) {d dR : Nat} (hd1 : 8 ≤ d) (hdR : dR + 1 ≤ d) {Rc : Nat → Nat → Int32 → Hp → Option (Unit × Hp)} (hR : ∀ (w : Nat) (a0 : Nat) (a1 : Int32) (h : Hp), GM rvV (I_grp_X12_readAtom w) dR [.ref a0, .int a1] h (Rc w a0 a1 h)) (a0 : Nat) (a1 : Int32) (h : Hp) : GM rvV I_X12_readUnit d [.ref a0, .int a1] h (f_X12_readUnit_w F Rc a0 a1 h) := by
  delta f_X12_readUnit_w
  refine GM_of (lv := [(0, .ref a0), (1, .int a1)]) (by decide +kernel) (Nat.le_of_ble_eq_true rfl) rfl ?_
  refine g_aload_n 0 dX12_readUnit_0 rfl ?_
  refine g_bipush (v := 20) dX12_readUnit_1 (by decide) ?_
  refine g_callVi (J := I_X12_is) (t := 13) (As := [.int 20]) (rest := []) mjv_X12_is ml_RX12_128 ⟨rfl, by decide, by decide⟩ (Nat.le_trans (by decide) hd1) rfl rfl (Nat.le_of_ble_eq_true rfl) dX12_readUnit_3 (T_X12_is F a0 20 h) (fun v1 h2 => ?_)
  refine g_if_eq (tgt := 33) dX12_readUnit_6 (by decide) (fun c3 => ?_) (fun c3 => ?_)
  · refine g_aload_n 0 dX12_readUnit_33 rfl ?_
    refine g_bipush (v := 37) dX12_readUnit_34 (by decide) ?_
    refine g_callVi (J := I_X12_is) (t := 13) (As := [.int 37]) (rest := []) mjv_X12_is ml_RX12_128 ⟨rfl, by decide, by decide⟩ (Nat.le_trans (by decide) hd1) rfl rfl (Nat.le_of_ble_eq_true rfl) dX12_readUnit_36 (T_X12_is F a0 37 h2) (fun v4 h5 => ?_)
    refine g_if_eq (tgt := 73) dX12_readUnit_39 (by decide) (fun c6 => ?_) (fun c6 => ?_)
    · refine g_aload_n 0 dX12_readUnit_73 rfl ?_
      refine g_iload_n 1 dX12_readUnit_74 rfl ?_
      refine g_callVv (J := I_X12_readSum) (t := 13) (As := [.int a1]) (rest := []) mjv_X12_readSum ml_RX12_154 ⟨rfl, by decide, by decide⟩ hdR rfl rfl (Nat.le_of_ble_eq_true rfl) dX12_readUnit_75 (hR 3 a0 a1 h5) (fun v7 h8 => ?_)
      refine g_aload_n 0 dX12_readUnit_78 rfl ?_
      refine g_bipush (v := 39) dX12_readUnit_79 (by decide) ?_
      refine g_callVi (J := I_X12_is) (t := 13) (As := [.int 39]) (rest := []) mjv_X12_is ml_RX12_128 ⟨rfl, by decide, by decide⟩ (Nat.le_trans (by decide) hd1) rfl rfl (Nat.le_of_ble_eq_true rfl) dX12_readUnit_81 (T_X12_is F a0 39 h8) (fun v9 h10 => ?_)
      refine g_if_eq (tgt := 93) dX12_readUnit_84 (by decide) (fun c11 => ?_) (fun c11 => ?_)
      · refine g_aload_n 0 dX12_readUnit_93 rfl ?_
        refine g_bipush (v := 40) dX12_readUnit_94 (by decide) ?_
        refine g_callVi (J := I_X12_is) (t := 13) (As := [.int 40]) (rest := []) mjv_X12_is ml_RX12_128 ⟨rfl, by decide, by decide⟩ (Nat.le_trans (by decide) hd1) rfl rfl (Nat.le_of_ble_eq_true rfl) dX12_readUnit_96 (T_X12_is F a0 40 h10) (fun v12 h13 => ?_)
        refine g_if_eq (tgt := 108) dX12_readUnit_99 (by decide) (fun c14 => ?_) (fun c14 => ?_)
        · refine g_sipush (v := 3005) dX12_readUnit_108 (by decide) ?_
          refine G_lv [0, 1] rfl ?_
          exact T_X12_readUnit_111 F hd1 hdR hR a0 a1 3005 h13
        · refine g_sipush (v := 3004) dX12_readUnit_102 (by decide) ?_
          refine g_goto (tgt := 111) dX12_readUnit_105 (by decide) ?_
          refine G_lv [0, 1] rfl ?_
          exact T_X12_readUnit_111 F hd1 hdR hR a0 a1 3004 h13
      · refine g_sipush (v := 3003) dX12_readUnit_87 (by decide) ?_
        refine g_goto (tgt := 111) dX12_readUnit_90 (by decide) ?_
        refine G_lv [0, 1] rfl ?_
        exact T_X12_readUnit_111 F hd1 hdR hR a0 a1 3003 h10
    · refine g_aload_n 0 dX12_readUnit_42 rfl ?_
      refine g_iload_n 1 dX12_readUnit_43 rfl ?_
      refine g_callVi (J := I_X12_goesIn) (t := 13) (As := [.int a1]) (rest := []) mjv_X12_goesIn ml_RX12_151 ⟨rfl, by decide, by decide⟩ (Nat.le_trans (by decide) hd1) rfl rfl (Nat.le_of_ble_eq_true rfl) dX12_readUnit_44 (T_X12_goesIn F a0 a1 h5) (fun v32 h33 => ?_)
      refine g_if_ne (tgt := 51) dX12_readUnit_47 (by decide) (fun c34 => ?_) (fun c34 => ?_)
      · exact g_vret rfl dX12_readUnit_50
      · refine g_aload_n 0 dX12_readUnit_51 rfl ?_
        refine g_iload_n 1 dX12_readUnit_52 rfl ?_
        refine g_iconst (v := 1) dX12_readUnit_53 (by decide) ?_
        refine g_iadd dX12_readUnit_54 ?_
        refine g_callVv (J := I_X12_readTruth) (t := 13) (As := [.int (a1 + 1)]) (rest := []) mjv_X12_readTruth ml_RX12_163 ⟨rfl, by decide, by decide⟩ hdR rfl rfl (Nat.le_of_ble_eq_true rfl) dX12_readUnit_55 (hR 5 a0 (a1 + 1) h33) (fun v35 h36 => ?_)
        refine g_aload_n 0 dX12_readUnit_58 rfl ?_
        refine g_bipush (v := 38) dX12_readUnit_59 (by decide) ?_
        refine g_callVi (J := I_X12_eats) (t := 13) (As := [.int 38]) (rest := []) mjv_X12_eats ml_RX12_157 ⟨rfl, by decide, by decide⟩ (Nat.le_trans (by decide) hd1) rfl rfl (Nat.le_of_ble_eq_true rfl) dX12_readUnit_61 (T_X12_eats F a0 38 h36) (fun v37 h38 => ?_)
        refine g_if_ne (tgt := 72) dX12_readUnit_64 (by decide) (fun c39 => ?_) (fun c39 => ?_)
        · refine g_aload_n 0 dX12_readUnit_67 rfl ?_
          refine g_iconst (v := 2) dX12_readUnit_68 (by decide) ?_
          refine g_callVv (J := I_X12_fails) (t := 13) (As := [.int 2]) (rest := []) mjv_X12_fails ml_RX12_134 ⟨rfl, by decide, by decide⟩ (Nat.le_trans (by decide) hd1) rfl rfl (Nat.le_of_ble_eq_true rfl) dX12_readUnit_69 (T_X12_fails F a0 2 h38) (fun v40 h41 => ?_)
          exact g_vret rfl dX12_readUnit_72
        · exact g_vret rfl dX12_readUnit_72
  · refine g_aload_n 0 dX12_readUnit_9 rfl ?_
    refine g_iload_n 1 dX12_readUnit_10 rfl ?_
    refine g_callVi (J := I_X12_goesIn) (t := 13) (As := [.int a1]) (rest := []) mjv_X12_goesIn ml_RX12_151 ⟨rfl, by decide, by decide⟩ (Nat.le_trans (by decide) hd1) rfl rfl (Nat.le_of_ble_eq_true rfl) dX12_readUnit_11 (T_X12_goesIn F a0 a1 h2) (fun v42 h43 => ?_)
    refine g_if_ne (tgt := 18) dX12_readUnit_14 (by decide) (fun c44 => ?_) (fun c44 => ?_)
    · exact g_vret rfl dX12_readUnit_17
    · refine g_aload_n 0 dX12_readUnit_18 rfl ?_
      refine g_iload_n 1 dX12_readUnit_19 rfl ?_
      refine g_iconst (v := 1) dX12_readUnit_20 (by decide) ?_
      refine g_iadd dX12_readUnit_21 ?_
      refine g_callVv (J := I_X12_readUnit) (t := 13) (As := [.int (a1 + 1)]) (rest := []) mjv_X12_readUnit ml_RX12_172 ⟨rfl, by decide, by decide⟩ hdR rfl rfl (Nat.le_of_ble_eq_true rfl) dX12_readUnit_22 (hR 6 a0 (a1 + 1) h43) (fun v45 h46 => ?_)
      refine g_aload_n 0 dX12_readUnit_25 rfl ?_
      refine g_sipush (v := 3006) dX12_readUnit_26 (by decide) ?_
      refine g_callVv (J := I_X12_codes) (t := 13) (As := [.int 3006]) (rest := []) mjv_X12_codes ml_RX12_145 ⟨rfl, by decide, by decide⟩ (Nat.le_trans (by decide) hd1) rfl rfl (Nat.le_of_ble_eq_true rfl) dX12_readUnit_29 (T_X12_codes F a0 3006 h46) (fun v47 h48 => ?_)
      exact g_vret rfl dX12_readUnit_32
set_option maxRecDepth 100000 in
noncomputable def f_grp_X12_readAtom (F : Nat) : Nat → Nat → Nat → Int32 → Hp → Option (Unit × Hp)
  | 0, _, _, _, _ => none
  | D + 1, w, a0, a1, h => if w = 0 then f_X12_readAtom_w F (f_grp_X12_readAtom F D) a0 a1 h else if w = 1 then f_X12_readBoth_w F (f_grp_X12_readAtom F D) a0 a1 h else if w = 2 then f_X12_readIf_w F (f_grp_X12_readAtom F D) a0 a1 h else if w = 3 then f_X12_readSum_w F (f_grp_X12_readAtom F D) a0 a1 h else if w = 4 then f_X12_readTerm_w F (f_grp_X12_readAtom F D) a0 a1 h else if w = 5 then f_X12_readTruth_w F (f_grp_X12_readAtom F D) a0 a1 h else f_X12_readUnit_w F (f_grp_X12_readAtom F D) a0 a1 h
set_option maxRecDepth 100000 in
set_option maxHeartbeats 4000000 in
theorem T_grp_X12_readAtom (F : Nat) : ∀ (D w : Nat) (a0 : Nat) (a1 : Int32) (h : Hp), GM rvV (I_grp_X12_readAtom w) (8 + D) [.ref a0, .int a1] h (f_grp_X12_readAtom F D w a0 a1 h) := by
  intro D
  induction D with
  | zero => intros; exact fun x hx => by cases hx
  | succ D ih =>
    intro w a0 a1 h
    show GM _ (I_grp_X12_readAtom w) _ _ _ (if w = 0 then f_X12_readAtom_w F (f_grp_X12_readAtom F D) a0 a1 h else if w = 1 then f_X12_readBoth_w F (f_grp_X12_readAtom F D) a0 a1 h else if w = 2 then f_X12_readIf_w F (f_grp_X12_readAtom F D) a0 a1 h else if w = 3 then f_X12_readSum_w F (f_grp_X12_readAtom F D) a0 a1 h else if w = 4 then f_X12_readTerm_w F (f_grp_X12_readAtom F D) a0 a1 h else if w = 5 then f_X12_readTruth_w F (f_grp_X12_readAtom F D) a0 a1 h else f_X12_readUnit_w F (f_grp_X12_readAtom F D) a0 a1 h)
    unfold I_grp_X12_readAtom
    by_cases e0 : w = 0
    · rw [if_pos e0, if_pos e0]; exact T_X12_readAtom_w F (by omega) (by omega) ih a0 a1 h
    rw [if_neg e0, if_neg e0]
    by_cases e1 : w = 1
    · rw [if_pos e1, if_pos e1]; exact T_X12_readBoth_w F (by omega) (by omega) ih a0 a1 h
    rw [if_neg e1, if_neg e1]
    by_cases e2 : w = 2
    · rw [if_pos e2, if_pos e2]; exact T_X12_readIf_w F (by omega) (by omega) ih a0 a1 h
    rw [if_neg e2, if_neg e2]
    by_cases e3 : w = 3
    · rw [if_pos e3, if_pos e3]; exact T_X12_readSum_w F (by omega) (by omega) ih a0 a1 h
    rw [if_neg e3, if_neg e3]
    by_cases e4 : w = 4
    · rw [if_pos e4, if_pos e4]; exact T_X12_readTerm_w F (by omega) (by omega) ih a0 a1 h
    rw [if_neg e4, if_neg e4]
    by_cases e5 : w = 5
    · rw [if_pos e5, if_pos e5]; exact T_X12_readTruth_w F (by omega) (by omega) ih a0 a1 h
    rw [if_neg e5, if_neg e5]
    exact T_X12_readUnit_w F (by omega) (by omega) ih a0 a1 h
set_option maxRecDepth 100000 in
noncomputable def f_X12_readAtom (F : Nat) (a0 : Nat) (a1 : Int32) (h : Hp) : Option (Unit × Hp) := f_grp_X12_readAtom F 64 0 a0 a1 h
set_option maxRecDepth 100000 in
set_option maxHeartbeats 4000000 in
theorem T_X12_readAtom (F : Nat) (a0 : Nat) (a1 : Int32) (h : Hp) : GM rvV I_X12_readAtom 72 [.ref a0, .int a1] h (f_X12_readAtom F a0 a1 h) := T_grp_X12_readAtom F 64 0 a0 a1 h
set_option maxRecDepth 100000 in
noncomputable def f_X12_readBoth (F : Nat) (a0 : Nat) (a1 : Int32) (h : Hp) : Option (Unit × Hp) := f_grp_X12_readAtom F 64 1 a0 a1 h
set_option maxRecDepth 100000 in
set_option maxHeartbeats 4000000 in
theorem T_X12_readBoth (F : Nat) (a0 : Nat) (a1 : Int32) (h : Hp) : GM rvV I_X12_readBoth 72 [.ref a0, .int a1] h (f_X12_readBoth F a0 a1 h) := T_grp_X12_readAtom F 64 1 a0 a1 h
set_option maxRecDepth 100000 in
noncomputable def f_X12_readIf (F : Nat) (a0 : Nat) (a1 : Int32) (h : Hp) : Option (Unit × Hp) := f_grp_X12_readAtom F 64 2 a0 a1 h
set_option maxRecDepth 100000 in
set_option maxHeartbeats 4000000 in
theorem T_X12_readIf (F : Nat) (a0 : Nat) (a1 : Int32) (h : Hp) : GM rvV I_X12_readIf 72 [.ref a0, .int a1] h (f_X12_readIf F a0 a1 h) := T_grp_X12_readAtom F 64 2 a0 a1 h
set_option maxRecDepth 100000 in
noncomputable def f_X12_readSum (F : Nat) (a0 : Nat) (a1 : Int32) (h : Hp) : Option (Unit × Hp) := f_grp_X12_readAtom F 64 3 a0 a1 h
set_option maxRecDepth 100000 in
set_option maxHeartbeats 4000000 in
theorem T_X12_readSum (F : Nat) (a0 : Nat) (a1 : Int32) (h : Hp) : GM rvV I_X12_readSum 72 [.ref a0, .int a1] h (f_X12_readSum F a0 a1 h) := T_grp_X12_readAtom F 64 3 a0 a1 h
set_option maxRecDepth 100000 in
noncomputable def f_X12_readTerm (F : Nat) (a0 : Nat) (a1 : Int32) (h : Hp) : Option (Unit × Hp) := f_grp_X12_readAtom F 64 4 a0 a1 h
set_option maxRecDepth 100000 in
set_option maxHeartbeats 4000000 in
theorem T_X12_readTerm (F : Nat) (a0 : Nat) (a1 : Int32) (h : Hp) : GM rvV I_X12_readTerm 72 [.ref a0, .int a1] h (f_X12_readTerm F a0 a1 h) := T_grp_X12_readAtom F 64 4 a0 a1 h
set_option maxRecDepth 100000 in
noncomputable def f_X12_readTruth (F : Nat) (a0 : Nat) (a1 : Int32) (h : Hp) : Option (Unit × Hp) := f_grp_X12_readAtom F 64 5 a0 a1 h
set_option maxRecDepth 100000 in
set_option maxHeartbeats 4000000 in
theorem T_X12_readTruth (F : Nat) (a0 : Nat) (a1 : Int32) (h : Hp) : GM rvV I_X12_readTruth 72 [.ref a0, .int a1] h (f_X12_readTruth F a0 a1 h) := T_grp_X12_readAtom F 64 5 a0 a1 h
set_option maxRecDepth 100000 in
noncomputable def f_X12_readUnit (F : Nat) (a0 : Nat) (a1 : Int32) (h : Hp) : Option (Unit × Hp) := f_grp_X12_readAtom F 64 6 a0 a1 h
set_option maxRecDepth 100000 in
set_option maxHeartbeats 4000000 in
theorem T_X12_readUnit (F : Nat) (a0 : Nat) (a1 : Int32) (h : Hp) : GM rvV I_X12_readUnit 72 [.ref a0, .int a1] h (f_X12_readUnit F a0 a1 h) := T_grp_X12_readAtom F 64 6 a0 a1 h
set_option maxRecDepth 100000 in
noncomputable def f_X12_readLaw_49 (F : Nat) (l0 : Nat) (l1 : Int32) (l2 : Int32) (h : Hp) : Option (Unit × Hp) :=
  gI 13 h l0 11 fun v14 => if v14 = 0 then (gR 13 h l0 4 fun v16 => wI h v16 (3 + l1) 1 fun h17 => gR 13 h17 l0 4 fun v18 => wI h17 v18 (5 + l1) l2 fun h19 => gR 13 h19 l0 4 fun v20 => gR 13 h19 l0 4 fun v21 => aI 20 h19 v21 143 fun v22 => wI h19 v20 (7 + l1) (v22 - l2) fun h23 => some ((), h23)) else (some ((), h))
set_option maxRecDepth 100000 in
set_option maxHeartbeats 4000000 in
theorem T_X12_readLaw_49 (F : Nat) (l0 : Nat) (l1 : Int32) (l2 : Int32) (h : Hp) : G rvV I_X12_readLaw 73 49 [(0, .ref l0), (1, .int l1), (2, .int l2)] [] h (f_X12_readLaw_49 F l0 l1 l2 h) := by
  delta f_X12_readLaw_49
  refine g_aload_n 0 dX12_readLaw_49 rfl ?_
  refine g_getI fl_RX12_122 rfl dX12_readLaw_50 (fun v14 => ?_)
  refine g_if_eq (tgt := 57) dX12_readLaw_53 (by decide) (fun c15 => ?_) (fun c15 => ?_)
  · refine g_aload_n 0 dX12_readLaw_57 rfl ?_
    refine g_getR fl_RX12_24 rfl dX12_readLaw_58 (fun v16 => ?_)
    refine g_iconst (v := 3) dX12_readLaw_61 (by decide) ?_
    refine g_iload_n 1 dX12_readLaw_62 rfl ?_
    refine g_iadd dX12_readLaw_63 ?_
    refine g_iconst (v := 1) dX12_readLaw_64 (by decide) ?_
    refine g_iast dX12_readLaw_65 (fun h17 => ?_)
    refine g_aload_n 0 dX12_readLaw_66 rfl ?_
    refine g_getR fl_RX12_24 rfl dX12_readLaw_67 (fun v18 => ?_)
    refine g_iconst (v := 5) dX12_readLaw_70 (by decide) ?_
    refine g_iload_n 1 dX12_readLaw_71 rfl ?_
    refine g_iadd dX12_readLaw_72 ?_
    refine g_iload_n 2 dX12_readLaw_73 rfl ?_
    refine g_iast dX12_readLaw_74 (fun h19 => ?_)
    refine g_aload_n 0 dX12_readLaw_75 rfl ?_
    refine g_getR fl_RX12_24 rfl dX12_readLaw_76 (fun v20 => ?_)
    refine g_bipush (v := 7) dX12_readLaw_79 (by decide) ?_
    refine g_iload_n 1 dX12_readLaw_81 rfl ?_
    refine g_iadd dX12_readLaw_82 ?_
    refine g_aload_n 0 dX12_readLaw_83 rfl ?_
    refine g_getR fl_RX12_24 rfl dX12_readLaw_84 (fun v21 => ?_)
    refine g_sipush (v := 143) dX12_readLaw_87 (by decide) ?_
    refine g_iald dX12_readLaw_90 (fun v22 => ?_)
    refine g_iload_n 2 dX12_readLaw_91 rfl ?_
    refine g_isub dX12_readLaw_92 ?_
    refine g_iast dX12_readLaw_93 (fun h23 => ?_)
    exact g_vret rfl dX12_readLaw_94
  · exact g_vret rfl dX12_readLaw_56
set_option maxRecDepth 100000 in
noncomputable def f_X12_readLaw_18 (F : Nat) (l0 : Nat) (l1 : Int32) (h : Hp) : Option (Unit × Hp) :=
  gR 13 h l0 4 fun v8 => aI 20 h v8 143 fun v9 => pI 13 h l0 15 l1 fun h10 => if l1 = 0 then (cV 13 h10 l0 (f_X12_readSum F l0 0 h10) fun v12 h13 => f_X12_readLaw_49 F l0 l1 v9 h13) else (cV 13 h10 l0 (f_X12_readTruth F l0 0 h10) fun v24 h25 => f_X12_readLaw_49 F l0 l1 v9 h25)
set_option maxRecDepth 100000 in
set_option maxHeartbeats 4000000 in
theorem T_X12_readLaw_18 (F : Nat) (l0 : Nat) (l1 : Int32) (h : Hp) : G rvV I_X12_readLaw 73 18 [(0, .ref l0), (1, .int l1)] [] h (f_X12_readLaw_18 F l0 l1 h) := by
  delta f_X12_readLaw_18
  refine g_aload_n 0 dX12_readLaw_18 rfl ?_
  refine g_getR fl_RX12_24 rfl dX12_readLaw_19 (fun v8 => ?_)
  refine g_sipush (v := 143) dX12_readLaw_22 (by decide) ?_
  refine g_iald dX12_readLaw_25 (fun v9 => ?_)
  refine g_istore_n (lv' := [(2, .int v9), (0, .ref l0), (1, .int l1)]) dX12_readLaw_26 (by decide) rfl ?_
  refine g_aload_n 1 dX12_readLaw_27 rfl ?_
  refine g_iload_n 2 dX12_readLaw_28 rfl ?_
  refine g_putI fl_RX12_142 (Or.inl rfl) dX12_readLaw_29 (fun h10 => ?_)
  refine g_iload_n 2 dX12_readLaw_32 rfl ?_
  refine g_if_ne (tgt := 44) dX12_readLaw_33 (by decide) (fun c11 => ?_) (fun c11 => ?_)
  · refine g_aload_n 1 dX12_readLaw_36 rfl ?_
    refine g_iconst (v := 0) dX12_readLaw_37 (by decide) ?_
    refine g_callVv (J := I_X12_readSum) (t := 13) (As := [.int 0]) (rest := []) mjv_X12_readSum ml_RX12_154 ⟨rfl, by decide, by decide⟩ (by decide) rfl rfl (Nat.le_of_ble_eq_true rfl) dX12_readLaw_38 (T_X12_readSum F l0 0 h10) (fun v12 h13 => ?_)
    refine g_goto (tgt := 49) dX12_readLaw_41 (by decide) ?_
    refine G_lv [1, 2, 0] rfl ?_
    exact T_X12_readLaw_49 F l0 l1 v9 h13
  · refine g_aload_n 1 dX12_readLaw_44 rfl ?_
    refine g_iconst (v := 0) dX12_readLaw_45 (by decide) ?_
    refine g_callVv (J := I_X12_readTruth) (t := 13) (As := [.int 0]) (rest := []) mjv_X12_readTruth ml_RX12_163 ⟨rfl, by decide, by decide⟩ (by decide) rfl rfl (Nat.le_of_ble_eq_true rfl) dX12_readLaw_46 (T_X12_readTruth F l0 0 h10) (fun v24 h25 => ?_)
    refine G_lv [1, 2, 0] rfl ?_
    exact T_X12_readLaw_49 F l0 l1 v9 h25
set_option maxRecDepth 100000 in
noncomputable def f_X12_readLaw (F : Nat) (a0 : Nat) (a1 : Int32) (h : Hp) : Option (Unit × Hp) :=
  cV 13 h a0 (f_X12_next F a0 h) fun v1 h2 => cV 13 h2 a0 (f_X12_eats F a0 31 h2) fun v3 h4 => if v3 = 0 then (cV 13 h4 a0 (f_X12_fails F a0 2 h4) fun v6 h7 => f_X12_readLaw_18 F a0 a1 h7) else (f_X12_readLaw_18 F a0 a1 h4)
set_option maxRecDepth 100000 in
set_option maxHeartbeats 4000000 in
theorem T_X12_readLaw (F : Nat) (a0 : Nat) (a1 : Int32) (h : Hp) : GM rvV I_X12_readLaw 73 [.ref a0, .int a1] h (f_X12_readLaw F a0 a1 h) := by
  delta f_X12_readLaw
  refine GM_of (lv := [(0, .ref a0), (1, .int a1)]) (by decide +kernel) (Nat.le_of_ble_eq_true rfl) rfl ?_
  refine g_aload_n 0 dX12_readLaw_0 rfl ?_
  refine g_callVv (J := I_X12_next) (t := 13) (As := []) (rest := []) mjv_X12_next ml_RX12_131 ⟨rfl, by decide, by decide⟩ (by decide) rfl rfl (Nat.le_of_ble_eq_true rfl) dX12_readLaw_1 (T_X12_next F a0 h) (fun v1 h2 => ?_)
  refine g_aload_n 0 dX12_readLaw_4 rfl ?_
  refine g_bipush (v := 31) dX12_readLaw_5 (by decide) ?_
  refine g_callVi (J := I_X12_eats) (t := 13) (As := [.int 31]) (rest := []) mjv_X12_eats ml_RX12_157 ⟨rfl, by decide, by decide⟩ (by decide) rfl rfl (Nat.le_of_ble_eq_true rfl) dX12_readLaw_7 (T_X12_eats F a0 31 h2) (fun v3 h4 => ?_)
  refine g_if_ne (tgt := 18) dX12_readLaw_10 (by decide) (fun c5 => ?_) (fun c5 => ?_)
  · refine g_aload_n 0 dX12_readLaw_13 rfl ?_
    refine g_iconst (v := 2) dX12_readLaw_14 (by decide) ?_
    refine g_callVv (J := I_X12_fails) (t := 13) (As := [.int 2]) (rest := []) mjv_X12_fails ml_RX12_134 ⟨rfl, by decide, by decide⟩ (by decide) rfl rfl (Nat.le_of_ble_eq_true rfl) dX12_readLaw_15 (T_X12_fails F a0 2 h4) (fun v6 h7 => ?_)
    refine G_lv [0, 1] rfl ?_
    exact T_X12_readLaw_18 F a0 a1 h7
  · refine G_lv [0, 1] rfl ?_
    exact T_X12_readLaw_18 F a0 a1 h4
set_option maxRecDepth 100000 in
noncomputable def f_X12_readLine_98 (F : Nat) (l0 : Nat) (h : Hp) : Option (Unit × Hp) :=
  gI 13 h l0 9 fun v23 => cV 13 h l0 (f_X12_readLaw F l0 (v23 - 9) h) fun v24 h25 => some ((), h25)
set_option maxRecDepth 100000 in
set_option maxHeartbeats 4000000 in
theorem T_X12_readLine_98 (F : Nat) (l0 : Nat) (h : Hp) : G rvV I_X12_readLine 74 98 [(0, .ref l0)] [] h (f_X12_readLine_98 F l0 h) := by
  delta f_X12_readLine_98
  refine g_aload_n 0 dX12_readLine_98 rfl ?_
  refine g_aload_n 0 dX12_readLine_99 rfl ?_
  refine g_getI fl_RX12_104 rfl dX12_readLine_100 (fun v23 => ?_)
  refine g_bipush (v := 9) dX12_readLine_103 (by decide) ?_
  refine g_isub dX12_readLine_105 ?_
  refine g_callVv (J := I_X12_readLaw) (t := 13) (As := [.int (v23 - 9)]) (rest := []) mjv_X12_readLaw ml_RX12_194 ⟨rfl, by decide, by decide⟩ (by decide) rfl rfl (Nat.le_of_ble_eq_true rfl) dX12_readLine_106 (T_X12_readLaw F l0 (v23 - 9) h) (fun v24 h25 => ?_)
  refine g_goto (tgt := 117) dX12_readLine_109 (by decide) ?_
  exact g_vret rfl dX12_readLine_117
set_option maxRecDepth 100000 in
noncomputable def f_X12_readLine (F : Nat) (a0 : Nat) (h : Hp) : Option (Unit × Hp) :=
  gI 13 h a0 11 fun v1 => if v1 = 0 then (cV 13 h a0 (f_X12_is F a0 1 h) fun v3 h4 => if v3 = 0 then (cV 13 h4 a0 (f_X12_is F a0 3 h4) fun v6 h7 => if v6 = 0 then (cV 13 h7 a0 (f_X12_eats F a0 7 h7) fun v9 h10 => if v9 = 0 then (cV 13 h10 a0 (f_X12_is F a0 8 h10) fun v12 h13 => if v12 = 0 then (cV 13 h13 a0 (f_X12_is F a0 9 h13) fun v15 h16 => if v15 = 0 then (cV 13 h16 a0 (f_X12_is F a0 10 h16) fun v18 h19 => if v18 = 0 then (cV 13 h19 a0 (f_X12_fails F a0 2 h19) fun v21 h22 => some ((), h22)) else (f_X12_readLine_98 F a0 h19)) else (f_X12_readLine_98 F a0 h16)) else (cV 13 h13 a0 (f_X12_readKnows F a0 h13) fun v26 h27 => some ((), h27))) else (gR 13 h10 a0 4 fun v28 => cV 13 h10 a0 (f_X12_takes F a0 0 9 h10) fun v29 h30 => wI h30 v28 51 v29 fun h31 => some ((), h31))) else (cV 13 h7 a0 (f_X12_readDoing F a0 h7) fun v32 h33 => some ((), h33))) else (cV 13 h4 a0 (f_X12_readFact F a0 h4) fun v34 h35 => some ((), h35))) else (some ((), h))
set_option maxRecDepth 100000 in
set_option maxHeartbeats 4000000 in
theorem T_X12_readLine (F : Nat) (a0 : Nat) (h : Hp) : GM rvV I_X12_readLine 74 [.ref a0] h (f_X12_readLine F a0 h) := by
  delta f_X12_readLine
  refine GM_of (lv := [(0, .ref a0)]) (by decide +kernel) (Nat.le_of_ble_eq_true rfl) rfl ?_
  refine g_aload_n 0 dX12_readLine_0 rfl ?_
  refine g_getI fl_RX12_122 rfl dX12_readLine_1 (fun v1 => ?_)
  refine g_if_eq (tgt := 8) dX12_readLine_4 (by decide) (fun c2 => ?_) (fun c2 => ?_)
  · refine g_aload_n 0 dX12_readLine_8 rfl ?_
    refine g_iconst (v := 1) dX12_readLine_9 (by decide) ?_
    refine g_callVi (J := I_X12_is) (t := 13) (As := [.int 1]) (rest := []) mjv_X12_is ml_RX12_128 ⟨rfl, by decide, by decide⟩ (by decide) rfl rfl (Nat.le_of_ble_eq_true rfl) dX12_readLine_10 (T_X12_is F a0 1 h) (fun v3 h4 => ?_)
    refine g_if_eq (tgt := 23) dX12_readLine_13 (by decide) (fun c5 => ?_) (fun c5 => ?_)
    · refine g_aload_n 0 dX12_readLine_23 rfl ?_
      refine g_iconst (v := 3) dX12_readLine_24 (by decide) ?_
      refine g_callVi (J := I_X12_is) (t := 13) (As := [.int 3]) (rest := []) mjv_X12_is ml_RX12_128 ⟨rfl, by decide, by decide⟩ (by decide) rfl rfl (Nat.le_of_ble_eq_true rfl) dX12_readLine_25 (T_X12_is F a0 3 h4) (fun v6 h7 => ?_)
      refine g_if_eq (tgt := 38) dX12_readLine_28 (by decide) (fun c8 => ?_) (fun c8 => ?_)
      · refine g_aload_n 0 dX12_readLine_38 rfl ?_
        refine g_bipush (v := 7) dX12_readLine_39 (by decide) ?_
        refine g_callVi (J := I_X12_eats) (t := 13) (As := [.int 7]) (rest := []) mjv_X12_eats ml_RX12_157 ⟨rfl, by decide, by decide⟩ (by decide) rfl rfl (Nat.le_of_ble_eq_true rfl) dX12_readLine_41 (T_X12_eats F a0 7 h7) (fun v9 h10 => ?_)
        refine g_if_eq (tgt := 64) dX12_readLine_44 (by decide) (fun c11 => ?_) (fun c11 => ?_)
        · refine g_aload_n 0 dX12_readLine_64 rfl ?_
          refine g_bipush (v := 8) dX12_readLine_65 (by decide) ?_
          refine g_callVi (J := I_X12_is) (t := 13) (As := [.int 8]) (rest := []) mjv_X12_is ml_RX12_128 ⟨rfl, by decide, by decide⟩ (by decide) rfl rfl (Nat.le_of_ble_eq_true rfl) dX12_readLine_67 (T_X12_is F a0 8 h10) (fun v12 h13 => ?_)
          refine g_if_eq (tgt := 80) dX12_readLine_70 (by decide) (fun c14 => ?_) (fun c14 => ?_)
          · refine g_aload_n 0 dX12_readLine_80 rfl ?_
            refine g_bipush (v := 9) dX12_readLine_81 (by decide) ?_
            refine g_callVi (J := I_X12_is) (t := 13) (As := [.int 9]) (rest := []) mjv_X12_is ml_RX12_128 ⟨rfl, by decide, by decide⟩ (by decide) rfl rfl (Nat.le_of_ble_eq_true rfl) dX12_readLine_83 (T_X12_is F a0 9 h13) (fun v15 h16 => ?_)
            refine g_if_ne (tgt := 98) dX12_readLine_86 (by decide) (fun c17 => ?_) (fun c17 => ?_)
            · refine g_aload_n 0 dX12_readLine_89 rfl ?_
              refine g_bipush (v := 10) dX12_readLine_90 (by decide) ?_
              refine g_callVi (J := I_X12_is) (t := 13) (As := [.int 10]) (rest := []) mjv_X12_is ml_RX12_128 ⟨rfl, by decide, by decide⟩ (by decide) rfl rfl (Nat.le_of_ble_eq_true rfl) dX12_readLine_92 (T_X12_is F a0 10 h16) (fun v18 h19 => ?_)
              refine g_if_eq (tgt := 112) dX12_readLine_95 (by decide) (fun c20 => ?_) (fun c20 => ?_)
              · refine g_aload_n 0 dX12_readLine_112 rfl ?_
                refine g_iconst (v := 2) dX12_readLine_113 (by decide) ?_
                refine g_callVv (J := I_X12_fails) (t := 13) (As := [.int 2]) (rest := []) mjv_X12_fails ml_RX12_134 ⟨rfl, by decide, by decide⟩ (by decide) rfl rfl (Nat.le_of_ble_eq_true rfl) dX12_readLine_114 (T_X12_fails F a0 2 h19) (fun v21 h22 => ?_)
                exact g_vret rfl dX12_readLine_117
              · refine G_lv [0] rfl ?_
                exact T_X12_readLine_98 F a0 h19
            · refine G_lv [0] rfl ?_
              exact T_X12_readLine_98 F a0 h16
          · refine g_aload_n 0 dX12_readLine_73 rfl ?_
            refine g_callVv (J := I_X12_readKnows) (t := 13) (As := []) (rest := []) mjv_X12_readKnows ml_RX12_191 ⟨rfl, by decide, by decide⟩ (by decide) rfl rfl (Nat.le_of_ble_eq_true rfl) dX12_readLine_74 (T_X12_readKnows F a0 h13) (fun v26 h27 => ?_)
            refine g_goto (tgt := 117) dX12_readLine_77 (by decide) ?_
            exact g_vret rfl dX12_readLine_117
        · refine g_aload_n 0 dX12_readLine_47 rfl ?_
          refine g_getR fl_RX12_24 rfl dX12_readLine_48 (fun v28 => ?_)
          refine g_bipush (v := 51) dX12_readLine_51 (by decide) ?_
          refine g_aload_n 0 dX12_readLine_53 rfl ?_
          refine g_iconst (v := 0) dX12_readLine_54 (by decide) ?_
          refine g_bipush (v := 9) dX12_readLine_55 (by decide) ?_
          refine g_callVi (J := I_X12_takes) (t := 13) (As := [.int 0, .int 9]) (rest := [.int 51, .ref v28]) mjv_X12_takes ml_RX12_178 ⟨rfl, by decide, by decide⟩ (by decide) rfl rfl (Nat.le_of_ble_eq_true rfl) dX12_readLine_57 (T_X12_takes F a0 0 9 h10) (fun v29 h30 => ?_)
          refine g_iast dX12_readLine_60 (fun h31 => ?_)
          refine g_goto (tgt := 117) dX12_readLine_61 (by decide) ?_
          exact g_vret rfl dX12_readLine_117
      · refine g_aload_n 0 dX12_readLine_31 rfl ?_
        refine g_callVv (J := I_X12_readDoing) (t := 13) (As := []) (rest := []) mjv_X12_readDoing ml_RX12_188 ⟨rfl, by decide, by decide⟩ (by decide) rfl rfl (Nat.le_of_ble_eq_true rfl) dX12_readLine_32 (T_X12_readDoing F a0 h7) (fun v32 h33 => ?_)
        refine g_goto (tgt := 117) dX12_readLine_35 (by decide) ?_
        exact g_vret rfl dX12_readLine_117
    · refine g_aload_n 0 dX12_readLine_16 rfl ?_
      refine g_callVv (J := I_X12_readFact) (t := 13) (As := []) (rest := []) mjv_X12_readFact ml_RX12_185 ⟨rfl, by decide, by decide⟩ (by decide) rfl rfl (Nat.le_of_ble_eq_true rfl) dX12_readLine_17 (T_X12_readFact F a0 h4) (fun v34 h35 => ?_)
      refine g_goto (tgt := 117) dX12_readLine_20 (by decide) ?_
      exact g_vret rfl dX12_readLine_117
  · exact g_vret rfl dX12_readLine_7
set_option maxRecDepth 100000 in
noncomputable def f_X12_house_141_b (F : Nat) (K141 : Nat → Int32 → Hp → Option (Int32 × Hp)) (l0 : Nat) (l2 : Int32) (h : Hp) : Option (Int32 × Hp) :=
  if 1044 ≤ l2 then (gR 13 h l0 1 fun v34 => aI 20 h v34 0 fun v35 => some (v35, h)) else (gR 13 h l0 1 fun v36 => gR 13 h l0 4 fun v37 => aI 20 h v37 l2 fun v38 => wI h v36 l2 v38 fun h39 => K141 l0 (l2 + 1) h39)
set_option maxRecDepth 100000 in
set_option maxHeartbeats 4000000 in
theorem T_X12_house_141_b (F : Nat) {K141 : Nat → Int32 → Hp → Option (Int32 × Hp)} (hK141 : ∀ (l0 : Nat) (l2 : Int32) (h : Hp), G rvI I_X12_house 75 141 [(0, .ref l0), (2, .int l2)] [] h (K141 l0 l2 h)) (l0 : Nat) (l2 : Int32) (h : Hp) : G rvI I_X12_house 75 141 [(0, .ref l0), (2, .int l2)] [] h (f_X12_house_141_b F K141 l0 l2 h) := by
  delta f_X12_house_141_b
  refine g_iload_n 1 dX12_house_141 rfl ?_
  refine g_sipush (v := 1044) dX12_house_142 (by decide) ?_
  refine g_icmp_ge (tgt := 166) dX12_house_145 (by decide) (fun c33 => ?_) (fun c33 => ?_)
  · refine g_aload_n 0 dX12_house_166 rfl ?_
    refine g_getR fl_RX12_13 rfl dX12_house_167 (fun v34 => ?_)
    refine g_iconst (v := 0) dX12_house_170 (by decide) ?_
    refine g_iald dX12_house_171 (fun v35 => ?_)
    exact g_iret rfl dX12_house_172
  · refine g_aload_n 0 dX12_house_148 rfl ?_
    refine g_getR fl_RX12_13 rfl dX12_house_149 (fun v36 => ?_)
    refine g_iload_n 1 dX12_house_152 rfl ?_
    refine g_aload_n 0 dX12_house_153 rfl ?_
    refine g_getR fl_RX12_24 rfl dX12_house_154 (fun v37 => ?_)
    refine g_iload_n 1 dX12_house_157 rfl ?_
    refine g_iald dX12_house_158 (fun v38 => ?_)
    refine g_iast dX12_house_159 (fun h39 => ?_)
    refine g_iinc (v' := l2 + 1) (lv' := [(2, .int (l2 + 1)), (0, .ref l0)]) 1 dX12_house_160 rfl rfl (by decide) rfl ?_
    refine g_goto (tgt := 141) dX12_house_163 (by decide) ?_
    refine G_lv [1, 0] rfl ?_
    exact hK141 l0 (l2 + 1) h39
set_option maxRecDepth 100000 in
noncomputable def f_X12_house_141 (F : Nat) : Nat → Nat → Int32 → Hp → Option (Int32 × Hp)
  | 0, _, _, _ => none
  | n + 1, l0, l2, h => f_X12_house_141_b F (f_X12_house_141 F n) l0 l2 h
set_option maxRecDepth 100000 in
set_option maxHeartbeats 4000000 in
theorem T_X12_house_141 (F : Nat) : ∀ (n : Nat) (l0 : Nat) (l2 : Int32) (h : Hp), G rvI I_X12_house 75 141 [(0, .ref l0), (2, .int l2)] [] h (f_X12_house_141 F n l0 l2 h) := by
  intro n
  induction n with
  | zero => intros; exact G_none
  | succ n ih => intro l0 l2 h; exact T_X12_house_141_b F ih l0 l2 h
set_option maxRecDepth 100000 in
noncomputable def f_X12_house_121 (F : Nat) (l0 : Nat) (s0 : Int32) (s1 : Nat) (h : Hp) : Option (Int32 × Hp) :=
  pI 13 h s1 14 s0 fun h30 => gI 13 h30 l0 11 fun v31 => if v31 = 0 then (f_X12_house_141 F F l0 0 h30) else (gI 13 h30 l0 11 fun v40 => some (((-30) - v40), h30))
set_option maxRecDepth 100000 in
set_option maxHeartbeats 4000000 in
theorem T_X12_house_121 (F : Nat) (l0 : Nat) (s0 : Int32) (s1 : Nat) (h : Hp) : G rvI I_X12_house 75 121 [(0, .ref l0)] [.int s0, .ref s1] h (f_X12_house_121 F l0 s0 s1 h) := by
  delta f_X12_house_121
  refine g_putI fl_RX12_27 (Or.inl rfl) dX12_house_121 (fun h30 => ?_)
  refine g_aload_n 0 dX12_house_124 rfl ?_
  refine g_getI fl_RX12_122 rfl dX12_house_125 (fun v31 => ?_)
  refine g_if_eq (tgt := 139) dX12_house_128 (by decide) (fun c32 => ?_) (fun c32 => ?_)
  · refine g_iconst (v := 0) dX12_house_139 (by decide) ?_
    refine g_istore_n (lv' := [(2, .int 0), (0, .ref l0)]) dX12_house_140 (by decide) rfl ?_
    refine G_lv [1, 0] rfl ?_
    exact T_X12_house_141 F F l0 0 h30
  · refine g_bipush (v := (-30)) dX12_house_131 (by decide) ?_
    refine g_aload_n 0 dX12_house_133 rfl ?_
    refine g_getI fl_RX12_122 rfl dX12_house_134 (fun v40 => ?_)
    refine g_isub dX12_house_137 ?_
    exact g_iret rfl dX12_house_138
set_option maxRecDepth 100000 in
noncomputable def f_X12_house_97 (F : Nat) (l0 : Nat) (h : Hp) : Option (Int32 × Hp) :=
  gI 13 h l0 11 fun v26 => pI 13 h l0 13 v26 fun h27 => gI 13 h27 l0 11 fun v28 => if v28 = 0 then (f_X12_house_121 F l0 (-1) l0 h27) else (gI 13 h27 l0 12 fun v41 => f_X12_house_121 F l0 v41 l0 h27)
set_option maxRecDepth 100000 in
set_option maxHeartbeats 4000000 in
theorem T_X12_house_97 (F : Nat) (l0 : Nat) (h : Hp) : G rvI I_X12_house 75 97 [(0, .ref l0)] [] h (f_X12_house_97 F l0 h) := by
  delta f_X12_house_97
  refine g_aload_n 0 dX12_house_97 rfl ?_
  refine g_aload_n 0 dX12_house_98 rfl ?_
  refine g_getI fl_RX12_122 rfl dX12_house_99 (fun v26 => ?_)
  refine g_putI fl_RX12_203 (Or.inl rfl) dX12_house_102 (fun h27 => ?_)
  refine g_aload_n 0 dX12_house_105 rfl ?_
  refine g_aload_n 0 dX12_house_106 rfl ?_
  refine g_getI fl_RX12_122 rfl dX12_house_107 (fun v28 => ?_)
  refine g_if_ne (tgt := 117) dX12_house_110 (by decide) (fun c29 => ?_) (fun c29 => ?_)
  · refine g_iconst (v := (-1)) dX12_house_113 (by decide) ?_
    refine g_goto (tgt := 121) dX12_house_114 (by decide) ?_
    refine G_lv [0] rfl ?_
    exact T_X12_house_121 F l0 (-1) l0 h27
  · refine g_aload_n 0 dX12_house_117 rfl ?_
    refine g_getI fl_RX12_125 rfl dX12_house_118 (fun v41 => ?_)
    refine G_lv [0] rfl ?_
    exact T_X12_house_121 F l0 v41 l0 h27
set_option maxRecDepth 100000 in
noncomputable def f_X12_house_70_b (F : Nat) (K70 : Nat → Hp → Option (Int32 × Hp)) (l0 : Nat) (h : Hp) : Option (Int32 × Hp) :=
  gI 13 h l0 11 fun v22 => if v22 = 0 then (gI 13 h l0 9 fun v24 => if v24 = 24 then (f_X12_house_97 F l0 h) else (cV 13 h l0 (f_X12_readLine F l0 h) fun v42 h43 => cV 13 h43 l0 (f_X12_ends F l0 h43) fun v44 h45 => K70 l0 h45)) else (f_X12_house_97 F l0 h)
set_option maxRecDepth 100000 in
set_option maxHeartbeats 4000000 in
theorem T_X12_house_70_b (F : Nat) {K70 : Nat → Hp → Option (Int32 × Hp)} (hK70 : ∀ (l0 : Nat) (h : Hp), G rvI I_X12_house 75 70 [(0, .ref l0)] [] h (K70 l0 h)) (l0 : Nat) (h : Hp) : G rvI I_X12_house 75 70 [(0, .ref l0)] [] h (f_X12_house_70_b F K70 l0 h) := by
  delta f_X12_house_70_b
  refine g_aload_n 0 dX12_house_70 rfl ?_
  refine g_getI fl_RX12_122 rfl dX12_house_71 (fun v22 => ?_)
  refine g_if_ne (tgt := 97) dX12_house_74 (by decide) (fun c23 => ?_) (fun c23 => ?_)
  · refine g_aload_n 0 dX12_house_77 rfl ?_
    refine g_getI fl_RX12_104 rfl dX12_house_78 (fun v24 => ?_)
    refine g_bipush (v := 24) dX12_house_81 (by decide) ?_
    refine g_icmp_eq (tgt := 97) dX12_house_83 (by decide) (fun c25 => ?_) (fun c25 => ?_)
    · refine G_lv [0] rfl ?_
      exact T_X12_house_97 F l0 h
    · refine g_aload_n 0 dX12_house_86 rfl ?_
      refine g_callVv (J := I_X12_readLine) (t := 13) (As := []) (rest := []) mjv_X12_readLine ml_RX12_200 ⟨rfl, by decide, by decide⟩ (by decide) rfl rfl (Nat.le_of_ble_eq_true rfl) dX12_house_87 (T_X12_readLine F l0 h) (fun v42 h43 => ?_)
      refine g_aload_n 0 dX12_house_90 rfl ?_
      refine g_callVv (J := I_X12_ends) (t := 13) (As := []) (rest := []) mjv_X12_ends ml_RX12_197 ⟨rfl, by decide, by decide⟩ (by decide) rfl rfl (Nat.le_of_ble_eq_true rfl) dX12_house_91 (T_X12_ends F l0 h43) (fun v44 h45 => ?_)
      refine g_goto (tgt := 70) dX12_house_94 (by decide) ?_
      refine G_lv [0] rfl ?_
      exact hK70 l0 h45
  · refine G_lv [0] rfl ?_
    exact T_X12_house_97 F l0 h
set_option maxRecDepth 100000 in
noncomputable def f_X12_house_70 (F : Nat) : Nat → Nat → Hp → Option (Int32 × Hp)
  | 0, _, _ => none
  | n + 1, l0, h => f_X12_house_70_b F (f_X12_house_70 F n) l0 h
set_option maxRecDepth 100000 in
set_option maxHeartbeats 4000000 in
theorem T_X12_house_70 (F : Nat) : ∀ (n : Nat) (l0 : Nat) (h : Hp), G rvI I_X12_house 75 70 [(0, .ref l0)] [] h (f_X12_house_70 F n l0 h) := by
  intro n
  induction n with
  | zero => intros; exact G_none
  | succ n ih => intro l0 h; exact T_X12_house_70_b F ih l0 h
set_option maxRecDepth 100000 in
noncomputable def f_X12_house_66 (F : Nat) (l0 : Nat) (h : Hp) : Option (Int32 × Hp) :=
  cV 13 h l0 (f_X12_ends F l0 h) fun v20 h21 => f_X12_house_70 F F l0 h21
set_option maxRecDepth 100000 in
set_option maxHeartbeats 4000000 in
theorem T_X12_house_66 (F : Nat) (l0 : Nat) (h : Hp) : G rvI I_X12_house 75 66 [(0, .ref l0)] [] h (f_X12_house_66 F l0 h) := by
  delta f_X12_house_66
  refine g_aload_n 0 dX12_house_66 rfl ?_
  refine g_callVv (J := I_X12_ends) (t := 13) (As := []) (rest := []) mjv_X12_ends ml_RX12_197 ⟨rfl, by decide, by decide⟩ (by decide) rfl rfl (Nat.le_of_ble_eq_true rfl) dX12_house_67 (T_X12_ends F l0 h) (fun v20 h21 => ?_)
  refine G_lv [0] rfl ?_
  exact T_X12_house_70 F F l0 h21
set_option maxRecDepth 100000 in
noncomputable def f_X12_house (F : Nat) (a0 : Nat) (a1 : Int32) (h : Hp) : Option (Int32 × Hp) :=
  pI 13 h a0 0 0 fun h1 => gI 13 h1 a0 5 fun v2 => bd (f_X12_within F (a1.toInt64) 0 (v2.toInt64) h1) fun v3 h4 => if v3 = 0 then (some ((-3), h4)) else (pI 13 h4 a0 8 a1 fun h6 => pI 13 h6 a0 5 0 fun h7 => pI 13 h7 a0 7 0 fun h8 => pI 13 h8 a0 11 0 fun h9 => gR 13 h9 a0 4 fun v10 => bd (f_X12_plain F v10 h9) fun v11 h12 => cV 13 h12 a0 (f_X12_next F a0 h12) fun v13 h14 => cV 13 h14 a0 (f_X12_eats F a0 0 h14) fun v15 h16 => if v15 = 0 then (cV 13 h16 a0 (f_X12_fails F a0 2 h16) fun v18 h19 => f_X12_house_66 F a0 h19) else (f_X12_house_66 F a0 h16))
set_option maxRecDepth 100000 in
set_option maxHeartbeats 4000000 in
theorem T_X12_house (F : Nat) (a0 : Nat) (a1 : Int32) (h : Hp) : GM rvI I_X12_house 75 [.ref a0, .int a1] h (f_X12_house F a0 a1 h) := by
  delta f_X12_house
  refine GM_of (lv := [(0, .ref a0), (1, .int a1)]) (by decide +kernel) (Nat.le_of_ble_eq_true rfl) rfl ?_
  refine g_aload_n 0 dX12_house_0 rfl ?_
  refine g_iconst (v := 0) dX12_house_1 (by decide) ?_
  refine g_putI fl_RX12_1 (Or.inl rfl) dX12_house_2 (fun h1 => ?_)
  refine g_iload_n 1 dX12_house_5 rfl ?_
  refine g_i2l dX12_house_6 ?_
  refine g_lconst (v := 0) dX12_house_7 (by decide) ?_
  refine g_aload_n 0 dX12_house_8 rfl ?_
  refine g_getI fl_RX12_76 rfl dX12_house_9 (fun v2 => ?_)
  refine g_i2l dX12_house_12 ?_
  refine g_callSi (J := I_X12_within) (As := [.long (a1.toInt64), .long 0, .long (v2.toInt64)]) (rest := []) mjs_X12_within ml_RX12_138 (by decide) rfl rfl (Nat.le_of_ble_eq_true rfl) dX12_house_13 (T_X12_within F (a1.toInt64) 0 (v2.toInt64) h1) (fun v3 h4 => ?_)
  refine g_if_ne (tgt := 22) dX12_house_16 (by decide) (fun c5 => ?_) (fun c5 => ?_)
  · refine g_bipush (v := (-3)) dX12_house_19 (by decide) ?_
    exact g_iret rfl dX12_house_21
  · refine g_aload_n 0 dX12_house_22 rfl ?_
    refine g_iload_n 1 dX12_house_23 rfl ?_
    refine g_putI fl_RX12_79 (Or.inl rfl) dX12_house_24 (fun h6 => ?_)
    refine g_aload_n 0 dX12_house_27 rfl ?_
    refine g_iconst (v := 0) dX12_house_28 (by decide) ?_
    refine g_putI fl_RX12_76 (Or.inl rfl) dX12_house_29 (fun h7 => ?_)
    refine g_aload_n 0 dX12_house_32 rfl ?_
    refine g_iconst (v := 0) dX12_house_33 (by decide) ?_
    refine g_putI fl_RX12_97 (Or.inl rfl) dX12_house_34 (fun h8 => ?_)
    refine g_aload_n 0 dX12_house_37 rfl ?_
    refine g_iconst (v := 0) dX12_house_38 (by decide) ?_
    refine g_putI fl_RX12_122 (Or.inl rfl) dX12_house_39 (fun h9 => ?_)
    refine g_aload_n 0 dX12_house_42 rfl ?_
    refine g_getR fl_RX12_24 rfl dX12_house_43 (fun v10 => ?_)
    refine g_callSv (J := I_X12_plain) (As := [.ref v10]) (rest := []) mjs_X12_plain ml_RX12_72 (by decide) rfl rfl (Nat.le_of_ble_eq_true rfl) dX12_house_46 (T_X12_plain F v10 h9) (fun v11 h12 => ?_)
    refine g_aload_n 0 dX12_house_49 rfl ?_
    refine g_callVv (J := I_X12_next) (t := 13) (As := []) (rest := []) mjv_X12_next ml_RX12_131 ⟨rfl, by decide, by decide⟩ (by decide) rfl rfl (Nat.le_of_ble_eq_true rfl) dX12_house_50 (T_X12_next F a0 h12) (fun v13 h14 => ?_)
    refine g_aload_n 0 dX12_house_53 rfl ?_
    refine g_iconst (v := 0) dX12_house_54 (by decide) ?_
    refine g_callVi (J := I_X12_eats) (t := 13) (As := [.int 0]) (rest := []) mjv_X12_eats ml_RX12_157 ⟨rfl, by decide, by decide⟩ (by decide) rfl rfl (Nat.le_of_ble_eq_true rfl) dX12_house_55 (T_X12_eats F a0 0 h14) (fun v15 h16 => ?_)
    refine g_if_ne (tgt := 66) dX12_house_58 (by decide) (fun c17 => ?_) (fun c17 => ?_)
    · refine g_aload_n 0 dX12_house_61 rfl ?_
      refine g_iconst (v := 2) dX12_house_62 (by decide) ?_
      refine g_callVv (J := I_X12_fails) (t := 13) (As := [.int 2]) (rest := []) mjv_X12_fails ml_RX12_134 ⟨rfl, by decide, by decide⟩ (by decide) rfl rfl (Nat.le_of_ble_eq_true rfl) dX12_house_63 (T_X12_fails F a0 2 h16) (fun v18 h19 => ?_)
      refine G_lv [0] rfl ?_
      exact T_X12_house_66 F a0 h19
    · refine G_lv [0] rfl ?_
      exact T_X12_house_66 F a0 h16
set_option maxRecDepth 100000 in
noncomputable def f_X12_image_20_b (F : Nat) (K20 : Nat → Int32 → Int32 → Hp → Option (Int32 × Hp)) (l0 : Nat) (l1 : Int32) (l2 : Int32) (h : Hp) : Option (Int32 × Hp) :=
  if 1044 ≤ l2 then (gR 13 h l0 2 fun v6 => wZ h v6 l1 1 fun h7 => some (0, h7)) else (gR 13 h l0 1 fun v8 => gR 13 h l0 1 fun v9 => aI 20 h v9 l2 fun v10 => wI h v8 ((1044 * (l1 + 1)) + l2) v10 fun h11 => K20 l0 l1 (l2 + 1) h11)
set_option maxRecDepth 100000 in
set_option maxHeartbeats 4000000 in
theorem T_X12_image_20_b (F : Nat) {K20 : Nat → Int32 → Int32 → Hp → Option (Int32 × Hp)} (hK20 : ∀ (l0 : Nat) (l1 : Int32) (l2 : Int32) (h : Hp), G rvI I_X12_image 2 20 [(0, .ref l0), (1, .int l1), (2, .int l2)] [] h (K20 l0 l1 l2 h)) (l0 : Nat) (l1 : Int32) (l2 : Int32) (h : Hp) : G rvI I_X12_image 2 20 [(0, .ref l0), (1, .int l1), (2, .int l2)] [] h (f_X12_image_20_b F K20 l0 l1 l2 h) := by
  delta f_X12_image_20_b
  refine g_iload_n 2 dX12_image_20 rfl ?_
  refine g_sipush (v := 1044) dX12_image_21 (by decide) ?_
  refine g_icmp_ge (tgt := 53) dX12_image_24 (by decide) (fun c5 => ?_) (fun c5 => ?_)
  · refine g_aload_n 0 dX12_image_53 rfl ?_
    refine g_getR fl_RX12_17 rfl dX12_image_54 (fun v6 => ?_)
    refine g_iload_n 1 dX12_image_57 rfl ?_
    refine g_iconst (v := 1) dX12_image_58 (by decide) ?_
    refine g_zast dX12_image_59 (fun h7 => ?_)
    refine g_iconst (v := 0) dX12_image_60 (by decide) ?_
    exact g_iret rfl dX12_image_61
  · refine g_aload_n 0 dX12_image_27 rfl ?_
    refine g_getR fl_RX12_13 rfl dX12_image_28 (fun v8 => ?_)
    refine g_sipush (v := 1044) dX12_image_31 (by decide) ?_
    refine g_iload_n 1 dX12_image_34 rfl ?_
    refine g_iconst (v := 1) dX12_image_35 (by decide) ?_
    refine g_iadd dX12_image_36 ?_
    refine g_imul dX12_image_37 ?_
    refine g_iload_n 2 dX12_image_38 rfl ?_
    refine g_iadd dX12_image_39 ?_
    refine g_aload_n 0 dX12_image_40 rfl ?_
    refine g_getR fl_RX12_13 rfl dX12_image_41 (fun v9 => ?_)
    refine g_iload_n 2 dX12_image_44 rfl ?_
    refine g_iald dX12_image_45 (fun v10 => ?_)
    refine g_iast dX12_image_46 (fun h11 => ?_)
    refine g_iinc (v' := l2 + 1) (lv' := [(2, .int (l2 + 1)), (0, .ref l0), (1, .int l1)]) 2 dX12_image_47 rfl rfl (by decide) rfl ?_
    refine g_goto (tgt := 20) dX12_image_50 (by decide) ?_
    refine G_lv [1, 2, 0] rfl ?_
    exact hK20 l0 l1 (l2 + 1) h11
set_option maxRecDepth 100000 in
noncomputable def f_X12_image_20 (F : Nat) : Nat → Nat → Int32 → Int32 → Hp → Option (Int32 × Hp)
  | 0, _, _, _, _ => none
  | n + 1, l0, l1, l2, h => f_X12_image_20_b F (f_X12_image_20 F n) l0 l1 l2 h
set_option maxRecDepth 100000 in
set_option maxHeartbeats 4000000 in
theorem T_X12_image_20 (F : Nat) : ∀ (n : Nat) (l0 : Nat) (l1 : Int32) (l2 : Int32) (h : Hp), G rvI I_X12_image 2 20 [(0, .ref l0), (1, .int l1), (2, .int l2)] [] h (f_X12_image_20 F n l0 l1 l2 h) := by
  intro n
  induction n with
  | zero => intros; exact G_none
  | succ n ih => intro l0 l1 l2 h; exact T_X12_image_20_b F ih l0 l1 l2 h
set_option maxRecDepth 100000 in
noncomputable def f_X12_image (F : Nat) (a0 : Nat) (a1 : Int32) (h : Hp) : Option (Int32 × Hp) :=
  pI 13 h a0 0 0 fun h1 => bd (f_X12_within F (a1.toInt64) 0 1 h1) fun v2 h3 => if v2 = 0 then (some ((-2), h3)) else (f_X12_image_20 F F a0 a1 0 h3)
set_option maxRecDepth 100000 in
set_option maxHeartbeats 4000000 in
theorem T_X12_image (F : Nat) (a0 : Nat) (a1 : Int32) (h : Hp) : GM rvI I_X12_image 2 [.ref a0, .int a1] h (f_X12_image F a0 a1 h) := by
  delta f_X12_image
  refine GM_of (lv := [(0, .ref a0), (1, .int a1)]) (by decide +kernel) (Nat.le_of_ble_eq_true rfl) rfl ?_
  refine g_aload_n 0 dX12_image_0 rfl ?_
  refine g_iconst (v := 0) dX12_image_1 (by decide) ?_
  refine g_putI fl_RX12_1 (Or.inl rfl) dX12_image_2 (fun h1 => ?_)
  refine g_iload_n 1 dX12_image_5 rfl ?_
  refine g_i2l dX12_image_6 ?_
  refine g_lconst (v := 0) dX12_image_7 (by decide) ?_
  refine g_lconst (v := 1) dX12_image_8 (by decide) ?_
  refine g_callSi (J := I_X12_within) (As := [.long (a1.toInt64), .long 0, .long 1]) (rest := []) mjs_X12_within ml_RX12_138 (by decide) rfl rfl (Nat.le_of_ble_eq_true rfl) dX12_image_9 (T_X12_within F (a1.toInt64) 0 1 h1) (fun v2 h3 => ?_)
  refine g_if_ne (tgt := 18) dX12_image_12 (by decide) (fun c4 => ?_) (fun c4 => ?_)
  · refine g_bipush (v := (-2)) dX12_image_15 (by decide) ?_
    exact g_iret rfl dX12_image_17
  · refine g_iconst (v := 0) dX12_image_18 (by decide) ?_
    refine g_istore_n (lv' := [(2, .int 0), (0, .ref a0), (1, .int a1)]) dX12_image_19 (by decide) rfl ?_
    refine G_lv [1, 2, 0] rfl ?_
    exact T_X12_image_20 F F a0 a1 0 h3
