/-! L2, by program (wip/whole/gen/gen.py) -/
set_option maxRecDepth 100000 in
noncomputable def f_X1_hasMoveTo_100 (F : Nat) (Rc : Nat → Nat → Int32 → Int32 → Int32 → Hp → Option (Int32 × Hp)) (l1 : Int32) (s0 : Int32) (s1 : Int32) (s2 : Int32) (s3 : Nat) (h : Hp) : Option (Int32 × Hp) :=
  cV 2 h s3 (Rc 1 s3 s2 s1 s0 h) fun v5 h6 => if v5 = l1 then (some (1, h6)) else (some (0, h6))
set_option maxRecDepth 100000 in
set_option maxHeartbeats 4000000 in
theorem T_X1_hasMoveTo_100 (F : Nat) {d dR : Nat} (hd1 : 4 ≤ d) (hdR : dR + 1 ≤ d) {Rc : Nat → Nat → Int32 → Int32 → Int32 → Hp → Option (Int32 × Hp)} (hR : ∀ (w : Nat) (a0 : Nat) (a1 : Int32) (a2 : Int32) (a3 : Int32) (h : Hp), GM rvI (I_grp_X1_hasMoveTo w) dR [.ref a0, .int a1, .int a2, .int a3] h (Rc w a0 a1 a2 a3 h)) (l1 : Int32) (s0 : Int32) (s1 : Int32) (s2 : Int32) (s3 : Nat) (h : Hp) : G rvI I_X1_hasMoveTo d 100 [(1, .int l1)] [.int s0, .int s1, .int s2, .ref s3] h (f_X1_hasMoveTo_100 F Rc l1 s0 s1 s2 s3 h) := by
  delta f_X1_hasMoveTo_100
  refine g_callVi (J := I_X1_isForced) (t := 2) (As := [.int s2, .int s1, .int s0]) (rest := []) mjv_X1_isForced ml_RX1_41 ⟨rfl, by decide, by decide⟩ hdR rfl rfl (Nat.le_of_ble_eq_true rfl) dX1_hasMoveTo_100 (hR 1 s3 s2 s1 s0 h) (fun v5 h6 => ?_)
  refine g_iload_n 0 dX1_hasMoveTo_103 rfl ?_
  refine g_icmp_ne (tgt := 111) dX1_hasMoveTo_104 (by decide) (fun c7 => ?_) (fun c7 => ?_)
  · refine g_iconst (v := 1) dX1_hasMoveTo_107 (by decide) ?_
    refine g_goto (tgt := 112) dX1_hasMoveTo_108 (by decide) ?_
    exact g_zret (ty := .boolean) rfl rfl dX1_hasMoveTo_112
  · refine g_iconst (v := 0) dX1_hasMoveTo_111 (by decide) ?_
    exact g_zret (ty := .boolean) rfl rfl dX1_hasMoveTo_112
set_option maxRecDepth 100000 in
noncomputable def f_X1_hasMoveTo_71 (F : Nat) (Rc : Nat → Nat → Int32 → Int32 → Int32 → Hp → Option (Int32 × Hp)) (K3 : Nat → Int32 → Int32 → Int32 → Int32 → Hp → Option (Int32 × Hp)) (K12 : Nat → Int32 → Int32 → Int32 → Int32 → Int32 → Hp → Option (Int32 × Hp)) (l0 : Nat) (l1 : Int32) (l2 : Int32) (l3 : Int32) (l4 : Int32) (l5 : Int32) (h : Hp) : Option (Int32 × Hp) :=
  K12 l0 l1 l2 l3 l4 (l5 + 1) h
set_option maxRecDepth 100000 in
set_option maxHeartbeats 4000000 in
theorem T_X1_hasMoveTo_71 (F : Nat) {d dR : Nat} (hd1 : 4 ≤ d) (hdR : dR + 1 ≤ d) {Rc : Nat → Nat → Int32 → Int32 → Int32 → Hp → Option (Int32 × Hp)} (hR : ∀ (w : Nat) (a0 : Nat) (a1 : Int32) (a2 : Int32) (a3 : Int32) (h : Hp), GM rvI (I_grp_X1_hasMoveTo w) dR [.ref a0, .int a1, .int a2, .int a3] h (Rc w a0 a1 a2 a3 h)) {K3 : Nat → Int32 → Int32 → Int32 → Int32 → Hp → Option (Int32 × Hp)} (hK3 : ∀ (l0 : Nat) (l1 : Int32) (l2 : Int32) (l3 : Int32) (l4 : Int32) (h : Hp), G rvI I_X1_hasMoveTo d 3 [(0, .ref l0), (1, .int l1), (2, .int l2), (3, .int l3), (4, .int l4)] [] h (K3 l0 l1 l2 l3 l4 h)) {K12 : Nat → Int32 → Int32 → Int32 → Int32 → Int32 → Hp → Option (Int32 × Hp)} (hK12 : ∀ (l0 : Nat) (l1 : Int32) (l2 : Int32) (l3 : Int32) (l4 : Int32) (l5 : Int32) (h : Hp), G rvI I_X1_hasMoveTo d 12 [(0, .ref l0), (1, .int l1), (2, .int l2), (3, .int l3), (4, .int l4), (5, .int l5)] [] h (K12 l0 l1 l2 l3 l4 l5 h)) (l0 : Nat) (l1 : Int32) (l2 : Int32) (l3 : Int32) (l4 : Int32) (l5 : Int32) (h : Hp) : G rvI I_X1_hasMoveTo d 71 [(0, .ref l0), (1, .int l1), (2, .int l2), (3, .int l3), (4, .int l4), (5, .int l5)] [] h (f_X1_hasMoveTo_71 F Rc K3 K12 l0 l1 l2 l3 l4 l5 h) := by
  delta f_X1_hasMoveTo_71
  refine g_iinc (v' := l5 + 1) (lv' := [(5, .int (l5 + 1)), (0, .ref l0), (1, .int l1), (2, .int l2), (3, .int l3), (4, .int l4)]) 5 dX1_hasMoveTo_71 rfl rfl (by decide) rfl ?_
  refine g_goto (tgt := 12) dX1_hasMoveTo_74 (by decide) ?_
  refine G_lv [1, 2, 3, 4, 5, 0] rfl ?_
  exact hK12 l0 l1 l2 l3 l4 (l5 + 1) h
set_option maxRecDepth 100000 in
noncomputable def f_X1_hasMoveTo_62 (F : Nat) (Rc : Nat → Nat → Int32 → Int32 → Int32 → Hp → Option (Int32 × Hp)) (K3 : Nat → Int32 → Int32 → Int32 → Int32 → Hp → Option (Int32 × Hp)) (K12 : Nat → Int32 → Int32 → Int32 → Int32 → Int32 → Hp → Option (Int32 × Hp)) (l0 : Nat) (l1 : Int32) (l2 : Int32) (l3 : Int32) (l4 : Int32) (l5 : Int32) (s0 : Int32) (s1 : Int32) (s2 : Int32) (s3 : Nat) (h : Hp) : Option (Int32 × Hp) :=
  cV 2 h s3 (Rc 1 s3 s2 s1 s0 h) fun v17 h18 => if v17 = l1 then (some (1, h18)) else (f_X1_hasMoveTo_71 F Rc K3 K12 l0 l1 l2 l3 l4 l5 h18)
set_option maxRecDepth 100000 in
set_option maxHeartbeats 4000000 in
theorem T_X1_hasMoveTo_62 (F : Nat) {d dR : Nat} (hd1 : 4 ≤ d) (hdR : dR + 1 ≤ d) {Rc : Nat → Nat → Int32 → Int32 → Int32 → Hp → Option (Int32 × Hp)} (hR : ∀ (w : Nat) (a0 : Nat) (a1 : Int32) (a2 : Int32) (a3 : Int32) (h : Hp), GM rvI (I_grp_X1_hasMoveTo w) dR [.ref a0, .int a1, .int a2, .int a3] h (Rc w a0 a1 a2 a3 h)) {K3 : Nat → Int32 → Int32 → Int32 → Int32 → Hp → Option (Int32 × Hp)} (hK3 : ∀ (l0 : Nat) (l1 : Int32) (l2 : Int32) (l3 : Int32) (l4 : Int32) (h : Hp), G rvI I_X1_hasMoveTo d 3 [(0, .ref l0), (1, .int l1), (2, .int l2), (3, .int l3), (4, .int l4)] [] h (K3 l0 l1 l2 l3 l4 h)) {K12 : Nat → Int32 → Int32 → Int32 → Int32 → Int32 → Hp → Option (Int32 × Hp)} (hK12 : ∀ (l0 : Nat) (l1 : Int32) (l2 : Int32) (l3 : Int32) (l4 : Int32) (l5 : Int32) (h : Hp), G rvI I_X1_hasMoveTo d 12 [(0, .ref l0), (1, .int l1), (2, .int l2), (3, .int l3), (4, .int l4), (5, .int l5)] [] h (K12 l0 l1 l2 l3 l4 l5 h)) (l0 : Nat) (l1 : Int32) (l2 : Int32) (l3 : Int32) (l4 : Int32) (l5 : Int32) (s0 : Int32) (s1 : Int32) (s2 : Int32) (s3 : Nat) (h : Hp) : G rvI I_X1_hasMoveTo d 62 [(0, .ref l0), (1, .int l1), (2, .int l2), (3, .int l3), (4, .int l4), (5, .int l5)] [.int s0, .int s1, .int s2, .ref s3] h (f_X1_hasMoveTo_62 F Rc K3 K12 l0 l1 l2 l3 l4 l5 s0 s1 s2 s3 h) := by
  delta f_X1_hasMoveTo_62
  refine g_callVi (J := I_X1_isForced) (t := 2) (As := [.int s2, .int s1, .int s0]) (rest := []) mjv_X1_isForced ml_RX1_41 ⟨rfl, by decide, by decide⟩ hdR rfl rfl (Nat.le_of_ble_eq_true rfl) dX1_hasMoveTo_62 (hR 1 s3 s2 s1 s0 h) (fun v17 h18 => ?_)
  refine g_iload_n 1 dX1_hasMoveTo_65 rfl ?_
  refine g_icmp_ne (tgt := 71) dX1_hasMoveTo_66 (by decide) (fun c19 => ?_) (fun c19 => ?_)
  · refine g_iconst (v := 1) dX1_hasMoveTo_69 (by decide) ?_
    exact g_zret (ty := .boolean) rfl rfl dX1_hasMoveTo_70
  · refine G_lv [0, 1, 2, 3, 4, 5] rfl ?_
    exact T_X1_hasMoveTo_71 F hd1 hdR hR hK3 hK12 l0 l1 l2 l3 l4 l5 h18
set_option maxRecDepth 100000 in
noncomputable def f_X1_hasMoveTo_12_b (F : Nat) (Rc : Nat → Nat → Int32 → Int32 → Int32 → Hp → Option (Int32 × Hp)) (K3 : Nat → Int32 → Int32 → Int32 → Int32 → Hp → Option (Int32 × Hp)) (K12 : Nat → Int32 → Int32 → Int32 → Int32 → Int32 → Hp → Option (Int32 × Hp)) (l0 : Nat) (l1 : Int32) (l2 : Int32) (l3 : Int32) (l4 : Int32) (l5 : Int32) (h : Hp) : Option (Int32 × Hp) :=
  gR 2 h l0 1 fun v8 => gI 3 h v8 0 fun v9 => if v9 ≤ l5 then (K3 l0 l1 l2 l3 (l4 + 1) h) else (gR 2 h l0 1 fun v11 => gI 2 h l0 2 fun v12 => cV 3 h v11 (f_X2_afterTelling F v11 l2 v12 l4 l5 h) fun v13 h14 => if v13 < 0 then (f_X1_hasMoveTo_71 F Rc K3 K12 l0 l1 l2 l3 l4 l5 h14) else (if l1 = 0 then (f_X1_hasMoveTo_62 F Rc K3 K12 l0 l1 l2 l3 l4 l5 1 (l3 - 1) v13 l0 h14) else (f_X1_hasMoveTo_62 F Rc K3 K12 l0 l1 l2 l3 l4 l5 0 (l3 - 1) v13 l0 h14)))
set_option maxRecDepth 100000 in
set_option maxHeartbeats 4000000 in
theorem T_X1_hasMoveTo_12_b (F : Nat) {d dR : Nat} (hd1 : 4 ≤ d) (hdR : dR + 1 ≤ d) {Rc : Nat → Nat → Int32 → Int32 → Int32 → Hp → Option (Int32 × Hp)} (hR : ∀ (w : Nat) (a0 : Nat) (a1 : Int32) (a2 : Int32) (a3 : Int32) (h : Hp), GM rvI (I_grp_X1_hasMoveTo w) dR [.ref a0, .int a1, .int a2, .int a3] h (Rc w a0 a1 a2 a3 h)) {K3 : Nat → Int32 → Int32 → Int32 → Int32 → Hp → Option (Int32 × Hp)} (hK3 : ∀ (l0 : Nat) (l1 : Int32) (l2 : Int32) (l3 : Int32) (l4 : Int32) (h : Hp), G rvI I_X1_hasMoveTo d 3 [(0, .ref l0), (1, .int l1), (2, .int l2), (3, .int l3), (4, .int l4)] [] h (K3 l0 l1 l2 l3 l4 h)) {K12 : Nat → Int32 → Int32 → Int32 → Int32 → Int32 → Hp → Option (Int32 × Hp)} (hK12 : ∀ (l0 : Nat) (l1 : Int32) (l2 : Int32) (l3 : Int32) (l4 : Int32) (l5 : Int32) (h : Hp), G rvI I_X1_hasMoveTo d 12 [(0, .ref l0), (1, .int l1), (2, .int l2), (3, .int l3), (4, .int l4), (5, .int l5)] [] h (K12 l0 l1 l2 l3 l4 l5 h)) (l0 : Nat) (l1 : Int32) (l2 : Int32) (l3 : Int32) (l4 : Int32) (l5 : Int32) (h : Hp) : G rvI I_X1_hasMoveTo d 12 [(0, .ref l0), (1, .int l1), (2, .int l2), (3, .int l3), (4, .int l4), (5, .int l5)] [] h (f_X1_hasMoveTo_12_b F Rc K3 K12 l0 l1 l2 l3 l4 l5 h) := by
  delta f_X1_hasMoveTo_12_b
  refine g_iload 5 dX1_hasMoveTo_12 rfl ?_
  refine g_aload_n 0 dX1_hasMoveTo_14 rfl ?_
  refine g_getR fl_RX1_15 rfl dX1_hasMoveTo_15 (fun v8 => ?_)
  refine g_getI fl_RX1_45 rfl dX1_hasMoveTo_18 (fun v9 => ?_)
  refine g_icmp_ge (tgt := 77) dX1_hasMoveTo_21 (by decide) (fun c10 => ?_) (fun c10 => ?_)
  · refine g_iinc (v' := l4 + 1) (lv' := [(4, .int (l4 + 1)), (0, .ref l0), (1, .int l1), (2, .int l2), (3, .int l3), (5, .int l5)]) 4 dX1_hasMoveTo_77 rfl rfl (by decide) rfl ?_
    refine g_goto (tgt := 3) dX1_hasMoveTo_80 (by decide) ?_
    refine G_lv [1, 2, 3, 4, 0] rfl ?_
    exact hK3 l0 l1 l2 l3 (l4 + 1) h
  · refine g_aload_n 0 dX1_hasMoveTo_24 rfl ?_
    refine g_getR fl_RX1_15 rfl dX1_hasMoveTo_25 (fun v11 => ?_)
    refine g_iload_n 2 dX1_hasMoveTo_28 rfl ?_
    refine g_aload_n 0 dX1_hasMoveTo_29 rfl ?_
    refine g_getI fl_RX1_19 rfl dX1_hasMoveTo_30 (fun v12 => ?_)
    refine g_iload 4 dX1_hasMoveTo_33 rfl ?_
    refine g_iload 5 dX1_hasMoveTo_35 rfl ?_
    refine g_callVi (J := I_X2_afterTelling) (t := 3) (As := [.int l2, .int v12, .int l4, .int l5]) (rest := []) mjv_X2_afterTelling ml_RX1_48 ⟨rfl, by decide, by decide⟩ (Nat.le_trans (by decide) hd1) rfl rfl (Nat.le_of_ble_eq_true rfl) dX1_hasMoveTo_37 (T_X2_afterTelling F v11 l2 v12 l4 l5 h) (fun v13 h14 => ?_)
    refine g_istore (lv' := [(6, .int v13), (0, .ref l0), (1, .int l1), (2, .int l2), (3, .int l3), (4, .int l4), (5, .int l5)]) dX1_hasMoveTo_40 (by decide) rfl ?_
    refine g_iload 0 dX1_hasMoveTo_42 rfl ?_
    refine g_if_lt (tgt := 71) dX1_hasMoveTo_44 (by decide) (fun c15 => ?_) (fun c15 => ?_)
    · refine G_lv [1, 2, 3, 4, 5, 6] rfl ?_
      exact T_X1_hasMoveTo_71 F hd1 hdR hR hK3 hK12 l0 l1 l2 l3 l4 l5 h14
    · refine g_aload_n 1 dX1_hasMoveTo_47 rfl ?_
      refine g_iload 0 dX1_hasMoveTo_48 rfl ?_
      refine g_iload_n 4 dX1_hasMoveTo_50 rfl ?_
      refine g_iconst (v := 1) dX1_hasMoveTo_51 (by decide) ?_
      refine g_isub dX1_hasMoveTo_52 ?_
      refine g_iload_n 2 dX1_hasMoveTo_53 rfl ?_
      refine g_if_ne (tgt := 61) dX1_hasMoveTo_54 (by decide) (fun c16 => ?_) (fun c16 => ?_)
      · refine g_iconst (v := 1) dX1_hasMoveTo_57 (by decide) ?_
        refine g_goto (tgt := 62) dX1_hasMoveTo_58 (by decide) ?_
        refine G_lv [1, 2, 3, 4, 5, 6] rfl ?_
        exact T_X1_hasMoveTo_62 F hd1 hdR hR hK3 hK12 l0 l1 l2 l3 l4 l5 1 (l3 - 1) v13 l0 h14
      · refine g_iconst (v := 0) dX1_hasMoveTo_61 (by decide) ?_
        refine G_lv [1, 2, 3, 4, 5, 6] rfl ?_
        exact T_X1_hasMoveTo_62 F hd1 hdR hR hK3 hK12 l0 l1 l2 l3 l4 l5 0 (l3 - 1) v13 l0 h14
set_option maxRecDepth 100000 in
noncomputable def f_X1_hasMoveTo_12 (F : Nat) (Rc : Nat → Nat → Int32 → Int32 → Int32 → Hp → Option (Int32 × Hp)) (K3 : Nat → Int32 → Int32 → Int32 → Int32 → Hp → Option (Int32 × Hp)) : Nat → Nat → Int32 → Int32 → Int32 → Int32 → Int32 → Hp → Option (Int32 × Hp)
  | 0, _, _, _, _, _, _, _ => none
  | n + 1, l0, l1, l2, l3, l4, l5, h => f_X1_hasMoveTo_12_b F Rc K3 (f_X1_hasMoveTo_12 F Rc K3 n) l0 l1 l2 l3 l4 l5 h
set_option maxRecDepth 100000 in
set_option maxHeartbeats 4000000 in
theorem T_X1_hasMoveTo_12 (F : Nat) {d dR : Nat} (hd1 : 4 ≤ d) (hdR : dR + 1 ≤ d) {Rc : Nat → Nat → Int32 → Int32 → Int32 → Hp → Option (Int32 × Hp)} (hR : ∀ (w : Nat) (a0 : Nat) (a1 : Int32) (a2 : Int32) (a3 : Int32) (h : Hp), GM rvI (I_grp_X1_hasMoveTo w) dR [.ref a0, .int a1, .int a2, .int a3] h (Rc w a0 a1 a2 a3 h)) {K3 : Nat → Int32 → Int32 → Int32 → Int32 → Hp → Option (Int32 × Hp)} (hK3 : ∀ (l0 : Nat) (l1 : Int32) (l2 : Int32) (l3 : Int32) (l4 : Int32) (h : Hp), G rvI I_X1_hasMoveTo d 3 [(0, .ref l0), (1, .int l1), (2, .int l2), (3, .int l3), (4, .int l4)] [] h (K3 l0 l1 l2 l3 l4 h)) : ∀ (n : Nat) (l0 : Nat) (l1 : Int32) (l2 : Int32) (l3 : Int32) (l4 : Int32) (l5 : Int32) (h : Hp), G rvI I_X1_hasMoveTo d 12 [(0, .ref l0), (1, .int l1), (2, .int l2), (3, .int l3), (4, .int l4), (5, .int l5)] [] h (f_X1_hasMoveTo_12 F Rc K3 n l0 l1 l2 l3 l4 l5 h) := by
  intro n
  induction n with
  | zero => intros; exact G_none
  | succ n ih => intro l0 l1 l2 l3 l4 l5 h; exact T_X1_hasMoveTo_12_b F hd1 hdR hR hK3 ih l0 l1 l2 l3 l4 l5 h
set_option maxRecDepth 100000 in
noncomputable def f_X1_hasMoveTo_3_b (F : Nat) (Rc : Nat → Nat → Int32 → Int32 → Int32 → Hp → Option (Int32 × Hp)) (K3 : Nat → Int32 → Int32 → Int32 → Int32 → Hp → Option (Int32 × Hp)) (l0 : Nat) (l1 : Int32) (l2 : Int32) (l3 : Int32) (l4 : Int32) (h : Hp) : Option (Int32 × Hp) :=
  if 2 ≤ l4 then (bd (f_X2_afterDay F l2 h) fun v2 h3 => if l1 = 0 then (f_X1_hasMoveTo_100 F Rc l1 1 (l3 - 1) v2 l0 h3) else (f_X1_hasMoveTo_100 F Rc l1 0 (l3 - 1) v2 l0 h3)) else (f_X1_hasMoveTo_12 F Rc K3 F l0 l1 l2 l3 l4 0 h)
set_option maxRecDepth 100000 in
set_option maxHeartbeats 4000000 in
theorem T_X1_hasMoveTo_3_b (F : Nat) {d dR : Nat} (hd1 : 4 ≤ d) (hdR : dR + 1 ≤ d) {Rc : Nat → Nat → Int32 → Int32 → Int32 → Hp → Option (Int32 × Hp)} (hR : ∀ (w : Nat) (a0 : Nat) (a1 : Int32) (a2 : Int32) (a3 : Int32) (h : Hp), GM rvI (I_grp_X1_hasMoveTo w) dR [.ref a0, .int a1, .int a2, .int a3] h (Rc w a0 a1 a2 a3 h)) {K3 : Nat → Int32 → Int32 → Int32 → Int32 → Hp → Option (Int32 × Hp)} (hK3 : ∀ (l0 : Nat) (l1 : Int32) (l2 : Int32) (l3 : Int32) (l4 : Int32) (h : Hp), G rvI I_X1_hasMoveTo d 3 [(0, .ref l0), (1, .int l1), (2, .int l2), (3, .int l3), (4, .int l4)] [] h (K3 l0 l1 l2 l3 l4 h)) (l0 : Nat) (l1 : Int32) (l2 : Int32) (l3 : Int32) (l4 : Int32) (h : Hp) : G rvI I_X1_hasMoveTo d 3 [(0, .ref l0), (1, .int l1), (2, .int l2), (3, .int l3), (4, .int l4)] [] h (f_X1_hasMoveTo_3_b F Rc K3 l0 l1 l2 l3 l4 h) := by
  delta f_X1_hasMoveTo_3_b
  refine g_iload 4 dX1_hasMoveTo_3 rfl ?_
  refine g_iconst (v := 2) dX1_hasMoveTo_5 (by decide) ?_
  refine g_icmp_ge (tgt := 83) dX1_hasMoveTo_6 (by decide) (fun c1 => ?_) (fun c1 => ?_)
  · refine g_aload_n 0 dX1_hasMoveTo_83 rfl ?_
    refine g_iload_n 2 dX1_hasMoveTo_84 rfl ?_
    refine g_callSi (J := I_X2_afterDay) (As := [.int l2]) (rest := [.ref l0]) mjs_X2_afterDay ml_RX1_52 (Nat.le_trans (by decide) hd1) rfl rfl (Nat.le_of_ble_eq_true rfl) dX1_hasMoveTo_85 (T_X2_afterDay F l2 h) (fun v2 h3 => ?_)
    refine g_iload_n 3 dX1_hasMoveTo_88 rfl ?_
    refine g_iconst (v := 1) dX1_hasMoveTo_89 (by decide) ?_
    refine g_isub dX1_hasMoveTo_90 ?_
    refine g_iload_n 1 dX1_hasMoveTo_91 rfl ?_
    refine g_if_ne (tgt := 99) dX1_hasMoveTo_92 (by decide) (fun c4 => ?_) (fun c4 => ?_)
    · refine g_iconst (v := 1) dX1_hasMoveTo_95 (by decide) ?_
      refine g_goto (tgt := 100) dX1_hasMoveTo_96 (by decide) ?_
      refine G_lv [1] rfl ?_
      exact T_X1_hasMoveTo_100 F hd1 hdR hR l1 1 (l3 - 1) v2 l0 h3
    · refine g_iconst (v := 0) dX1_hasMoveTo_99 (by decide) ?_
      refine G_lv [1] rfl ?_
      exact T_X1_hasMoveTo_100 F hd1 hdR hR l1 0 (l3 - 1) v2 l0 h3
  · refine g_iconst (v := 0) dX1_hasMoveTo_9 (by decide) ?_
    refine g_istore (lv' := [(5, .int 0), (0, .ref l0), (1, .int l1), (2, .int l2), (3, .int l3), (4, .int l4)]) dX1_hasMoveTo_10 (by decide) rfl ?_
    refine G_lv [1, 2, 3, 4, 5, 0] rfl ?_
    exact T_X1_hasMoveTo_12 F hd1 hdR hR hK3 F l0 l1 l2 l3 l4 0 h
set_option maxRecDepth 100000 in
noncomputable def f_X1_hasMoveTo_3 (F : Nat) (Rc : Nat → Nat → Int32 → Int32 → Int32 → Hp → Option (Int32 × Hp)) : Nat → Nat → Int32 → Int32 → Int32 → Int32 → Hp → Option (Int32 × Hp)
  | 0, _, _, _, _, _, _ => none
  | n + 1, l0, l1, l2, l3, l4, h => f_X1_hasMoveTo_3_b F Rc (f_X1_hasMoveTo_3 F Rc n) l0 l1 l2 l3 l4 h
set_option maxRecDepth 100000 in
set_option maxHeartbeats 4000000 in
theorem T_X1_hasMoveTo_3 (F : Nat) {d dR : Nat} (hd1 : 4 ≤ d) (hdR : dR + 1 ≤ d) {Rc : Nat → Nat → Int32 → Int32 → Int32 → Hp → Option (Int32 × Hp)} (hR : ∀ (w : Nat) (a0 : Nat) (a1 : Int32) (a2 : Int32) (a3 : Int32) (h : Hp), GM rvI (I_grp_X1_hasMoveTo w) dR [.ref a0, .int a1, .int a2, .int a3] h (Rc w a0 a1 a2 a3 h)) : ∀ (n : Nat) (l0 : Nat) (l1 : Int32) (l2 : Int32) (l3 : Int32) (l4 : Int32) (h : Hp), G rvI I_X1_hasMoveTo d 3 [(0, .ref l0), (1, .int l1), (2, .int l2), (3, .int l3), (4, .int l4)] [] h (f_X1_hasMoveTo_3 F Rc n l0 l1 l2 l3 l4 h) := by
  intro n
  induction n with
  | zero => intros; exact G_none
  | succ n ih => intro l0 l1 l2 l3 l4 h; exact T_X1_hasMoveTo_3_b F hd1 hdR hR ih l0 l1 l2 l3 l4 h
set_option maxRecDepth 100000 in
noncomputable def f_X1_hasMoveTo_w (F : Nat) (Rc : Nat → Nat → Int32 → Int32 → Int32 → Hp → Option (Int32 × Hp)) (a0 : Nat) (a1 : Int32) (a2 : Int32) (a3 : Int32) (h : Hp) : Option (Int32 × Hp) :=
  f_X1_hasMoveTo_3 F Rc F a0 a1 a2 a3 0 h
set_option maxRecDepth 100000 in
set_option maxHeartbeats 4000000 in
theorem T_X1_hasMoveTo_w (F : Nat) {d dR : Nat} (hd1 : 4 ≤ d) (hdR : dR + 1 ≤ d) {Rc : Nat → Nat → Int32 → Int32 → Int32 → Hp → Option (Int32 × Hp)} (hR : ∀ (w : Nat) (a0 : Nat) (a1 : Int32) (a2 : Int32) (a3 : Int32) (h : Hp), GM rvI (I_grp_X1_hasMoveTo w) dR [.ref a0, .int a1, .int a2, .int a3] h (Rc w a0 a1 a2 a3 h)) (a0 : Nat) (a1 : Int32) (a2 : Int32) (a3 : Int32) (h : Hp) : GM rvI I_X1_hasMoveTo d [.ref a0, .int a1, .int a2, .int a3] h (f_X1_hasMoveTo_w F Rc a0 a1 a2 a3 h) := by
  delta f_X1_hasMoveTo_w
  refine GM_of (lv := [(0, .ref a0), (1, .int a1), (2, .int a2), (3, .int a3)]) (by decide +kernel) (Nat.le_of_ble_eq_true rfl) rfl ?_
  refine g_iconst (v := 0) dX1_hasMoveTo_0 (by decide) ?_
  refine g_istore (lv' := [(4, .int 0), (0, .ref a0), (1, .int a1), (2, .int a2), (3, .int a3)]) dX1_hasMoveTo_1 (by decide) rfl ?_
  refine G_lv [1, 2, 3, 4, 0] rfl ?_
  exact T_X1_hasMoveTo_3 F hd1 hdR hR F a0 a1 a2 a3 0 h
set_option maxRecDepth 100000 in
noncomputable def f_X1_isForced_134 (F : Nat) (Rc : Nat → Nat → Int32 → Int32 → Int32 → Hp → Option (Int32 × Hp)) (l4 : Int32) (l6 : Int32) (s0 : Int32) (s1 : Int32) (s2 : Int32) (s3 : Nat) (h : Hp) : Option (Int32 × Hp) :=
  wI h s3 s2 (s1 ||| (s0 <<< (l4 &&& 31))) fun h25 => rz l6 h25
set_option maxRecDepth 100000 in
set_option maxHeartbeats 4000000 in
theorem T_X1_isForced_134 (F : Nat) {d dR : Nat} (hd1 : 4 ≤ d) (hdR : dR + 1 ≤ d) {Rc : Nat → Nat → Int32 → Int32 → Int32 → Hp → Option (Int32 × Hp)} (hR : ∀ (w : Nat) (a0 : Nat) (a1 : Int32) (a2 : Int32) (a3 : Int32) (h : Hp), GM rvI (I_grp_X1_hasMoveTo w) dR [.ref a0, .int a1, .int a2, .int a3] h (Rc w a0 a1 a2 a3 h)) (l4 : Int32) (l6 : Int32) (s0 : Int32) (s1 : Int32) (s2 : Int32) (s3 : Nat) (h : Hp) : G rvI I_X1_isForced d 134 [(4, .int l4), (6, .int l6)] [.int s0, .int s1, .int s2, .ref s3] h (f_X1_isForced_134 F Rc l4 l6 s0 s1 s2 s3 h) := by
  delta f_X1_isForced_134
  refine g_iload 0 dX1_isForced_134 rfl ?_
  refine g_ishl dX1_isForced_136 ?_
  refine g_ior dX1_isForced_137 ?_
  refine g_iast dX1_isForced_138 (fun h25 => ?_)
  refine g_iload 1 dX1_isForced_139 rfl ?_
  exact g_zretG rfl dX1_isForced_141
set_option maxRecDepth 100000 in
noncomputable def f_X1_isForced_115 (F : Nat) (Rc : Nat → Nat → Int32 → Int32 → Int32 → Hp → Option (Int32 × Hp)) (l0 : Nat) (l1 : Int32) (l4 : Int32) (s0 : Int32) (h : Hp) : Option (Int32 × Hp) :=
  gR 2 h l0 0 fun v22 => aI 20 h v22 l1 fun v23 => if s0 = 0 then (f_X1_isForced_134 F Rc l4 s0 1 v23 l1 v22 h) else (f_X1_isForced_134 F Rc l4 s0 2 v23 l1 v22 h)
set_option maxRecDepth 100000 in
set_option maxHeartbeats 4000000 in
theorem T_X1_isForced_115 (F : Nat) {d dR : Nat} (hd1 : 4 ≤ d) (hdR : dR + 1 ≤ d) {Rc : Nat → Nat → Int32 → Int32 → Int32 → Hp → Option (Int32 × Hp)} (hR : ∀ (w : Nat) (a0 : Nat) (a1 : Int32) (a2 : Int32) (a3 : Int32) (h : Hp), GM rvI (I_grp_X1_hasMoveTo w) dR [.ref a0, .int a1, .int a2, .int a3] h (Rc w a0 a1 a2 a3 h)) (l0 : Nat) (l1 : Int32) (l4 : Int32) (s0 : Int32) (h : Hp) : G rvI I_X1_isForced d 115 [(0, .ref l0), (1, .int l1), (4, .int l4)] [.int s0] h (f_X1_isForced_115 F Rc l0 l1 l4 s0 h) := by
  delta f_X1_isForced_115
  refine g_istore (lv' := [(6, .int s0), (0, .ref l0), (1, .int l1), (4, .int l4)]) dX1_isForced_115 (by decide) rfl ?_
  refine g_aload_n 1 dX1_isForced_117 rfl ?_
  refine g_getR fl_RX1_9 rfl dX1_isForced_118 (fun v22 => ?_)
  refine g_iload_n 2 dX1_isForced_121 rfl ?_
  refine g_dup2 dX1_isForced_122 rfl rfl ?_
  refine g_iald dX1_isForced_123 (fun v23 => ?_)
  refine g_iload 0 dX1_isForced_124 rfl ?_
  refine g_if_eq (tgt := 133) dX1_isForced_126 (by decide) (fun c24 => ?_) (fun c24 => ?_)
  · refine g_iconst (v := 1) dX1_isForced_133 (by decide) ?_
    refine G_lv [3, 0] rfl ?_
    exact T_X1_isForced_134 F hd1 hdR hR l4 s0 1 v23 l1 v22 h
  · refine g_iconst (v := 2) dX1_isForced_129 (by decide) ?_
    refine g_goto (tgt := 134) dX1_isForced_130 (by decide) ?_
    refine G_lv [3, 0] rfl ?_
    exact T_X1_isForced_134 F hd1 hdR hR l4 s0 2 v23 l1 v22 h
set_option maxRecDepth 100000 in
noncomputable def f_X1_isForced_66 (F : Nat) (Rc : Nat → Nat → Int32 → Int32 → Int32 → Hp → Option (Int32 × Hp)) (l0 : Nat) (l1 : Int32) (l2 : Int32) (l3 : Int32) (s0 : Int32) (s1 : Int32) (h : Hp) : Option (Int32 × Hp) :=
  lt (s1 + s0) fun x14 => gR 2 h l0 0 fun v15 => aI 20 h v15 l1 fun v16 => lt ((v16 >>> (x14 &&& 31)) &&& 3) fun x17 => if x17 = 0 then (cV 2 h l0 (Rc 0 l0 l3 l1 l2 h) fun v19 h20 => if v19 = l3 then (f_X1_isForced_115 F Rc l0 l1 x14 1 h20) else (f_X1_isForced_115 F Rc l0 l1 x14 0 h20)) else (if x17 = 2 then (some (1, h)) else (some (0, h)))
set_option maxRecDepth 100000 in
set_option maxHeartbeats 4000000 in
theorem T_X1_isForced_66 (F : Nat) {d dR : Nat} (hd1 : 4 ≤ d) (hdR : dR + 1 ≤ d) {Rc : Nat → Nat → Int32 → Int32 → Int32 → Hp → Option (Int32 × Hp)} (hR : ∀ (w : Nat) (a0 : Nat) (a1 : Int32) (a2 : Int32) (a3 : Int32) (h : Hp), GM rvI (I_grp_X1_hasMoveTo w) dR [.ref a0, .int a1, .int a2, .int a3] h (Rc w a0 a1 a2 a3 h)) (l0 : Nat) (l1 : Int32) (l2 : Int32) (l3 : Int32) (s0 : Int32) (s1 : Int32) (h : Hp) : G rvI I_X1_isForced d 66 [(0, .ref l0), (1, .int l1), (2, .int l2), (3, .int l3)] [.int s0, .int s1] h (f_X1_isForced_66 F Rc l0 l1 l2 l3 s0 s1 h) := by
  delta f_X1_isForced_66
  refine g_iadd dX1_isForced_66 ?_
  refine G_lti (fun x14 => ?_)
  refine g_istore (lv' := [(4, .int x14), (0, .ref l0), (1, .int l1), (2, .int l2), (3, .int l3)]) dX1_isForced_67 (by decide) rfl ?_
  refine g_aload_n 1 dX1_isForced_69 rfl ?_
  refine g_getR fl_RX1_9 rfl dX1_isForced_70 (fun v15 => ?_)
  refine g_iload_n 2 dX1_isForced_73 rfl ?_
  refine g_iald dX1_isForced_74 (fun v16 => ?_)
  refine g_iload 0 dX1_isForced_75 rfl ?_
  refine g_ishr dX1_isForced_77 ?_
  refine g_iconst (v := 3) dX1_isForced_78 (by decide) ?_
  refine g_iand dX1_isForced_79 ?_
  refine G_lti (fun x17 => ?_)
  refine g_istore (lv' := [(5, .int x17), (4, .int x14), (0, .ref l0), (1, .int l1), (2, .int l2), (3, .int l3)]) dX1_isForced_80 (by decide) rfl ?_
  refine g_iload 0 dX1_isForced_82 rfl ?_
  refine g_if_eq (tgt := 99) dX1_isForced_84 (by decide) (fun c18 => ?_) (fun c18 => ?_)
  · refine g_aload_n 2 dX1_isForced_99 rfl ?_
    refine g_iload_n 5 dX1_isForced_100 rfl ?_
    refine g_iload_n 3 dX1_isForced_101 rfl ?_
    refine g_iload_n 4 dX1_isForced_102 rfl ?_
    refine g_callVi (J := I_X1_hasMoveTo) (t := 2) (As := [.int l3, .int l1, .int l2]) (rest := []) mjv_X1_hasMoveTo ml_RX1_60 ⟨rfl, by decide, by decide⟩ hdR rfl rfl (Nat.le_of_ble_eq_true rfl) dX1_isForced_103 (hR 0 l0 l3 l1 l2 h) (fun v19 h20 => ?_)
    refine g_iload_n 5 dX1_isForced_106 rfl ?_
    refine g_icmp_ne (tgt := 114) dX1_isForced_107 (by decide) (fun c21 => ?_) (fun c21 => ?_)
    · refine g_iconst (v := 1) dX1_isForced_110 (by decide) ?_
      refine g_goto (tgt := 115) dX1_isForced_111 (by decide) ?_
      refine G_lv [2, 3, 1] rfl ?_
      exact T_X1_isForced_115 F hd1 hdR hR l0 l1 x14 1 h20
    · refine g_iconst (v := 0) dX1_isForced_114 (by decide) ?_
      refine G_lv [2, 3, 1] rfl ?_
      exact T_X1_isForced_115 F hd1 hdR hR l0 l1 x14 0 h20
  · refine g_iload 0 dX1_isForced_87 rfl ?_
    refine g_iconst (v := 2) dX1_isForced_89 (by decide) ?_
    refine g_icmp_ne (tgt := 97) dX1_isForced_90 (by decide) (fun c26 => ?_) (fun c26 => ?_)
    · refine g_iconst (v := 1) dX1_isForced_93 (by decide) ?_
      refine g_goto (tgt := 98) dX1_isForced_94 (by decide) ?_
      exact g_zret (ty := .boolean) rfl rfl dX1_isForced_98
    · refine g_iconst (v := 0) dX1_isForced_97 (by decide) ?_
      exact g_zret (ty := .boolean) rfl rfl dX1_isForced_98
set_option maxRecDepth 100000 in
noncomputable def f_X1_isForced_w (F : Nat) (Rc : Nat → Nat → Int32 → Int32 → Int32 → Hp → Option (Int32 × Hp)) (a0 : Nat) (a1 : Int32) (a2 : Int32) (a3 : Int32) (h : Hp) : Option (Int32 × Hp) :=
  if a1 < 0 then (some (0, h)) else (gR 2 h a0 0 fun v2 => al 20 h v2 fun v3 => if a1 < v3 then (gR 2 h a0 1 fun v5 => gI 2 h a0 3 fun v6 => cV 3 h v5 (f_X2_doneBy F v5 a1 v6 h) fun v7 h8 => gI 2 h8 a0 4 fun v9 => if ((v7 >>> (v9 &&& 31)) &&& 1) = 0 then (if a2 ≤ 0 then (some (0, h8)) else (if a2 ≤ 6 then (if a3 = 0 then (f_X1_isForced_66 F Rc a0 a1 a2 a3 0 (2 * (a2 - 1)) h8) else (f_X1_isForced_66 F Rc a0 a1 a2 a3 12 (2 * (a2 - 1)) h8)) else (some (0, h8)))) else (some (1, h8))) else (some (0, h)))
set_option maxRecDepth 100000 in
set_option maxHeartbeats 4000000 in
theorem T_X1_isForced_w (F : Nat) {d dR : Nat} (hd1 : 4 ≤ d) (hdR : dR + 1 ≤ d) {Rc : Nat → Nat → Int32 → Int32 → Int32 → Hp → Option (Int32 × Hp)} (hR : ∀ (w : Nat) (a0 : Nat) (a1 : Int32) (a2 : Int32) (a3 : Int32) (h : Hp), GM rvI (I_grp_X1_hasMoveTo w) dR [.ref a0, .int a1, .int a2, .int a3] h (Rc w a0 a1 a2 a3 h)) (a0 : Nat) (a1 : Int32) (a2 : Int32) (a3 : Int32) (h : Hp) : GM rvI I_X1_isForced d [.ref a0, .int a1, .int a2, .int a3] h (f_X1_isForced_w F Rc a0 a1 a2 a3 h) := by
  delta f_X1_isForced_w
  refine GM_of (lv := [(0, .ref a0), (1, .int a1), (2, .int a2), (3, .int a3)]) (by decide +kernel) (Nat.le_of_ble_eq_true rfl) rfl ?_
  refine g_iload_n 1 dX1_isForced_0 rfl ?_
  refine g_if_lt (tgt := 13) dX1_isForced_1 (by decide) (fun c1 => ?_) (fun c1 => ?_)
  · refine g_iconst (v := 0) dX1_isForced_13 (by decide) ?_
    exact g_zret (ty := .boolean) rfl rfl dX1_isForced_14
  · refine g_iload_n 1 dX1_isForced_4 rfl ?_
    refine g_aload_n 0 dX1_isForced_5 rfl ?_
    refine g_getR fl_RX1_9 rfl dX1_isForced_6 (fun v2 => ?_)
    refine g_alen (by decide) (by decide) dX1_isForced_9 (fun v3 => ?_)
    refine g_icmp_lt (tgt := 15) dX1_isForced_10 (by decide) (fun c4 => ?_) (fun c4 => ?_)
    · refine g_aload_n 0 dX1_isForced_15 rfl ?_
      refine g_getR fl_RX1_15 rfl dX1_isForced_16 (fun v5 => ?_)
      refine g_iload_n 1 dX1_isForced_19 rfl ?_
      refine g_aload_n 0 dX1_isForced_20 rfl ?_
      refine g_getI fl_RX1_23 rfl dX1_isForced_21 (fun v6 => ?_)
      refine g_callVi (J := I_X2_doneBy) (t := 3) (As := [.int a1, .int v6]) (rest := []) mjv_X2_doneBy ml_RX1_56 ⟨rfl, by decide, by decide⟩ (Nat.le_trans (by decide) hd1) rfl rfl (Nat.le_of_ble_eq_true rfl) dX1_isForced_24 (T_X2_doneBy F v5 a1 v6 h) (fun v7 h8 => ?_)
      refine g_aload_n 0 dX1_isForced_27 rfl ?_
      refine g_getI fl_RX1_26 rfl dX1_isForced_28 (fun v9 => ?_)
      refine g_ishr dX1_isForced_31 ?_
      refine g_iconst (v := 1) dX1_isForced_32 (by decide) ?_
      refine g_iand dX1_isForced_33 ?_
      refine g_if_eq (tgt := 39) dX1_isForced_34 (by decide) (fun c10 => ?_) (fun c10 => ?_)
      · refine g_iload_n 2 dX1_isForced_39 rfl ?_
        refine g_if_le (tgt := 49) dX1_isForced_40 (by decide) (fun c11 => ?_) (fun c11 => ?_)
        · refine g_iconst (v := 0) dX1_isForced_49 (by decide) ?_
          exact g_zret (ty := .boolean) rfl rfl dX1_isForced_50
        · refine g_iload_n 2 dX1_isForced_43 rfl ?_
          refine g_bipush (v := 6) dX1_isForced_44 (by decide) ?_
          refine g_icmp_le (tgt := 51) dX1_isForced_46 (by decide) (fun c12 => ?_) (fun c12 => ?_)
          · refine g_iconst (v := 2) dX1_isForced_51 (by decide) ?_
            refine g_iload_n 2 dX1_isForced_52 rfl ?_
            refine g_iconst (v := 1) dX1_isForced_53 (by decide) ?_
            refine g_isub dX1_isForced_54 ?_
            refine g_imul dX1_isForced_55 ?_
            refine g_iload_n 3 dX1_isForced_56 rfl ?_
            refine g_if_eq (tgt := 65) dX1_isForced_57 (by decide) (fun c13 => ?_) (fun c13 => ?_)
            · refine g_iconst (v := 0) dX1_isForced_65 (by decide) ?_
              refine G_lv [0, 1, 2, 3] rfl ?_
              exact T_X1_isForced_66 F hd1 hdR hR a0 a1 a2 a3 0 (2 * (a2 - 1)) h8
            · refine g_bipush (v := 12) dX1_isForced_60 (by decide) ?_
              refine g_goto (tgt := 66) dX1_isForced_62 (by decide) ?_
              refine G_lv [0, 1, 2, 3] rfl ?_
              exact T_X1_isForced_66 F hd1 hdR hR a0 a1 a2 a3 12 (2 * (a2 - 1)) h8
          · refine g_iconst (v := 0) dX1_isForced_49 (by decide) ?_
            exact g_zret (ty := .boolean) rfl rfl dX1_isForced_50
      · refine g_iconst (v := 1) dX1_isForced_37 (by decide) ?_
        exact g_zret (ty := .boolean) rfl rfl dX1_isForced_38
    · refine g_iconst (v := 0) dX1_isForced_13 (by decide) ?_
      exact g_zret (ty := .boolean) rfl rfl dX1_isForced_14
set_option maxRecDepth 100000 in
noncomputable def f_grp_X1_hasMoveTo (F : Nat) : Nat → Nat → Nat → Int32 → Int32 → Int32 → Hp → Option (Int32 × Hp)
  | 0, _, _, _, _, _, _ => none
  | D + 1, w, a0, a1, a2, a3, h => if w = 0 then f_X1_hasMoveTo_w F (f_grp_X1_hasMoveTo F D) a0 a1 a2 a3 h else f_X1_isForced_w F (f_grp_X1_hasMoveTo F D) a0 a1 a2 a3 h
set_option maxRecDepth 100000 in
set_option maxHeartbeats 4000000 in
theorem T_grp_X1_hasMoveTo (F : Nat) : ∀ (D w : Nat) (a0 : Nat) (a1 : Int32) (a2 : Int32) (a3 : Int32) (h : Hp), GM rvI (I_grp_X1_hasMoveTo w) (4 + D) [.ref a0, .int a1, .int a2, .int a3] h (f_grp_X1_hasMoveTo F D w a0 a1 a2 a3 h) := by
  intro D
  induction D with
  | zero => intros; exact fun x hx => by cases hx
  | succ D ih =>
    intro w a0 a1 a2 a3 h
    show GM _ (I_grp_X1_hasMoveTo w) _ _ _ (if w = 0 then f_X1_hasMoveTo_w F (f_grp_X1_hasMoveTo F D) a0 a1 a2 a3 h else f_X1_isForced_w F (f_grp_X1_hasMoveTo F D) a0 a1 a2 a3 h)
    unfold I_grp_X1_hasMoveTo
    by_cases e0 : w = 0
    · rw [if_pos e0, if_pos e0]; exact T_X1_hasMoveTo_w F (by omega) (by omega) ih a0 a1 a2 a3 h
    rw [if_neg e0, if_neg e0]
    exact T_X1_isForced_w F (by omega) (by omega) ih a0 a1 a2 a3 h
set_option maxRecDepth 100000 in
noncomputable def f_X1_hasMoveTo (F : Nat) (a0 : Nat) (a1 : Int32) (a2 : Int32) (a3 : Int32) (h : Hp) : Option (Int32 × Hp) := f_grp_X1_hasMoveTo F 16 0 a0 a1 a2 a3 h
set_option maxRecDepth 100000 in
set_option maxHeartbeats 4000000 in
theorem T_X1_hasMoveTo (F : Nat) (a0 : Nat) (a1 : Int32) (a2 : Int32) (a3 : Int32) (h : Hp) : GM rvI I_X1_hasMoveTo 20 [.ref a0, .int a1, .int a2, .int a3] h (f_X1_hasMoveTo F a0 a1 a2 a3 h) := T_grp_X1_hasMoveTo F 16 0 a0 a1 a2 a3 h
set_option maxRecDepth 100000 in
noncomputable def f_X1_isForced (F : Nat) (a0 : Nat) (a1 : Int32) (a2 : Int32) (a3 : Int32) (h : Hp) : Option (Int32 × Hp) := f_grp_X1_hasMoveTo F 16 1 a0 a1 a2 a3 h
set_option maxRecDepth 100000 in
set_option maxHeartbeats 4000000 in
theorem T_X1_isForced (F : Nat) (a0 : Nat) (a1 : Int32) (a2 : Int32) (a3 : Int32) (h : Hp) : GM rvI I_X1_isForced 20 [.ref a0, .int a1, .int a2, .int a3] h (f_X1_isForced F a0 a1 a2 a3 h) := T_grp_X1_hasMoveTo F 16 1 a0 a1 a2 a3 h
set_option maxRecDepth 100000 in
noncomputable def f_X1_fewestTurns_2_b (F : Nat) (K2 : Nat → Int32 → Int32 → Hp → Option (Int32 × Hp)) (l0 : Nat) (l1 : Int32) (l2 : Int32) (h : Hp) : Option (Int32 × Hp) :=
  if 6 < l2 then (some ((-1), h)) else (cV 2 h l0 (f_X1_isForced F l0 l1 l2 1 h) fun v2 h3 => if v2 = 0 then (K2 l0 l1 (l2 + 1) h3) else (some (l2, h3)))
set_option maxRecDepth 100000 in
set_option maxHeartbeats 4000000 in
theorem T_X1_fewestTurns_2_b (F : Nat) {K2 : Nat → Int32 → Int32 → Hp → Option (Int32 × Hp)} (hK2 : ∀ (l0 : Nat) (l1 : Int32) (l2 : Int32) (h : Hp), G rvI I_X1_fewestTurns 21 2 [(0, .ref l0), (1, .int l1), (2, .int l2)] [] h (K2 l0 l1 l2 h)) (l0 : Nat) (l1 : Int32) (l2 : Int32) (h : Hp) : G rvI I_X1_fewestTurns 21 2 [(0, .ref l0), (1, .int l1), (2, .int l2)] [] h (f_X1_fewestTurns_2_b F K2 l0 l1 l2 h) := by
  delta f_X1_fewestTurns_2_b
  refine g_iload_n 2 dX1_fewestTurns_2 rfl ?_
  refine g_bipush (v := 6) dX1_fewestTurns_3 (by decide) ?_
  refine g_icmp_gt (tgt := 26) dX1_fewestTurns_5 (by decide) (fun c1 => ?_) (fun c1 => ?_)
  · refine g_iconst (v := (-1)) dX1_fewestTurns_26 (by decide) ?_
    exact g_iret rfl dX1_fewestTurns_27
  · refine g_aload_n 0 dX1_fewestTurns_8 rfl ?_
    refine g_iload_n 1 dX1_fewestTurns_9 rfl ?_
    refine g_iload_n 2 dX1_fewestTurns_10 rfl ?_
    refine g_iconst (v := 1) dX1_fewestTurns_11 (by decide) ?_
    refine g_callVi (J := I_X1_isForced) (t := 2) (As := [.int l1, .int l2, .int 1]) (rest := []) mjv_X1_isForced ml_RX1_41 ⟨rfl, by decide, by decide⟩ (by decide) rfl rfl (Nat.le_of_ble_eq_true rfl) dX1_fewestTurns_12 (T_X1_isForced F l0 l1 l2 1 h) (fun v2 h3 => ?_)
    refine g_if_eq (tgt := 20) dX1_fewestTurns_15 (by decide) (fun c4 => ?_) (fun c4 => ?_)
    · refine g_iinc (v' := l2 + 1) (lv' := [(2, .int (l2 + 1)), (0, .ref l0), (1, .int l1)]) 2 dX1_fewestTurns_20 rfl rfl (by decide) rfl ?_
      refine g_goto (tgt := 2) dX1_fewestTurns_23 (by decide) ?_
      refine G_lv [1, 2, 0] rfl ?_
      exact hK2 l0 l1 (l2 + 1) h3
    · refine g_iload_n 2 dX1_fewestTurns_18 rfl ?_
      exact g_iret rfl dX1_fewestTurns_19
set_option maxRecDepth 100000 in
noncomputable def f_X1_fewestTurns_2 (F : Nat) : Nat → Nat → Int32 → Int32 → Hp → Option (Int32 × Hp)
  | 0, _, _, _, _ => none
  | n + 1, l0, l1, l2, h => f_X1_fewestTurns_2_b F (f_X1_fewestTurns_2 F n) l0 l1 l2 h
set_option maxRecDepth 100000 in
set_option maxHeartbeats 4000000 in
theorem T_X1_fewestTurns_2 (F : Nat) : ∀ (n : Nat) (l0 : Nat) (l1 : Int32) (l2 : Int32) (h : Hp), G rvI I_X1_fewestTurns 21 2 [(0, .ref l0), (1, .int l1), (2, .int l2)] [] h (f_X1_fewestTurns_2 F n l0 l1 l2 h) := by
  intro n
  induction n with
  | zero => intros; exact G_none
  | succ n ih => intro l0 l1 l2 h; exact T_X1_fewestTurns_2_b F ih l0 l1 l2 h
set_option maxRecDepth 100000 in
noncomputable def f_X1_fewestTurns (F : Nat) (a0 : Nat) (a1 : Int32) (h : Hp) : Option (Int32 × Hp) :=
  f_X1_fewestTurns_2 F F a0 a1 0 h
set_option maxRecDepth 100000 in
set_option maxHeartbeats 4000000 in
theorem T_X1_fewestTurns (F : Nat) (a0 : Nat) (a1 : Int32) (h : Hp) : GM rvI I_X1_fewestTurns 21 [.ref a0, .int a1] h (f_X1_fewestTurns F a0 a1 h) := by
  delta f_X1_fewestTurns
  refine GM_of (lv := [(0, .ref a0), (1, .int a1)]) (by decide +kernel) (Nat.le_of_ble_eq_true rfl) rfl ?_
  refine g_iconst (v := 0) dX1_fewestTurns_0 (by decide) ?_
  refine g_istore_n (lv' := [(2, .int 0), (0, .ref a0), (1, .int a1)]) dX1_fewestTurns_1 (by decide) rfl ?_
  refine G_lv [1, 2, 0] rfl ?_
  exact T_X1_fewestTurns_2 F F a0 a1 0 h
set_option maxRecDepth 100000 in
noncomputable def f_X1_firstMove_65 (F : Nat) (K2 : Nat → Int32 → Int32 → Int32 → Hp → Option (Int32 × Hp)) (K10 : Nat → Int32 → Int32 → Int32 → Int32 → Hp → Option (Int32 × Hp)) (l0 : Nat) (l1 : Int32) (l2 : Int32) (l3 : Int32) (l4 : Int32) (h : Hp) : Option (Int32 × Hp) :=
  K10 l0 l1 l2 l3 (l4 + 1) h
set_option maxRecDepth 100000 in
set_option maxHeartbeats 4000000 in
theorem T_X1_firstMove_65 (F : Nat) {K2 : Nat → Int32 → Int32 → Int32 → Hp → Option (Int32 × Hp)} (hK2 : ∀ (l0 : Nat) (l1 : Int32) (l2 : Int32) (l3 : Int32) (h : Hp), G rvI I_X1_firstMove 21 2 [(0, .ref l0), (1, .int l1), (2, .int l2), (3, .int l3)] [] h (K2 l0 l1 l2 l3 h)) {K10 : Nat → Int32 → Int32 → Int32 → Int32 → Hp → Option (Int32 × Hp)} (hK10 : ∀ (l0 : Nat) (l1 : Int32) (l2 : Int32) (l3 : Int32) (l4 : Int32) (h : Hp), G rvI I_X1_firstMove 21 10 [(0, .ref l0), (1, .int l1), (2, .int l2), (3, .int l3), (4, .int l4)] [] h (K10 l0 l1 l2 l3 l4 h)) (l0 : Nat) (l1 : Int32) (l2 : Int32) (l3 : Int32) (l4 : Int32) (h : Hp) : G rvI I_X1_firstMove 21 65 [(0, .ref l0), (1, .int l1), (2, .int l2), (3, .int l3), (4, .int l4)] [] h (f_X1_firstMove_65 F K2 K10 l0 l1 l2 l3 l4 h) := by
  delta f_X1_firstMove_65
  refine g_iinc (v' := l4 + 1) (lv' := [(4, .int (l4 + 1)), (0, .ref l0), (1, .int l1), (2, .int l2), (3, .int l3)]) 4 dX1_firstMove_65 rfl rfl (by decide) rfl ?_
  refine g_goto (tgt := 10) dX1_firstMove_68 (by decide) ?_
  refine G_lv [1, 2, 3, 4, 0] rfl ?_
  exact hK10 l0 l1 l2 l3 (l4 + 1) h
set_option maxRecDepth 100000 in
noncomputable def f_X1_firstMove_10_b (F : Nat) (K2 : Nat → Int32 → Int32 → Int32 → Hp → Option (Int32 × Hp)) (K10 : Nat → Int32 → Int32 → Int32 → Int32 → Hp → Option (Int32 × Hp)) (l0 : Nat) (l1 : Int32) (l2 : Int32) (l3 : Int32) (l4 : Int32) (h : Hp) : Option (Int32 × Hp) :=
  gR 2 h l0 1 fun v7 => gI 3 h v7 0 fun v8 => if v8 ≤ l4 then (K2 l0 l1 l2 (l3 + 1) h) else (gR 2 h l0 1 fun v10 => gI 2 h l0 2 fun v11 => cV 3 h v10 (f_X2_afterTelling F v10 l1 v11 l3 l4 h) fun v12 h13 => if v12 < 0 then (f_X1_firstMove_65 F K2 K10 l0 l1 l2 l3 l4 h13) else (cV 2 h13 l0 (f_X1_isForced F l0 v12 (l2 - 1) 0 h13) fun v15 h16 => if v15 = 0 then (f_X1_firstMove_65 F K2 K10 l0 l1 l2 l3 l4 h16) else (some (((10 * l3) + l4), h16))))
set_option maxRecDepth 100000 in
set_option maxHeartbeats 4000000 in
theorem T_X1_firstMove_10_b (F : Nat) {K2 : Nat → Int32 → Int32 → Int32 → Hp → Option (Int32 × Hp)} (hK2 : ∀ (l0 : Nat) (l1 : Int32) (l2 : Int32) (l3 : Int32) (h : Hp), G rvI I_X1_firstMove 21 2 [(0, .ref l0), (1, .int l1), (2, .int l2), (3, .int l3)] [] h (K2 l0 l1 l2 l3 h)) {K10 : Nat → Int32 → Int32 → Int32 → Int32 → Hp → Option (Int32 × Hp)} (hK10 : ∀ (l0 : Nat) (l1 : Int32) (l2 : Int32) (l3 : Int32) (l4 : Int32) (h : Hp), G rvI I_X1_firstMove 21 10 [(0, .ref l0), (1, .int l1), (2, .int l2), (3, .int l3), (4, .int l4)] [] h (K10 l0 l1 l2 l3 l4 h)) (l0 : Nat) (l1 : Int32) (l2 : Int32) (l3 : Int32) (l4 : Int32) (h : Hp) : G rvI I_X1_firstMove 21 10 [(0, .ref l0), (1, .int l1), (2, .int l2), (3, .int l3), (4, .int l4)] [] h (f_X1_firstMove_10_b F K2 K10 l0 l1 l2 l3 l4 h) := by
  delta f_X1_firstMove_10_b
  refine g_iload 4 dX1_firstMove_10 rfl ?_
  refine g_aload_n 0 dX1_firstMove_12 rfl ?_
  refine g_getR fl_RX1_15 rfl dX1_firstMove_13 (fun v7 => ?_)
  refine g_getI fl_RX1_45 rfl dX1_firstMove_16 (fun v8 => ?_)
  refine g_icmp_ge (tgt := 71) dX1_firstMove_19 (by decide) (fun c9 => ?_) (fun c9 => ?_)
  · refine g_iinc (v' := l3 + 1) (lv' := [(3, .int (l3 + 1)), (0, .ref l0), (1, .int l1), (2, .int l2), (4, .int l4)]) 3 dX1_firstMove_71 rfl rfl (by decide) rfl ?_
    refine g_goto (tgt := 2) dX1_firstMove_74 (by decide) ?_
    refine G_lv [1, 2, 3, 0] rfl ?_
    exact hK2 l0 l1 l2 (l3 + 1) h
  · refine g_aload_n 0 dX1_firstMove_22 rfl ?_
    refine g_getR fl_RX1_15 rfl dX1_firstMove_23 (fun v10 => ?_)
    refine g_iload_n 1 dX1_firstMove_26 rfl ?_
    refine g_aload_n 0 dX1_firstMove_27 rfl ?_
    refine g_getI fl_RX1_19 rfl dX1_firstMove_28 (fun v11 => ?_)
    refine g_iload_n 3 dX1_firstMove_31 rfl ?_
    refine g_iload 4 dX1_firstMove_32 rfl ?_
    refine g_callVi (J := I_X2_afterTelling) (t := 3) (As := [.int l1, .int v11, .int l3, .int l4]) (rest := []) mjv_X2_afterTelling ml_RX1_48 ⟨rfl, by decide, by decide⟩ (by decide) rfl rfl (Nat.le_of_ble_eq_true rfl) dX1_firstMove_34 (T_X2_afterTelling F v10 l1 v11 l3 l4 h) (fun v12 h13 => ?_)
    refine g_istore (lv' := [(5, .int v12), (0, .ref l0), (1, .int l1), (2, .int l2), (3, .int l3), (4, .int l4)]) dX1_firstMove_37 (by decide) rfl ?_
    refine g_iload 0 dX1_firstMove_39 rfl ?_
    refine g_if_lt (tgt := 65) dX1_firstMove_41 (by decide) (fun c14 => ?_) (fun c14 => ?_)
    · refine G_lv [1, 2, 3, 4, 5] rfl ?_
      exact T_X1_firstMove_65 F hK2 hK10 l0 l1 l2 l3 l4 h13
    · refine g_aload_n 1 dX1_firstMove_44 rfl ?_
      refine g_iload 0 dX1_firstMove_45 rfl ?_
      refine g_iload_n 3 dX1_firstMove_47 rfl ?_
      refine g_iconst (v := 1) dX1_firstMove_48 (by decide) ?_
      refine g_isub dX1_firstMove_49 ?_
      refine g_iconst (v := 0) dX1_firstMove_50 (by decide) ?_
      refine g_callVi (J := I_X1_isForced) (t := 2) (As := [.int v12, .int (l2 - 1), .int 0]) (rest := []) mjv_X1_isForced ml_RX1_41 ⟨rfl, by decide, by decide⟩ (by decide) rfl rfl (Nat.le_of_ble_eq_true rfl) dX1_firstMove_51 (T_X1_isForced F l0 v12 (l2 - 1) 0 h13) (fun v15 h16 => ?_)
      refine g_if_eq (tgt := 65) dX1_firstMove_54 (by decide) (fun c17 => ?_) (fun c17 => ?_)
      · refine G_lv [1, 2, 3, 4, 5] rfl ?_
        exact T_X1_firstMove_65 F hK2 hK10 l0 l1 l2 l3 l4 h16
      · refine g_bipush (v := 10) dX1_firstMove_57 (by decide) ?_
        refine g_iload_n 4 dX1_firstMove_59 rfl ?_
        refine g_imul dX1_firstMove_60 ?_
        refine g_iload 5 dX1_firstMove_61 rfl ?_
        refine g_iadd dX1_firstMove_63 ?_
        exact g_iret rfl dX1_firstMove_64
set_option maxRecDepth 100000 in
noncomputable def f_X1_firstMove_10 (F : Nat) (K2 : Nat → Int32 → Int32 → Int32 → Hp → Option (Int32 × Hp)) : Nat → Nat → Int32 → Int32 → Int32 → Int32 → Hp → Option (Int32 × Hp)
  | 0, _, _, _, _, _, _ => none
  | n + 1, l0, l1, l2, l3, l4, h => f_X1_firstMove_10_b F K2 (f_X1_firstMove_10 F K2 n) l0 l1 l2 l3 l4 h
set_option maxRecDepth 100000 in
set_option maxHeartbeats 4000000 in
theorem T_X1_firstMove_10 (F : Nat) {K2 : Nat → Int32 → Int32 → Int32 → Hp → Option (Int32 × Hp)} (hK2 : ∀ (l0 : Nat) (l1 : Int32) (l2 : Int32) (l3 : Int32) (h : Hp), G rvI I_X1_firstMove 21 2 [(0, .ref l0), (1, .int l1), (2, .int l2), (3, .int l3)] [] h (K2 l0 l1 l2 l3 h)) : ∀ (n : Nat) (l0 : Nat) (l1 : Int32) (l2 : Int32) (l3 : Int32) (l4 : Int32) (h : Hp), G rvI I_X1_firstMove 21 10 [(0, .ref l0), (1, .int l1), (2, .int l2), (3, .int l3), (4, .int l4)] [] h (f_X1_firstMove_10 F K2 n l0 l1 l2 l3 l4 h) := by
  intro n
  induction n with
  | zero => intros; exact G_none
  | succ n ih => intro l0 l1 l2 l3 l4 h; exact T_X1_firstMove_10_b F hK2 ih l0 l1 l2 l3 l4 h
set_option maxRecDepth 100000 in
noncomputable def f_X1_firstMove_2_b (F : Nat) (K2 : Nat → Int32 → Int32 → Int32 → Hp → Option (Int32 × Hp)) (l0 : Nat) (l1 : Int32) (l2 : Int32) (l3 : Int32) (h : Hp) : Option (Int32 × Hp) :=
  if 2 ≤ l3 then (bd (f_X2_afterDay F l1 h) fun v2 h3 => cV 2 h3 l0 (f_X1_isForced F l0 v2 (l2 - 1) 0 h3) fun v4 h5 => if v4 = 0 then (some ((-1), h5)) else (some (99, h5))) else (f_X1_firstMove_10 F K2 F l0 l1 l2 l3 0 h)
set_option maxRecDepth 100000 in
set_option maxHeartbeats 4000000 in
theorem T_X1_firstMove_2_b (F : Nat) {K2 : Nat → Int32 → Int32 → Int32 → Hp → Option (Int32 × Hp)} (hK2 : ∀ (l0 : Nat) (l1 : Int32) (l2 : Int32) (l3 : Int32) (h : Hp), G rvI I_X1_firstMove 21 2 [(0, .ref l0), (1, .int l1), (2, .int l2), (3, .int l3)] [] h (K2 l0 l1 l2 l3 h)) (l0 : Nat) (l1 : Int32) (l2 : Int32) (l3 : Int32) (h : Hp) : G rvI I_X1_firstMove 21 2 [(0, .ref l0), (1, .int l1), (2, .int l2), (3, .int l3)] [] h (f_X1_firstMove_2_b F K2 l0 l1 l2 l3 h) := by
  delta f_X1_firstMove_2_b
  refine g_iload_n 3 dX1_firstMove_2 rfl ?_
  refine g_iconst (v := 2) dX1_firstMove_3 (by decide) ?_
  refine g_icmp_ge (tgt := 77) dX1_firstMove_4 (by decide) (fun c1 => ?_) (fun c1 => ?_)
  · refine g_aload_n 0 dX1_firstMove_77 rfl ?_
    refine g_iload_n 1 dX1_firstMove_78 rfl ?_
    refine g_callSi (J := I_X2_afterDay) (As := [.int l1]) (rest := [.ref l0]) mjs_X2_afterDay ml_RX1_52 (by decide) rfl rfl (Nat.le_of_ble_eq_true rfl) dX1_firstMove_79 (T_X2_afterDay F l1 h) (fun v2 h3 => ?_)
    refine g_iload_n 2 dX1_firstMove_82 rfl ?_
    refine g_iconst (v := 1) dX1_firstMove_83 (by decide) ?_
    refine g_isub dX1_firstMove_84 ?_
    refine g_iconst (v := 0) dX1_firstMove_85 (by decide) ?_
    refine g_callVi (J := I_X1_isForced) (t := 2) (As := [.int v2, .int (l2 - 1), .int 0]) (rest := []) mjv_X1_isForced ml_RX1_41 ⟨rfl, by decide, by decide⟩ (by decide) rfl rfl (Nat.le_of_ble_eq_true rfl) dX1_firstMove_86 (T_X1_isForced F l0 v2 (l2 - 1) 0 h3) (fun v4 h5 => ?_)
    refine g_if_eq (tgt := 97) dX1_firstMove_89 (by decide) (fun c6 => ?_) (fun c6 => ?_)
    · refine g_iconst (v := (-1)) dX1_firstMove_97 (by decide) ?_
      exact g_iret rfl dX1_firstMove_98
    · refine g_bipush (v := 99) dX1_firstMove_92 (by decide) ?_
      refine g_goto (tgt := 98) dX1_firstMove_94 (by decide) ?_
      exact g_iret rfl dX1_firstMove_98
  · refine g_iconst (v := 0) dX1_firstMove_7 (by decide) ?_
    refine g_istore (lv' := [(4, .int 0), (0, .ref l0), (1, .int l1), (2, .int l2), (3, .int l3)]) dX1_firstMove_8 (by decide) rfl ?_
    refine G_lv [1, 2, 3, 4, 0] rfl ?_
    exact T_X1_firstMove_10 F hK2 F l0 l1 l2 l3 0 h
set_option maxRecDepth 100000 in
noncomputable def f_X1_firstMove_2 (F : Nat) : Nat → Nat → Int32 → Int32 → Int32 → Hp → Option (Int32 × Hp)
  | 0, _, _, _, _, _ => none
  | n + 1, l0, l1, l2, l3, h => f_X1_firstMove_2_b F (f_X1_firstMove_2 F n) l0 l1 l2 l3 h
set_option maxRecDepth 100000 in
set_option maxHeartbeats 4000000 in
theorem T_X1_firstMove_2 (F : Nat) : ∀ (n : Nat) (l0 : Nat) (l1 : Int32) (l2 : Int32) (l3 : Int32) (h : Hp), G rvI I_X1_firstMove 21 2 [(0, .ref l0), (1, .int l1), (2, .int l2), (3, .int l3)] [] h (f_X1_firstMove_2 F n l0 l1 l2 l3 h) := by
  intro n
  induction n with
  | zero => intros; exact G_none
  | succ n ih => intro l0 l1 l2 l3 h; exact T_X1_firstMove_2_b F ih l0 l1 l2 l3 h
set_option maxRecDepth 100000 in
noncomputable def f_X1_firstMove (F : Nat) (a0 : Nat) (a1 : Int32) (a2 : Int32) (h : Hp) : Option (Int32 × Hp) :=
  f_X1_firstMove_2 F F a0 a1 a2 0 h
set_option maxRecDepth 100000 in
set_option maxHeartbeats 4000000 in
theorem T_X1_firstMove (F : Nat) (a0 : Nat) (a1 : Int32) (a2 : Int32) (h : Hp) : GM rvI I_X1_firstMove 21 [.ref a0, .int a1, .int a2] h (f_X1_firstMove F a0 a1 a2 h) := by
  delta f_X1_firstMove
  refine GM_of (lv := [(0, .ref a0), (1, .int a1), (2, .int a2)]) (by decide +kernel) (Nat.le_of_ble_eq_true rfl) rfl ?_
  refine g_iconst (v := 0) dX1_firstMove_0 (by decide) ?_
  refine g_istore_n (lv' := [(3, .int 0), (0, .ref a0), (1, .int a1), (2, .int a2)]) dX1_firstMove_1 (by decide) rfl ?_
  refine G_lv [1, 2, 3, 0] rfl ?_
  exact T_X1_firstMove_2 F F a0 a1 a2 0 h
set_option maxRecDepth 100000 in
noncomputable def f_X11_best (F : Nat) (a0 : Nat) (a1 : Int32) (a2 : Int32) (h : Hp) : Option (Int32 × Hp) :=
  cV 12 h a0 (f_X11_noTwin F a0 a1 h) fun v1 h2 => if v1 = 0 then (cV 12 h2 a0 (f_X11_noDoing F a0 a2 h2) fun v4 h5 => if v4 = 0 then (gR 12 h5 a0 14 fun v7 => gR 12 h5 a0 3 fun v8 => gR 12 h5 a0 5 fun v9 => gI 9 h5 v9 1 fun v10 => cV 2 h5 v7 (f_X1_begin F v7 v8 v10 a1 a2 h5) fun v11 h12 => gR 12 h12 a0 14 fun v13 => gR 12 h12 a0 5 fun v14 => gI 9 h12 v14 0 fun v15 => cV 2 h12 v13 (f_X1_fewestTurns F v13 v15 h12) fun v16 h17 => if 0 < v16 then (gR 12 h17 a0 14 fun v19 => gR 12 h17 a0 5 fun v20 => gI 9 h17 v20 0 fun v21 => cV 2 h17 v19 (f_X1_firstMove F v19 v21 v16 h17) fun v22 h23 => some (v22, h23)) else (some ((-1), h17))) else (some ((-2), h5))) else (some ((-2), h2))
set_option maxRecDepth 100000 in
set_option maxHeartbeats 4000000 in
theorem T_X11_best (F : Nat) (a0 : Nat) (a1 : Int32) (a2 : Int32) (h : Hp) : GM rvI I_X11_best 22 [.ref a0, .int a1, .int a2] h (f_X11_best F a0 a1 a2 h) := by
  delta f_X11_best
  refine GM_of (lv := [(0, .ref a0), (1, .int a1), (2, .int a2)]) (by decide +kernel) (Nat.le_of_ble_eq_true rfl) rfl ?_
  refine g_aload_n 0 dX11_best_0 rfl ?_
  refine g_iload_n 1 dX11_best_1 rfl ?_
  refine g_callVi (J := I_X11_noTwin) (t := 12) (As := [.int a1]) (rest := []) mjv_X11_noTwin ml_RX11_149 ⟨rfl, by decide, by decide⟩ (by decide) rfl rfl (Nat.le_of_ble_eq_true rfl) dX11_best_2 (T_X11_noTwin F a0 a1 h) (fun v1 h2 => ?_)
  refine g_if_ne (tgt := 16) dX11_best_5 (by decide) (fun c3 => ?_) (fun c3 => ?_)
  · refine g_aload_n 0 dX11_best_8 rfl ?_
    refine g_iload_n 2 dX11_best_9 rfl ?_
    refine g_callVi (J := I_X11_noDoing) (t := 12) (As := [.int a2]) (rest := []) mjv_X11_noDoing ml_RX11_160 ⟨rfl, by decide, by decide⟩ (by decide) rfl rfl (Nat.le_of_ble_eq_true rfl) dX11_best_10 (T_X11_noDoing F a0 a2 h2) (fun v4 h5 => ?_)
    refine g_if_eq (tgt := 19) dX11_best_13 (by decide) (fun c6 => ?_) (fun c6 => ?_)
    · refine g_aload_n 0 dX11_best_19 rfl ?_
      refine g_getR fl_RX11_83 rfl dX11_best_20 (fun v7 => ?_)
      refine g_aload_n 0 dX11_best_23 rfl ?_
      refine g_getR fl_RX11_20 rfl dX11_best_24 (fun v8 => ?_)
      refine g_aload_n 0 dX11_best_27 rfl ?_
      refine g_getR fl_RX11_36 rfl dX11_best_28 (fun v9 => ?_)
      refine g_getI fl_RX11_133 rfl dX11_best_31 (fun v10 => ?_)
      refine g_iload_n 1 dX11_best_34 rfl ?_
      refine g_iload_n 2 dX11_best_35 rfl ?_
      refine g_callVv (J := I_X1_begin) (t := 2) (As := [.ref v8, .int v10, .int a1, .int a2]) (rest := []) mjv_X1_begin ml_RX11_349 ⟨rfl, by decide, by decide⟩ (by decide) rfl rfl (Nat.le_of_ble_eq_true rfl) dX11_best_36 (T_X1_begin F v7 v8 v10 a1 a2 h5) (fun v11 h12 => ?_)
      refine g_aload_n 0 dX11_best_39 rfl ?_
      refine g_getR fl_RX11_83 rfl dX11_best_40 (fun v13 => ?_)
      refine g_aload_n 0 dX11_best_43 rfl ?_
      refine g_getR fl_RX11_36 rfl dX11_best_44 (fun v14 => ?_)
      refine g_getI fl_RX11_127 rfl dX11_best_47 (fun v15 => ?_)
      refine g_callVi (J := I_X1_fewestTurns) (t := 2) (As := [.int v15]) (rest := []) mjv_X1_fewestTurns ml_RX11_352 ⟨rfl, by decide, by decide⟩ (by decide) rfl rfl (Nat.le_of_ble_eq_true rfl) dX11_best_50 (T_X1_fewestTurns F v13 v15 h12) (fun v16 h17 => ?_)
      refine g_istore_n (lv' := [(3, .int v16), (0, .ref a0), (1, .int a1), (2, .int a2)]) dX11_best_53 (by decide) rfl ?_
      refine g_iload_n 0 dX11_best_54 rfl ?_
      refine g_if_gt (tgt := 62) dX11_best_55 (by decide) (fun c18 => ?_) (fun c18 => ?_)
      · refine g_aload_n 1 dX11_best_62 rfl ?_
        refine g_getR fl_RX11_83 rfl dX11_best_63 (fun v19 => ?_)
        refine g_aload_n 1 dX11_best_66 rfl ?_
        refine g_getR fl_RX11_36 rfl dX11_best_67 (fun v20 => ?_)
        refine g_getI fl_RX11_127 rfl dX11_best_70 (fun v21 => ?_)
        refine g_iload_n 0 dX11_best_73 rfl ?_
        refine g_callVi (J := I_X1_firstMove) (t := 2) (As := [.int v21, .int v16]) (rest := []) mjv_X1_firstMove ml_RX11_355 ⟨rfl, by decide, by decide⟩ (by decide) rfl rfl (Nat.le_of_ble_eq_true rfl) dX11_best_74 (T_X1_firstMove F v19 v21 v16 h17) (fun v22 h23 => ?_)
        exact g_iret rfl dX11_best_77
      · refine g_iconst (v := (-1)) dX11_best_58 (by decide) ?_
        refine g_goto (tgt := 77) dX11_best_59 (by decide) ?_
        exact g_iret rfl dX11_best_77
    · refine g_bipush (v := (-2)) dX11_best_16 (by decide) ?_
      exact g_iret rfl dX11_best_18
  · refine g_bipush (v := (-2)) dX11_best_16 (by decide) ?_
    exact g_iret rfl dX11_best_18
set_option maxRecDepth 100000 in
noncomputable def f_X4_keep_45 (F : Nat) (l0 : Nat) (l1 : Nat) (h : Hp) : Option (Unit × Hp) :=
  gR 5 h l0 1 fun v3 => gI 5 h l0 0 fun v4 => gI 9 h l1 0 fun v5 => wI h v3 v4 v5 fun h6 => gR 5 h6 l0 2 fun v7 => gI 5 h6 l0 0 fun v8 => gI 9 h6 l1 1 fun v9 => wI h6 v7 v8 v9 fun h10 => gI 5 h10 l0 0 fun v11 => pI 5 h10 l0 0 (v11 + 1) fun h12 => some ((), h12)
set_option maxRecDepth 100000 in
set_option maxHeartbeats 4000000 in
theorem T_X4_keep_45 (F : Nat) (l0 : Nat) (l1 : Nat) (h : Hp) : G rvV I_X4_keep 1 45 [(0, .ref l0), (1, .ref l1)] [] h (f_X4_keep_45 F l0 l1 h) := by
  delta f_X4_keep_45
  refine g_aload_n 0 dX4_keep_45 rfl ?_
  refine g_getR fl_RX4_9 rfl dX4_keep_46 (fun v3 => ?_)
  refine g_aload_n 0 dX4_keep_49 rfl ?_
  refine g_getI fl_RX4_18 rfl dX4_keep_50 (fun v4 => ?_)
  refine g_aload_n 1 dX4_keep_53 rfl ?_
  refine g_getI fl_RX4_28 rfl dX4_keep_54 (fun v5 => ?_)
  refine g_iast dX4_keep_57 (fun h6 => ?_)
  refine g_aload_n 0 dX4_keep_58 rfl ?_
  refine g_getR fl_RX4_15 rfl dX4_keep_59 (fun v7 => ?_)
  refine g_aload_n 0 dX4_keep_62 rfl ?_
  refine g_getI fl_RX4_18 rfl dX4_keep_63 (fun v8 => ?_)
  refine g_aload_n 1 dX4_keep_66 rfl ?_
  refine g_getI fl_RX4_32 rfl dX4_keep_67 (fun v9 => ?_)
  refine g_iast dX4_keep_70 (fun h10 => ?_)
  refine g_aload_n 0 dX4_keep_71 rfl ?_
  refine g_dup dX4_keep_72 rfl ?_
  refine g_getI fl_RX4_18 rfl dX4_keep_73 (fun v11 => ?_)
  refine g_iconst (v := 1) dX4_keep_76 (by decide) ?_
  refine g_iadd dX4_keep_77 ?_
  refine g_putI fl_RX4_18 (Or.inl rfl) dX4_keep_78 (fun h12 => ?_)
  exact g_vret rfl dX4_keep_81
set_option maxRecDepth 100000 in
noncomputable def f_X4_keep (F : Nat) (a0 : Nat) (a1 : Nat) (h : Hp) : Option (Unit × Hp) :=
  gI 5 h a0 0 fun v1 => if v1 < 10 then (f_X4_keep_45 F a0 a1 h) else (gR 5 h a0 1 fun v13 => gR 5 h a0 1 fun v14 => cp h v13 1 v14 0 9 fun h15 => gR 5 h15 a0 2 fun v16 => gR 5 h15 a0 2 fun v17 => cp h15 v16 1 v17 0 9 fun h18 => pI 5 h18 a0 0 9 fun h19 => f_X4_keep_45 F a0 a1 h19)
set_option maxRecDepth 100000 in
set_option maxHeartbeats 4000000 in
theorem T_X4_keep (F : Nat) (a0 : Nat) (a1 : Nat) (h : Hp) : GM rvV I_X4_keep 1 [.ref a0, .ref a1] h (f_X4_keep F a0 a1 h) := by
  delta f_X4_keep
  refine GM_of (lv := [(0, .ref a0), (1, .ref a1)]) (by decide +kernel) (Nat.le_of_ble_eq_true rfl) rfl ?_
  refine g_aload_n 0 dX4_keep_0 rfl ?_
  refine g_getI fl_RX4_18 rfl dX4_keep_1 (fun v1 => ?_)
  refine g_bipush (v := 10) dX4_keep_4 (by decide) ?_
  refine g_icmp_lt (tgt := 45) dX4_keep_6 (by decide) (fun c2 => ?_) (fun c2 => ?_)
  · refine G_lv [0, 1] rfl ?_
    exact T_X4_keep_45 F a0 a1 h
  · refine g_aload_n 0 dX4_keep_9 rfl ?_
    refine g_getR fl_RX4_9 rfl dX4_keep_10 (fun v13 => ?_)
    refine g_iconst (v := 1) dX4_keep_13 (by decide) ?_
    refine g_aload_n 0 dX4_keep_14 rfl ?_
    refine g_getR fl_RX4_9 rfl dX4_keep_15 (fun v14 => ?_)
    refine g_iconst (v := 0) dX4_keep_18 (by decide) ?_
    refine g_bipush (v := 9) dX4_keep_19 (by decide) ?_
    refine g_acopy sy_RX4_22 (by decide) (Nat.le_of_ble_eq_true rfl) dX4_keep_21 (fun h15 => ?_)
    refine g_aload_n 0 dX4_keep_24 rfl ?_
    refine g_getR fl_RX4_15 rfl dX4_keep_25 (fun v16 => ?_)
    refine g_iconst (v := 1) dX4_keep_28 (by decide) ?_
    refine g_aload_n 0 dX4_keep_29 rfl ?_
    refine g_getR fl_RX4_15 rfl dX4_keep_30 (fun v17 => ?_)
    refine g_iconst (v := 0) dX4_keep_33 (by decide) ?_
    refine g_bipush (v := 9) dX4_keep_34 (by decide) ?_
    refine g_acopy sy_RX4_22 (by decide) (Nat.le_of_ble_eq_true rfl) dX4_keep_36 (fun h18 => ?_)
    refine g_aload_n 0 dX4_keep_39 rfl ?_
    refine g_bipush (v := 9) dX4_keep_40 (by decide) ?_
    refine g_putI fl_RX4_18 (Or.inl rfl) dX4_keep_42 (fun h19 => ?_)
    refine G_lv [0, 1] rfl ?_
    exact T_X4_keep_45 F a0 a1 h19
set_option maxRecDepth 100000 in
noncomputable def f_X11_takeTrial (F : Nat) (a0 : Nat) (h : Hp) : Option (Unit × Hp) :=
  gR 12 h a0 7 fun v1 => gR 12 h a0 5 fun v2 => cV 5 h v1 (f_X4_keep F v1 v2 h) fun v3 h4 => gR 12 h4 a0 5 fun v5 => gR 12 h4 a0 6 fun v6 => cV 9 h4 v5 (f_X8_copy F v5 v6 h4) fun v7 h8 => some ((), h8)
set_option maxRecDepth 100000 in
set_option maxHeartbeats 4000000 in
theorem T_X11_takeTrial (F : Nat) (a0 : Nat) (h : Hp) : GM rvV I_X11_takeTrial 2 [.ref a0] h (f_X11_takeTrial F a0 h) := by
  delta f_X11_takeTrial
  refine GM_of (lv := [(0, .ref a0)]) (by decide +kernel) (Nat.le_of_ble_eq_true rfl) rfl ?_
  refine g_aload_n 0 dX11_takeTrial_0 rfl ?_
  refine g_getR fl_RX11_46 rfl dX11_takeTrial_1 (fun v1 => ?_)
  refine g_aload_n 0 dX11_takeTrial_4 rfl ?_
  refine g_getR fl_RX11_36 rfl dX11_takeTrial_5 (fun v2 => ?_)
  refine g_callVv (J := I_X4_keep) (t := 5) (As := [.ref v2]) (rest := []) mjv_X4_keep ml_RX11_210 ⟨rfl, by decide, by decide⟩ (by decide) rfl rfl (Nat.le_of_ble_eq_true rfl) dX11_takeTrial_8 (T_X4_keep F v1 v2 h) (fun v3 h4 => ?_)
  refine g_aload_n 0 dX11_takeTrial_11 rfl ?_
  refine g_getR fl_RX11_36 rfl dX11_takeTrial_12 (fun v5 => ?_)
  refine g_aload_n 0 dX11_takeTrial_15 rfl ?_
  refine g_getR fl_RX11_40 rfl dX11_takeTrial_16 (fun v6 => ?_)
  refine g_callVv (J := I_X8_copy) (t := 9) (As := [.ref v6]) (rest := []) mjv_X8_copy ml_RX11_187 ⟨rfl, by decide, by decide⟩ (by decide) rfl rfl (Nat.le_of_ble_eq_true rfl) dX11_takeTrial_19 (T_X8_copy F v5 v6 h4) (fun v7 h8 => ?_)
  exact g_vret rfl dX11_takeTrial_22
set_option maxRecDepth 100000 in
noncomputable def f_X11_bond (F : Nat) (a0 : Nat) (a1 : Int32) (h : Hp) : Option (Int32 × Hp) :=
  gR 12 h a0 6 fun v1 => gR 12 h a0 5 fun v2 => cV 9 h v1 (f_X8_copy F v1 v2 h) fun v3 h4 => gR 12 h4 a0 6 fun v5 => cV 9 h4 v5 (f_X8_bonding F v5 a1 h4) fun v6 h7 => if v6 = 0 then (gR 12 h7 a0 5 fun v9 => gI 9 h7 v9 1 fun v10 => cV 12 h7 a0 (f_X11_takeTrial F a0 h7) fun v11 h12 => some (v10, h12)) else (some (((-10) - v6), h7))
set_option maxRecDepth 100000 in
set_option maxHeartbeats 4000000 in
theorem T_X11_bond (F : Nat) (a0 : Nat) (a1 : Int32) (h : Hp) : GM rvI I_X11_bond 3 [.ref a0, .int a1] h (f_X11_bond F a0 a1 h) := by
  delta f_X11_bond
  refine GM_of (lv := [(0, .ref a0), (1, .int a1)]) (by decide +kernel) (Nat.le_of_ble_eq_true rfl) rfl ?_
  refine g_aload_n 0 dX11_bond_0 rfl ?_
  refine g_getR fl_RX11_40 rfl dX11_bond_1 (fun v1 => ?_)
  refine g_aload_n 0 dX11_bond_4 rfl ?_
  refine g_getR fl_RX11_36 rfl dX11_bond_5 (fun v2 => ?_)
  refine g_callVv (J := I_X8_copy) (t := 9) (As := [.ref v2]) (rest := []) mjv_X8_copy ml_RX11_187 ⟨rfl, by decide, by decide⟩ (by decide) rfl rfl (Nat.le_of_ble_eq_true rfl) dX11_bond_8 (T_X8_copy F v1 v2 h) (fun v3 h4 => ?_)
  refine g_aload_n 0 dX11_bond_11 rfl ?_
  refine g_getR fl_RX11_40 rfl dX11_bond_12 (fun v5 => ?_)
  refine g_iload_n 1 dX11_bond_15 rfl ?_
  refine g_callVi (J := I_X8_bonding) (t := 9) (As := [.int a1]) (rest := []) mjv_X8_bonding ml_RX11_207 ⟨rfl, by decide, by decide⟩ (by decide) rfl rfl (Nat.le_of_ble_eq_true rfl) dX11_bond_16 (T_X8_bonding F v5 a1 h4) (fun v6 h7 => ?_)
  refine g_istore_n (lv' := [(2, .int v6), (0, .ref a0), (1, .int a1)]) dX11_bond_19 (by decide) rfl ?_
  refine g_iload_n 0 dX11_bond_20 rfl ?_
  refine g_if_eq (tgt := 29) dX11_bond_21 (by decide) (fun c8 => ?_) (fun c8 => ?_)
  · refine g_aload_n 1 dX11_bond_29 rfl ?_
    refine g_getR fl_RX11_36 rfl dX11_bond_30 (fun v9 => ?_)
    refine g_getI fl_RX11_133 rfl dX11_bond_33 (fun v10 => ?_)
    refine g_istore_n (lv' := [(3, .int v10), (2, .int v6), (0, .ref a0), (1, .int a1)]) dX11_bond_36 (by decide) rfl ?_
    refine g_aload_n 2 dX11_bond_37 rfl ?_
    refine g_callVv (J := I_X11_takeTrial) (t := 12) (As := []) (rest := []) mjv_X11_takeTrial ml_RX11_195 ⟨rfl, by decide, by decide⟩ (by decide) rfl rfl (Nat.le_of_ble_eq_true rfl) dX11_bond_38 (T_X11_takeTrial F a0 h7) (fun v11 h12 => ?_)
    refine g_iload_n 0 dX11_bond_41 rfl ?_
    exact g_iret rfl dX11_bond_42
  · refine g_bipush (v := (-10)) dX11_bond_24 (by decide) ?_
    refine g_iload_n 0 dX11_bond_26 rfl ?_
    refine g_isub dX11_bond_27 ?_
    exact g_iret rfl dX11_bond_28
set_option maxRecDepth 100000 in
noncomputable def f_X11_bonds (F : Nat) (a0 : Nat) (a1 : Int32) (a2 : Int32) (a3 : Int32) (h : Hp) : Option (Int32 × Hp) :=
  cV 12 h a0 (f_X11_refusalOfBonds F a0 a1 a2 a3 h) fun v1 h2 => if v1 = 0 then (gR 12 h2 a0 8 fun v4 => aR 26 h2 v4 a1 fun v5 => cV 12 h2 a0 (f_X11_bondBits F a0 v5 a2 a3 h2) fun v6 h7 => some (v6, h7)) else (some (v1, h2))
set_option maxRecDepth 100000 in
set_option maxHeartbeats 4000000 in
theorem T_X11_bonds (F : Nat) (a0 : Nat) (a1 : Int32) (a2 : Int32) (a3 : Int32) (h : Hp) : GM rvI I_X11_bonds 8 [.ref a0, .int a1, .int a2, .int a3] h (f_X11_bonds F a0 a1 a2 a3 h) := by
  delta f_X11_bonds
  refine GM_of (lv := [(0, .ref a0), (1, .int a1), (2, .int a2), (3, .int a3)]) (by decide +kernel) (Nat.le_of_ble_eq_true rfl) rfl ?_
  refine g_aload_n 0 dX11_bonds_0 rfl ?_
  refine g_iload_n 1 dX11_bonds_1 rfl ?_
  refine g_iload_n 2 dX11_bonds_2 rfl ?_
  refine g_iload_n 3 dX11_bonds_3 rfl ?_
  refine g_callVi (J := I_X11_refusalOfBonds) (t := 12) (As := [.int a1, .int a2, .int a3]) (rest := []) mjv_X11_refusalOfBonds ml_RX11_322 ⟨rfl, by decide, by decide⟩ (by decide) rfl rfl (Nat.le_of_ble_eq_true rfl) dX11_bonds_4 (T_X11_refusalOfBonds F a0 a1 a2 a3 h) (fun v1 h2 => ?_)
  refine g_istore (lv' := [(4, .int v1), (0, .ref a0), (1, .int a1), (2, .int a2), (3, .int a3)]) dX11_bonds_7 (by decide) rfl ?_
  refine g_iload 0 dX11_bonds_9 rfl ?_
  refine g_if_eq (tgt := 19) dX11_bonds_11 (by decide) (fun c3 => ?_) (fun c3 => ?_)
  · refine g_aload_n 1 dX11_bonds_19 rfl ?_
    refine g_aload_n 1 dX11_bonds_20 rfl ?_
    refine g_getR fl_RX11_52 rfl dX11_bonds_21 (fun v4 => ?_)
    refine g_iload_n 2 dX11_bonds_24 rfl ?_
    refine g_aald (by decide) (by decide) dX11_bonds_25 (fun v5 => ?_)
    refine g_iload_n 3 dX11_bonds_26 rfl ?_
    refine g_iload_n 4 dX11_bonds_27 rfl ?_
    refine g_callVi (J := I_X11_bondBits) (t := 12) (As := [.ref v5, .int a2, .int a3]) (rest := []) mjv_X11_bondBits ml_RX11_325 ⟨rfl, by decide, by decide⟩ (by decide) rfl rfl (Nat.le_of_ble_eq_true rfl) dX11_bonds_28 (T_X11_bondBits F a0 v5 a2 a3 h2) (fun v6 h7 => ?_)
    exact g_iret rfl dX11_bonds_31
  · refine g_iload 0 dX11_bonds_14 rfl ?_
    refine g_goto (tgt := 31) dX11_bonds_16 (by decide) ?_
    exact g_iret rfl dX11_bonds_31
