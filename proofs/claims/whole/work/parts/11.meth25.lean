/-! L2, by program (wip/whole/gen/gen.py) -/
set_option maxRecDepth 100000 in
noncomputable def f_X12_overhears_131 (F : Nat) (K106 : Nat → Int32 → Int32 → Int32 → Hp → Option (Int32 × Hp)) (l0 : Nat) (l1 : Int32) (l2 : Int32) (l3 : Int32) (h : Hp) : Option (Int32 × Hp) :=
  K106 l0 l1 l2 (l3 + 1) h
set_option maxRecDepth 100000 in
set_option maxHeartbeats 4000000 in
theorem T_X12_overhears_131 (F : Nat) {K106 : Nat → Int32 → Int32 → Int32 → Hp → Option (Int32 × Hp)} (hK106 : ∀ (l0 : Nat) (l1 : Int32) (l2 : Int32) (l3 : Int32) (h : Hp), G rvI I_X12_overhears 8 106 [(0, .ref l0), (1, .int l1), (2, .int l2), (3, .int l3)] [] h (K106 l0 l1 l2 l3 h)) (l0 : Nat) (l1 : Int32) (l2 : Int32) (l3 : Int32) (h : Hp) : G rvI I_X12_overhears 8 131 [(0, .ref l0), (1, .int l1), (2, .int l2), (3, .int l3)] [] h (f_X12_overhears_131 F K106 l0 l1 l2 l3 h) := by
  delta f_X12_overhears_131
  refine g_iinc (v' := l3 + 1) (lv' := [(3, .int (l3 + 1)), (0, .ref l0), (1, .int l1), (2, .int l2)]) 3 dX12_overhears_131 rfl rfl (by decide) rfl ?_
  refine g_goto (tgt := 106) dX12_overhears_134 (by decide) ?_
  refine G_lv [1, 2, 3, 0] rfl ?_
  exact hK106 l0 l1 l2 (l3 + 1) h
set_option maxRecDepth 100000 in
noncomputable def f_X12_overhears_106_b (F : Nat) (K106 : Nat → Int32 → Int32 → Int32 → Hp → Option (Int32 × Hp)) (l0 : Nat) (l1 : Int32) (l2 : Int32) (l3 : Int32) (h : Hp) : Option (Int32 × Hp) :=
  if 4 ≤ l3 then (some (l2, h)) else (cV 13 h l0 (f_X12_standNow F l0 h) fun v12 h13 => bd (f_X12_ageIn F v12 l1 l3 h13) fun v14 h15 => if v14 ≤ 0 then (f_X12_overhears_131 F K106 l0 l1 l2 l3 h15) else (lt (l2 &&& (((1 : Int32) <<< (l3 &&& 31)) ^^^ (-1))) fun x17 => f_X12_overhears_131 F K106 l0 l1 x17 l3 h15))
set_option maxRecDepth 100000 in
set_option maxHeartbeats 4000000 in
theorem T_X12_overhears_106_b (F : Nat) {K106 : Nat → Int32 → Int32 → Int32 → Hp → Option (Int32 × Hp)} (hK106 : ∀ (l0 : Nat) (l1 : Int32) (l2 : Int32) (l3 : Int32) (h : Hp), G rvI I_X12_overhears 8 106 [(0, .ref l0), (1, .int l1), (2, .int l2), (3, .int l3)] [] h (K106 l0 l1 l2 l3 h)) (l0 : Nat) (l1 : Int32) (l2 : Int32) (l3 : Int32) (h : Hp) : G rvI I_X12_overhears 8 106 [(0, .ref l0), (1, .int l1), (2, .int l2), (3, .int l3)] [] h (f_X12_overhears_106_b F K106 l0 l1 l2 l3 h) := by
  delta f_X12_overhears_106_b
  refine g_iload_n 3 dX12_overhears_106 rfl ?_
  refine g_iconst (v := 4) dX12_overhears_107 (by decide) ?_
  refine g_icmp_ge (tgt := 137) dX12_overhears_108 (by decide) (fun c11 => ?_) (fun c11 => ?_)
  · refine g_iload_n 2 dX12_overhears_137 rfl ?_
    exact g_iret rfl dX12_overhears_138
  · refine g_aload_n 0 dX12_overhears_111 rfl ?_
    refine g_callVi (J := I_X12_standNow) (t := 13) (As := []) (rest := []) mjv_X12_standNow ml_RX12_260 ⟨rfl, by decide, by decide⟩ (by decide) rfl rfl (Nat.le_of_ble_eq_true rfl) dX12_overhears_112 (T_X12_standNow F l0 h) (fun v12 h13 => ?_)
    refine g_iload_n 1 dX12_overhears_115 rfl ?_
    refine g_iload_n 3 dX12_overhears_116 rfl ?_
    refine g_callSi (J := I_X12_ageIn) (As := [.int v12, .int l1, .int l3]) (rest := []) mjs_X12_ageIn ml_RX12_214 (by decide) rfl rfl (Nat.le_of_ble_eq_true rfl) dX12_overhears_117 (T_X12_ageIn F v12 l1 l3 h13) (fun v14 h15 => ?_)
    refine g_if_le (tgt := 131) dX12_overhears_120 (by decide) (fun c16 => ?_) (fun c16 => ?_)
    · refine G_lv [0, 1, 2, 3] rfl ?_
      exact T_X12_overhears_131 F hK106 l0 l1 l2 l3 h15
    · refine g_iload_n 2 dX12_overhears_123 rfl ?_
      refine g_iconst (v := 1) dX12_overhears_124 (by decide) ?_
      refine g_iload_n 3 dX12_overhears_125 rfl ?_
      refine g_ishl dX12_overhears_126 ?_
      refine g_iconst (v := (-1)) dX12_overhears_127 (by decide) ?_
      refine g_ixor dX12_overhears_128 ?_
      refine g_iand dX12_overhears_129 ?_
      refine G_lti (fun x17 => ?_)
      refine g_istore_n (lv' := [(2, .int x17), (0, .ref l0), (1, .int l1), (3, .int l3)]) dX12_overhears_130 (by decide) rfl ?_
      refine G_lv [1, 2, 0, 3] rfl ?_
      exact T_X12_overhears_131 F hK106 l0 l1 x17 l3 h15
set_option maxRecDepth 100000 in
noncomputable def f_X12_overhears_106 (F : Nat) : Nat → Nat → Int32 → Int32 → Int32 → Hp → Option (Int32 × Hp)
  | 0, _, _, _, _, _ => none
  | n + 1, l0, l1, l2, l3, h => f_X12_overhears_106_b F (f_X12_overhears_106 F n) l0 l1 l2 l3 h
set_option maxRecDepth 100000 in
set_option maxHeartbeats 4000000 in
theorem T_X12_overhears_106 (F : Nat) : ∀ (n : Nat) (l0 : Nat) (l1 : Int32) (l2 : Int32) (l3 : Int32) (h : Hp), G rvI I_X12_overhears 8 106 [(0, .ref l0), (1, .int l1), (2, .int l2), (3, .int l3)] [] h (f_X12_overhears_106 F n l0 l1 l2 l3 h) := by
  intro n
  induction n with
  | zero => intros; exact G_none
  | succ n ih => intro l0 l1 l2 l3 h; exact T_X12_overhears_106_b F ih l0 l1 l2 l3 h
set_option maxRecDepth 100000 in
noncomputable def f_X12_overhears_90 (F : Nat) (K47 : Nat → Int32 → Int32 → Int32 → Hp → Option (Int32 × Hp)) (K56 : Nat → Int32 → Int32 → Int32 → Int32 → Hp → Option (Int32 × Hp)) (l0 : Nat) (l1 : Int32) (l3 : Int32) (l4 : Int32) (s0 : Int32) (s1 : Int32) (h : Hp) : Option (Int32 × Hp) :=
  lt (s1 ||| s0) fun x22 => K56 l0 l1 x22 l3 (l4 + 1) h
set_option maxRecDepth 100000 in
set_option maxHeartbeats 4000000 in
theorem T_X12_overhears_90 (F : Nat) {K47 : Nat → Int32 → Int32 → Int32 → Hp → Option (Int32 × Hp)} (hK47 : ∀ (l0 : Nat) (l1 : Int32) (l2 : Int32) (l3 : Int32) (h : Hp), G rvI I_X12_overhears 8 47 [(0, .ref l0), (1, .int l1), (2, .int l2), (3, .int l3)] [] h (K47 l0 l1 l2 l3 h)) {K56 : Nat → Int32 → Int32 → Int32 → Int32 → Hp → Option (Int32 × Hp)} (hK56 : ∀ (l0 : Nat) (l1 : Int32) (l2 : Int32) (l3 : Int32) (l4 : Int32) (h : Hp), G rvI I_X12_overhears 8 56 [(0, .ref l0), (1, .int l1), (2, .int l2), (3, .int l3), (4, .int l4)] [] h (K56 l0 l1 l2 l3 l4 h)) (l0 : Nat) (l1 : Int32) (l3 : Int32) (l4 : Int32) (s0 : Int32) (s1 : Int32) (h : Hp) : G rvI I_X12_overhears 8 90 [(0, .ref l0), (1, .int l1), (3, .int l3), (4, .int l4)] [.int s0, .int s1] h (f_X12_overhears_90 F K47 K56 l0 l1 l3 l4 s0 s1 h) := by
  delta f_X12_overhears_90
  refine g_ior dX12_overhears_90 ?_
  refine G_lti (fun x22 => ?_)
  refine g_istore_n (lv' := [(2, .int x22), (0, .ref l0), (1, .int l1), (3, .int l3), (4, .int l4)]) dX12_overhears_91 (by decide) rfl ?_
  refine g_iinc (v' := l4 + 1) (lv' := [(4, .int (l4 + 1)), (2, .int x22), (0, .ref l0), (1, .int l1), (3, .int l3)]) 4 dX12_overhears_92 rfl rfl (by decide) rfl ?_
  refine g_goto (tgt := 56) dX12_overhears_95 (by decide) ?_
  refine G_lv [2, 3, 1, 4, 0] rfl ?_
  exact hK56 l0 l1 x22 l3 (l4 + 1) h
set_option maxRecDepth 100000 in
noncomputable def f_X12_overhears_89 (F : Nat) (K47 : Nat → Int32 → Int32 → Int32 → Hp → Option (Int32 × Hp)) (K56 : Nat → Int32 → Int32 → Int32 → Int32 → Hp → Option (Int32 × Hp)) (l0 : Nat) (l1 : Int32) (l3 : Int32) (l4 : Int32) (s0 : Int32) (h : Hp) : Option (Int32 × Hp) :=
  f_X12_overhears_90 F K47 K56 l0 l1 l3 l4 0 s0 h
set_option maxRecDepth 100000 in
set_option maxHeartbeats 4000000 in
theorem T_X12_overhears_89 (F : Nat) {K47 : Nat → Int32 → Int32 → Int32 → Hp → Option (Int32 × Hp)} (hK47 : ∀ (l0 : Nat) (l1 : Int32) (l2 : Int32) (l3 : Int32) (h : Hp), G rvI I_X12_overhears 8 47 [(0, .ref l0), (1, .int l1), (2, .int l2), (3, .int l3)] [] h (K47 l0 l1 l2 l3 h)) {K56 : Nat → Int32 → Int32 → Int32 → Int32 → Hp → Option (Int32 × Hp)} (hK56 : ∀ (l0 : Nat) (l1 : Int32) (l2 : Int32) (l3 : Int32) (l4 : Int32) (h : Hp), G rvI I_X12_overhears 8 56 [(0, .ref l0), (1, .int l1), (2, .int l2), (3, .int l3), (4, .int l4)] [] h (K56 l0 l1 l2 l3 l4 h)) (l0 : Nat) (l1 : Int32) (l3 : Int32) (l4 : Int32) (s0 : Int32) (h : Hp) : G rvI I_X12_overhears 8 89 [(0, .ref l0), (1, .int l1), (3, .int l3), (4, .int l4)] [.int s0] h (f_X12_overhears_89 F K47 K56 l0 l1 l3 l4 s0 h) := by
  delta f_X12_overhears_89
  refine g_iconst (v := 0) dX12_overhears_89 (by decide) ?_
  refine G_lv [0, 1, 2, 3] rfl ?_
  exact T_X12_overhears_90 F hK47 hK56 l0 l1 l3 l4 0 s0 h
set_option maxRecDepth 100000 in
noncomputable def f_X12_overhears_56_b (F : Nat) (K47 : Nat → Int32 → Int32 → Int32 → Hp → Option (Int32 × Hp)) (K56 : Nat → Int32 → Int32 → Int32 → Int32 → Hp → Option (Int32 × Hp)) (l0 : Nat) (l1 : Int32) (l2 : Int32) (l3 : Int32) (l4 : Int32) (h : Hp) : Option (Int32 × Hp) :=
  if 4 ≤ l4 then (K47 l0 l1 l2 (l3 + 1) h) else (gR 13 h l0 21 fun v19 => aI 22 h v19 l3 fun v20 => if v20 = 0 then (f_X12_overhears_89 F K47 K56 l0 l1 l3 l4 l2 h) else (bd (f_X12_ageIn F l3 l1 l4 h) fun v23 h24 => if v23 ≤ 0 then (f_X12_overhears_89 F K47 K56 l0 l1 l3 l4 l2 h24) else (f_X12_overhears_90 F K47 K56 l0 l1 l3 l4 ((1 : Int32) <<< (l4 &&& 31)) l2 h24)))
set_option maxRecDepth 100000 in
set_option maxHeartbeats 4000000 in
theorem T_X12_overhears_56_b (F : Nat) {K47 : Nat → Int32 → Int32 → Int32 → Hp → Option (Int32 × Hp)} (hK47 : ∀ (l0 : Nat) (l1 : Int32) (l2 : Int32) (l3 : Int32) (h : Hp), G rvI I_X12_overhears 8 47 [(0, .ref l0), (1, .int l1), (2, .int l2), (3, .int l3)] [] h (K47 l0 l1 l2 l3 h)) {K56 : Nat → Int32 → Int32 → Int32 → Int32 → Hp → Option (Int32 × Hp)} (hK56 : ∀ (l0 : Nat) (l1 : Int32) (l2 : Int32) (l3 : Int32) (l4 : Int32) (h : Hp), G rvI I_X12_overhears 8 56 [(0, .ref l0), (1, .int l1), (2, .int l2), (3, .int l3), (4, .int l4)] [] h (K56 l0 l1 l2 l3 l4 h)) (l0 : Nat) (l1 : Int32) (l2 : Int32) (l3 : Int32) (l4 : Int32) (h : Hp) : G rvI I_X12_overhears 8 56 [(0, .ref l0), (1, .int l1), (2, .int l2), (3, .int l3), (4, .int l4)] [] h (f_X12_overhears_56_b F K47 K56 l0 l1 l2 l3 l4 h) := by
  delta f_X12_overhears_56_b
  refine g_iload 4 dX12_overhears_56 rfl ?_
  refine g_iconst (v := 4) dX12_overhears_58 (by decide) ?_
  refine g_icmp_ge (tgt := 98) dX12_overhears_59 (by decide) (fun c18 => ?_) (fun c18 => ?_)
  · refine g_iinc (v' := l3 + 1) (lv' := [(3, .int (l3 + 1)), (0, .ref l0), (1, .int l1), (2, .int l2), (4, .int l4)]) 3 dX12_overhears_98 rfl rfl (by decide) rfl ?_
    refine g_goto (tgt := 47) dX12_overhears_101 (by decide) ?_
    refine G_lv [1, 2, 3, 0] rfl ?_
    exact hK47 l0 l1 l2 (l3 + 1) h
  · refine g_iload_n 2 dX12_overhears_62 rfl ?_
    refine g_aload_n 0 dX12_overhears_63 rfl ?_
    refine g_getR fl_RX12_40 rfl dX12_overhears_64 (fun v19 => ?_)
    refine g_iload_n 3 dX12_overhears_67 rfl ?_
    refine g_zald dX12_overhears_68 (fun v20 => ?_)
    refine g_if_eq (tgt := 89) dX12_overhears_69 (by decide) (fun c21 => ?_) (fun c21 => ?_)
    · refine G_lv [0, 1, 3, 4] rfl ?_
      exact T_X12_overhears_89 F hK47 hK56 l0 l1 l3 l4 l2 h
    · refine g_iload_n 3 dX12_overhears_72 rfl ?_
      refine g_iload_n 1 dX12_overhears_73 rfl ?_
      refine g_iload 4 dX12_overhears_74 rfl ?_
      refine g_callSi (J := I_X12_ageIn) (As := [.int l3, .int l1, .int l4]) (rest := [.int l2]) mjs_X12_ageIn ml_RX12_214 (by decide) rfl rfl (Nat.le_of_ble_eq_true rfl) dX12_overhears_76 (T_X12_ageIn F l3 l1 l4 h) (fun v23 h24 => ?_)
      refine g_if_le (tgt := 89) dX12_overhears_79 (by decide) (fun c25 => ?_) (fun c25 => ?_)
      · refine G_lv [0, 1, 3, 4] rfl ?_
        exact T_X12_overhears_89 F hK47 hK56 l0 l1 l3 l4 l2 h24
      · refine g_iconst (v := 1) dX12_overhears_82 (by decide) ?_
        refine g_iload 4 dX12_overhears_83 rfl ?_
        refine g_ishl dX12_overhears_85 ?_
        refine g_goto (tgt := 90) dX12_overhears_86 (by decide) ?_
        refine G_lv [0, 1, 3, 4] rfl ?_
        exact T_X12_overhears_90 F hK47 hK56 l0 l1 l3 l4 ((1 : Int32) <<< (l4 &&& 31)) l2 h24
set_option maxRecDepth 100000 in
noncomputable def f_X12_overhears_56 (F : Nat) (K47 : Nat → Int32 → Int32 → Int32 → Hp → Option (Int32 × Hp)) : Nat → Nat → Int32 → Int32 → Int32 → Int32 → Hp → Option (Int32 × Hp)
  | 0, _, _, _, _, _, _ => none
  | n + 1, l0, l1, l2, l3, l4, h => f_X12_overhears_56_b F K47 (f_X12_overhears_56 F K47 n) l0 l1 l2 l3 l4 h
set_option maxRecDepth 100000 in
set_option maxHeartbeats 4000000 in
theorem T_X12_overhears_56 (F : Nat) {K47 : Nat → Int32 → Int32 → Int32 → Hp → Option (Int32 × Hp)} (hK47 : ∀ (l0 : Nat) (l1 : Int32) (l2 : Int32) (l3 : Int32) (h : Hp), G rvI I_X12_overhears 8 47 [(0, .ref l0), (1, .int l1), (2, .int l2), (3, .int l3)] [] h (K47 l0 l1 l2 l3 h)) : ∀ (n : Nat) (l0 : Nat) (l1 : Int32) (l2 : Int32) (l3 : Int32) (l4 : Int32) (h : Hp), G rvI I_X12_overhears 8 56 [(0, .ref l0), (1, .int l1), (2, .int l2), (3, .int l3), (4, .int l4)] [] h (f_X12_overhears_56 F K47 n l0 l1 l2 l3 l4 h) := by
  intro n
  induction n with
  | zero => intros; exact G_none
  | succ n ih => intro l0 l1 l2 l3 l4 h; exact T_X12_overhears_56_b F hK47 ih l0 l1 l2 l3 l4 h
set_option maxRecDepth 100000 in
noncomputable def f_X12_overhears_47_b (F : Nat) (K47 : Nat → Int32 → Int32 → Int32 → Hp → Option (Int32 × Hp)) (l0 : Nat) (l1 : Int32) (l2 : Int32) (l3 : Int32) (h : Hp) : Option (Int32 × Hp) :=
  if 65536 ≤ l3 then (f_X12_overhears_106 F F l0 l1 l2 0 h) else (f_X12_overhears_56 F K47 F l0 l1 l2 l3 0 h)
set_option maxRecDepth 100000 in
set_option maxHeartbeats 4000000 in
theorem T_X12_overhears_47_b (F : Nat) {K47 : Nat → Int32 → Int32 → Int32 → Hp → Option (Int32 × Hp)} (hK47 : ∀ (l0 : Nat) (l1 : Int32) (l2 : Int32) (l3 : Int32) (h : Hp), G rvI I_X12_overhears 8 47 [(0, .ref l0), (1, .int l1), (2, .int l2), (3, .int l3)] [] h (K47 l0 l1 l2 l3 h)) (l0 : Nat) (l1 : Int32) (l2 : Int32) (l3 : Int32) (h : Hp) : G rvI I_X12_overhears 8 47 [(0, .ref l0), (1, .int l1), (2, .int l2), (3, .int l3)] [] h (f_X12_overhears_47_b F K47 l0 l1 l2 l3 h) := by
  delta f_X12_overhears_47_b
  refine g_iload_n 3 dX12_overhears_47 rfl ?_
  refine g_ldc (v := 65536) dX12_overhears_48 co_RX12_39 ?_
  refine g_icmp_ge (tgt := 104) dX12_overhears_50 (by decide) (fun c10 => ?_) (fun c10 => ?_)
  · refine g_iconst (v := 0) dX12_overhears_104 (by decide) ?_
    refine g_istore_n (lv' := [(3, .int 0), (0, .ref l0), (1, .int l1), (2, .int l2)]) dX12_overhears_105 (by decide) rfl ?_
    refine G_lv [1, 2, 3, 0] rfl ?_
    exact T_X12_overhears_106 F F l0 l1 l2 0 h
  · refine g_iconst (v := 0) dX12_overhears_53 (by decide) ?_
    refine g_istore (lv' := [(4, .int 0), (0, .ref l0), (1, .int l1), (2, .int l2), (3, .int l3)]) dX12_overhears_54 (by decide) rfl ?_
    refine G_lv [1, 2, 3, 4, 0] rfl ?_
    exact T_X12_overhears_56 F hK47 F l0 l1 l2 l3 0 h
set_option maxRecDepth 100000 in
noncomputable def f_X12_overhears_47 (F : Nat) : Nat → Nat → Int32 → Int32 → Int32 → Hp → Option (Int32 × Hp)
  | 0, _, _, _, _, _ => none
  | n + 1, l0, l1, l2, l3, h => f_X12_overhears_47_b F (f_X12_overhears_47 F n) l0 l1 l2 l3 h
set_option maxRecDepth 100000 in
set_option maxHeartbeats 4000000 in
theorem T_X12_overhears_47 (F : Nat) : ∀ (n : Nat) (l0 : Nat) (l1 : Int32) (l2 : Int32) (l3 : Int32) (h : Hp), G rvI I_X12_overhears 8 47 [(0, .ref l0), (1, .int l1), (2, .int l2), (3, .int l3)] [] h (f_X12_overhears_47 F n l0 l1 l2 l3 h) := by
  intro n
  induction n with
  | zero => intros; exact G_none
  | succ n ih => intro l0 l1 l2 l3 h; exact T_X12_overhears_47_b F ih l0 l1 l2 l3 h
set_option maxRecDepth 100000 in
noncomputable def f_X12_overhears_39 (F : Nat) (l0 : Nat) (l1 : Int32) (s0 : Int32) (s1 : Int32) (s2 : Nat) (h : Hp) : Option (Int32 × Hp) :=
  cV 13 h s2 (f_X12_laysReached F s2 (s1 ||| s0) h) fun v8 h9 => f_X12_overhears_47 F F l0 l1 0 0 h9
set_option maxRecDepth 100000 in
set_option maxHeartbeats 4000000 in
theorem T_X12_overhears_39 (F : Nat) (l0 : Nat) (l1 : Int32) (s0 : Int32) (s1 : Int32) (s2 : Nat) (h : Hp) : G rvI I_X12_overhears 8 39 [(0, .ref l0), (1, .int l1)] [.int s0, .int s1, .ref s2] h (f_X12_overhears_39 F l0 l1 s0 s1 s2 h) := by
  delta f_X12_overhears_39
  refine g_ior dX12_overhears_39 ?_
  refine g_callVv (J := I_X12_laysReached) (t := 13) (As := [.int (s1 ||| s0)]) (rest := []) mjv_X12_laysReached ml_RX12_358 ⟨rfl, by decide, by decide⟩ (by decide) rfl rfl (Nat.le_of_ble_eq_true rfl) dX12_overhears_40 (T_X12_laysReached F s2 (s1 ||| s0) h) (fun v8 h9 => ?_)
  refine g_iconst (v := 0) dX12_overhears_43 (by decide) ?_
  refine g_istore_n (lv' := [(2, .int 0), (0, .ref l0), (1, .int l1)]) dX12_overhears_44 (by decide) rfl ?_
  refine g_iconst (v := 0) dX12_overhears_45 (by decide) ?_
  refine g_istore_n (lv' := [(3, .int 0), (2, .int 0), (0, .ref l0), (1, .int l1)]) dX12_overhears_46 (by decide) rfl ?_
  refine G_lv [2, 3, 1, 0] rfl ?_
  exact T_X12_overhears_47 F F l0 l1 0 0 h9
set_option maxRecDepth 100000 in
noncomputable def f_X12_overhears (F : Nat) (a0 : Nat) (a1 : Int32) (h : Hp) : Option (Int32 × Hp) :=
  pI 13 h a0 0 0 fun h1 => bd (f_X12_isTwin F (a1.toInt64) h1) fun v2 h3 => if v2 = 0 then (some ((-2), h3)) else (cV 13 h3 a0 (f_X12_laysReached F a0 511 h3) fun v5 h6 => if a1 = 0 then (f_X12_overhears_39 F a0 a1 240 256 a0 h6) else (f_X12_overhears_39 F a0 a1 15 256 a0 h6))
set_option maxRecDepth 100000 in
set_option maxHeartbeats 4000000 in
theorem T_X12_overhears (F : Nat) (a0 : Nat) (a1 : Int32) (h : Hp) : GM rvI I_X12_overhears 8 [.ref a0, .int a1] h (f_X12_overhears F a0 a1 h) := by
  delta f_X12_overhears
  refine GM_of (lv := [(0, .ref a0), (1, .int a1)]) (by decide +kernel) (Nat.le_of_ble_eq_true rfl) rfl ?_
  refine g_aload_n 0 dX12_overhears_0 rfl ?_
  refine g_iconst (v := 0) dX12_overhears_1 (by decide) ?_
  refine g_putI fl_RX12_1 (Or.inl rfl) dX12_overhears_2 (fun h1 => ?_)
  refine g_iload_n 1 dX12_overhears_5 rfl ?_
  refine g_i2l dX12_overhears_6 ?_
  refine g_callSi (J := I_X12_isTwin) (As := [.long (a1.toInt64)]) (rest := []) mjs_X12_isTwin ml_RX12_250 (by decide) rfl rfl (Nat.le_of_ble_eq_true rfl) dX12_overhears_7 (T_X12_isTwin F (a1.toInt64) h1) (fun v2 h3 => ?_)
  refine g_if_ne (tgt := 16) dX12_overhears_10 (by decide) (fun c4 => ?_) (fun c4 => ?_)
  · refine g_bipush (v := (-2)) dX12_overhears_13 (by decide) ?_
    exact g_iret rfl dX12_overhears_15
  · refine g_aload_n 0 dX12_overhears_16 rfl ?_
    refine g_sipush (v := 511) dX12_overhears_17 (by decide) ?_
    refine g_callVv (J := I_X12_laysReached) (t := 13) (As := [.int 511]) (rest := []) mjv_X12_laysReached ml_RX12_358 ⟨rfl, by decide, by decide⟩ (by decide) rfl rfl (Nat.le_of_ble_eq_true rfl) dX12_overhears_20 (T_X12_laysReached F a0 511 h3) (fun v5 h6 => ?_)
    refine g_aload_n 0 dX12_overhears_23 rfl ?_
    refine g_sipush (v := 256) dX12_overhears_24 (by decide) ?_
    refine g_iload_n 1 dX12_overhears_27 rfl ?_
    refine g_if_ne (tgt := 37) dX12_overhears_28 (by decide) (fun c7 => ?_) (fun c7 => ?_)
    · refine g_sipush (v := 240) dX12_overhears_31 (by decide) ?_
      refine g_goto (tgt := 39) dX12_overhears_34 (by decide) ?_
      refine G_lv [0, 1] rfl ?_
      exact T_X12_overhears_39 F a0 a1 240 256 a0 h6
    · refine g_bipush (v := 15) dX12_overhears_37 (by decide) ?_
      refine G_lv [0, 1] rfl ?_
      exact T_X12_overhears_39 F a0 a1 15 256 a0 h6
set_option maxRecDepth 100000 in
noncomputable def f_X12_perform (F : Nat) (a0 : Nat) (a1 : Int32) (h : Hp) : Option (Int32 × Hp) :=
  pI 13 h a0 0 0 fun h1 => cV 13 h1 a0 (f_X12_noTray F a0 a1 h1) fun v2 h3 => if v2 = 0 then (cV 13 h3 a0 (f_X12_keeps F a0 h3) fun v5 h6 => cV 13 h6 a0 (f_X12_tells F a0 a1 h6) fun v7 h8 => if v7 ≤ 0 then (some (v7, h8)) else (cV 13 h8 a0 (f_X12_notes F a0 h8) fun v10 h11 => some (v7, h11))) else (some (v2, h3))
set_option maxRecDepth 100000 in
set_option maxHeartbeats 4000000 in
theorem T_X12_perform (F : Nat) (a0 : Nat) (a1 : Int32) (h : Hp) : GM rvI I_X12_perform 8 [.ref a0, .int a1] h (f_X12_perform F a0 a1 h) := by
  delta f_X12_perform
  refine GM_of (lv := [(0, .ref a0), (1, .int a1)]) (by decide +kernel) (Nat.le_of_ble_eq_true rfl) rfl ?_
  refine g_aload_n 0 dX12_perform_0 rfl ?_
  refine g_iconst (v := 0) dX12_perform_1 (by decide) ?_
  refine g_putI fl_RX12_1 (Or.inl rfl) dX12_perform_2 (fun h1 => ?_)
  refine g_aload_n 0 dX12_perform_5 rfl ?_
  refine g_iload_n 1 dX12_perform_6 rfl ?_
  refine g_callVi (J := I_X12_noTray) (t := 13) (As := [.int a1]) (rest := []) mjv_X12_noTray ml_RX12_321 ⟨rfl, by decide, by decide⟩ (by decide) rfl rfl (Nat.le_of_ble_eq_true rfl) dX12_perform_7 (T_X12_noTray F a0 a1 h1) (fun v2 h3 => ?_)
  refine g_istore_n (lv' := [(2, .int v2), (0, .ref a0), (1, .int a1)]) dX12_perform_10 (by decide) rfl ?_
  refine g_iload_n 0 dX12_perform_11 rfl ?_
  refine g_if_eq (tgt := 17) dX12_perform_12 (by decide) (fun c4 => ?_) (fun c4 => ?_)
  · refine g_aload_n 1 dX12_perform_17 rfl ?_
    refine g_callVv (J := I_X12_keeps) (t := 13) (As := []) (rest := []) mjv_X12_keeps ml_RX12_273 ⟨rfl, by decide, by decide⟩ (by decide) rfl rfl (Nat.le_of_ble_eq_true rfl) dX12_perform_18 (T_X12_keeps F a0 h3) (fun v5 h6 => ?_)
    refine g_aload_n 1 dX12_perform_21 rfl ?_
    refine g_iload_n 2 dX12_perform_22 rfl ?_
    refine g_callVi (J := I_X12_tells) (t := 13) (As := [.int a1]) (rest := []) mjv_X12_tells ml_RX12_324 ⟨rfl, by decide, by decide⟩ (by decide) rfl rfl (Nat.le_of_ble_eq_true rfl) dX12_perform_23 (T_X12_tells F a0 a1 h6) (fun v7 h8 => ?_)
    refine g_istore_n (lv' := [(3, .int v7), (2, .int v2), (0, .ref a0), (1, .int a1)]) dX12_perform_26 (by decide) rfl ?_
    refine g_iload_n 0 dX12_perform_27 rfl ?_
    refine g_if_le (tgt := 35) dX12_perform_28 (by decide) (fun c9 => ?_) (fun c9 => ?_)
    · refine g_iload_n 0 dX12_perform_35 rfl ?_
      exact g_iret rfl dX12_perform_36
    · refine g_aload_n 2 dX12_perform_31 rfl ?_
      refine g_callVv (J := I_X12_notes) (t := 13) (As := []) (rest := []) mjv_X12_notes ml_RX12_279 ⟨rfl, by decide, by decide⟩ (by decide) rfl rfl (Nat.le_of_ble_eq_true rfl) dX12_perform_32 (T_X12_notes F a0 h8) (fun v10 h11 => ?_)
      refine g_iload_n 0 dX12_perform_35 rfl ?_
      exact g_iret rfl dX12_perform_36
  · refine g_iload_n 0 dX12_perform_15 rfl ?_
    exact g_iret rfl dX12_perform_16
set_option maxRecDepth 100000 in
noncomputable def f_X12_restore_32_b (F : Nat) (K32 : Nat → Int32 → Int32 → Hp → Option (Int32 × Hp)) (l0 : Nat) (l1 : Int32) (l2 : Int32) (h : Hp) : Option (Int32 × Hp) :=
  if 1044 ≤ l2 then (gR 13 h l0 1 fun v9 => wI h v9 52 0 fun h10 => some (0, h10)) else (gR 13 h l0 1 fun v11 => gR 13 h l0 1 fun v12 => aI 20 h v12 ((1044 * (l1 + 1)) + l2) fun v13 => wI h v11 l2 v13 fun h14 => K32 l0 l1 (l2 + 1) h14)
set_option maxRecDepth 100000 in
set_option maxHeartbeats 4000000 in
theorem T_X12_restore_32_b (F : Nat) {K32 : Nat → Int32 → Int32 → Hp → Option (Int32 × Hp)} (hK32 : ∀ (l0 : Nat) (l1 : Int32) (l2 : Int32) (h : Hp), G rvI I_X12_restore 2 32 [(0, .ref l0), (1, .int l1), (2, .int l2)] [] h (K32 l0 l1 l2 h)) (l0 : Nat) (l1 : Int32) (l2 : Int32) (h : Hp) : G rvI I_X12_restore 2 32 [(0, .ref l0), (1, .int l1), (2, .int l2)] [] h (f_X12_restore_32_b F K32 l0 l1 l2 h) := by
  delta f_X12_restore_32_b
  refine g_iload_n 2 dX12_restore_32 rfl ?_
  refine g_sipush (v := 1044) dX12_restore_33 (by decide) ?_
  refine g_icmp_ge (tgt := 65) dX12_restore_36 (by decide) (fun c8 => ?_) (fun c8 => ?_)
  · refine g_aload_n 0 dX12_restore_65 rfl ?_
    refine g_getR fl_RX12_13 rfl dX12_restore_66 (fun v9 => ?_)
    refine g_bipush (v := 52) dX12_restore_69 (by decide) ?_
    refine g_iconst (v := 0) dX12_restore_71 (by decide) ?_
    refine g_iast dX12_restore_72 (fun h10 => ?_)
    refine g_iconst (v := 0) dX12_restore_73 (by decide) ?_
    exact g_iret rfl dX12_restore_74
  · refine g_aload_n 0 dX12_restore_39 rfl ?_
    refine g_getR fl_RX12_13 rfl dX12_restore_40 (fun v11 => ?_)
    refine g_iload_n 2 dX12_restore_43 rfl ?_
    refine g_aload_n 0 dX12_restore_44 rfl ?_
    refine g_getR fl_RX12_13 rfl dX12_restore_45 (fun v12 => ?_)
    refine g_sipush (v := 1044) dX12_restore_48 (by decide) ?_
    refine g_iload_n 1 dX12_restore_51 rfl ?_
    refine g_iconst (v := 1) dX12_restore_52 (by decide) ?_
    refine g_iadd dX12_restore_53 ?_
    refine g_imul dX12_restore_54 ?_
    refine g_iload_n 2 dX12_restore_55 rfl ?_
    refine g_iadd dX12_restore_56 ?_
    refine g_iald dX12_restore_57 (fun v13 => ?_)
    refine g_iast dX12_restore_58 (fun h14 => ?_)
    refine g_iinc (v' := l2 + 1) (lv' := [(2, .int (l2 + 1)), (0, .ref l0), (1, .int l1)]) 2 dX12_restore_59 rfl rfl (by decide) rfl ?_
    refine g_goto (tgt := 32) dX12_restore_62 (by decide) ?_
    refine G_lv [1, 2, 0] rfl ?_
    exact hK32 l0 l1 (l2 + 1) h14
set_option maxRecDepth 100000 in
noncomputable def f_X12_restore_32 (F : Nat) : Nat → Nat → Int32 → Int32 → Hp → Option (Int32 × Hp)
  | 0, _, _, _, _ => none
  | n + 1, l0, l1, l2, h => f_X12_restore_32_b F (f_X12_restore_32 F n) l0 l1 l2 h
set_option maxRecDepth 100000 in
set_option maxHeartbeats 4000000 in
theorem T_X12_restore_32 (F : Nat) : ∀ (n : Nat) (l0 : Nat) (l1 : Int32) (l2 : Int32) (h : Hp), G rvI I_X12_restore 2 32 [(0, .ref l0), (1, .int l1), (2, .int l2)] [] h (f_X12_restore_32 F n l0 l1 l2 h) := by
  intro n
  induction n with
  | zero => intros; exact G_none
  | succ n ih => intro l0 l1 l2 h; exact T_X12_restore_32_b F ih l0 l1 l2 h
set_option maxRecDepth 100000 in
noncomputable def f_X12_restore (F : Nat) (a0 : Nat) (a1 : Int32) (h : Hp) : Option (Int32 × Hp) :=
  pI 13 h a0 0 0 fun h1 => bd (f_X12_within F (a1.toInt64) 0 1 h1) fun v2 h3 => if v2 = 0 then (some ((-2), h3)) else (gR 13 h3 a0 2 fun v5 => aI 22 h3 v5 a1 fun v6 => if v6 = 0 then (some ((-5), h3)) else (f_X12_restore_32 F F a0 a1 0 h3))
set_option maxRecDepth 100000 in
set_option maxHeartbeats 4000000 in
theorem T_X12_restore (F : Nat) (a0 : Nat) (a1 : Int32) (h : Hp) : GM rvI I_X12_restore 2 [.ref a0, .int a1] h (f_X12_restore F a0 a1 h) := by
  delta f_X12_restore
  refine GM_of (lv := [(0, .ref a0), (1, .int a1)]) (by decide +kernel) (Nat.le_of_ble_eq_true rfl) rfl ?_
  refine g_aload_n 0 dX12_restore_0 rfl ?_
  refine g_iconst (v := 0) dX12_restore_1 (by decide) ?_
  refine g_putI fl_RX12_1 (Or.inl rfl) dX12_restore_2 (fun h1 => ?_)
  refine g_iload_n 1 dX12_restore_5 rfl ?_
  refine g_i2l dX12_restore_6 ?_
  refine g_lconst (v := 0) dX12_restore_7 (by decide) ?_
  refine g_lconst (v := 1) dX12_restore_8 (by decide) ?_
  refine g_callSi (J := I_X12_within) (As := [.long (a1.toInt64), .long 0, .long 1]) (rest := []) mjs_X12_within ml_RX12_138 (by decide) rfl rfl (Nat.le_of_ble_eq_true rfl) dX12_restore_9 (T_X12_within F (a1.toInt64) 0 1 h1) (fun v2 h3 => ?_)
  refine g_if_ne (tgt := 18) dX12_restore_12 (by decide) (fun c4 => ?_) (fun c4 => ?_)
  · refine g_bipush (v := (-2)) dX12_restore_15 (by decide) ?_
    exact g_iret rfl dX12_restore_17
  · refine g_aload_n 0 dX12_restore_18 rfl ?_
    refine g_getR fl_RX12_17 rfl dX12_restore_19 (fun v5 => ?_)
    refine g_iload_n 1 dX12_restore_22 rfl ?_
    refine g_zald dX12_restore_23 (fun v6 => ?_)
    refine g_if_ne (tgt := 30) dX12_restore_24 (by decide) (fun c7 => ?_) (fun c7 => ?_)
    · refine g_bipush (v := (-5)) dX12_restore_27 (by decide) ?_
      exact g_iret rfl dX12_restore_29
    · refine g_iconst (v := 0) dX12_restore_30 (by decide) ?_
      refine g_istore_n (lv' := [(2, .int 0), (0, .ref a0), (1, .int a1)]) dX12_restore_31 (by decide) rfl ?_
      refine G_lv [1, 2, 0] rfl ?_
      exact T_X12_restore_32 F F a0 a1 0 h3
set_option maxRecDepth 100000 in
noncomputable def f_X12_goesMany_76_b (F : Nat) (K76 : Nat → Int32 → Hp → Option (Unit × Hp)) (l0 : Nat) (l2 : Int32) (h : Hp) : Option (Unit × Hp) :=
  if 65536 ≤ l2 then (some ((), h)) else (gR 13 h l0 28 fun v3 => gR 13 h l0 29 fun v4 => aL h v4 l2 fun v5 => wL h v3 l2 v5 fun h6 => gR 13 h6 l0 29 fun v7 => wL h6 v7 l2 0 fun h8 => K76 l0 (l2 + 1) h8)
set_option maxRecDepth 100000 in
set_option maxHeartbeats 4000000 in
theorem T_X12_goesMany_76_b (F : Nat) {K76 : Nat → Int32 → Hp → Option (Unit × Hp)} (hK76 : ∀ (l0 : Nat) (l2 : Int32) (h : Hp), G rvV I_X12_goesMany 1 76 [(0, .ref l0), (2, .int l2)] [] h (K76 l0 l2 h)) (l0 : Nat) (l2 : Int32) (h : Hp) : G rvV I_X12_goesMany 1 76 [(0, .ref l0), (2, .int l2)] [] h (f_X12_goesMany_76_b F K76 l0 l2 h) := by
  delta f_X12_goesMany_76_b
  refine g_iload_n 1 dX12_goesMany_76 rfl ?_
  refine g_ldc (v := 65536) dX12_goesMany_77 co_RX12_39 ?_
  refine g_icmp_ge (tgt := 107) dX12_goesMany_79 (by decide) (fun c2 => ?_) (fun c2 => ?_)
  · exact g_vret rfl dX12_goesMany_107
  · refine g_aload_n 0 dX12_goesMany_82 rfl ?_
    refine g_getR fl_RX12_50 rfl dX12_goesMany_83 (fun v3 => ?_)
    refine g_iload_n 1 dX12_goesMany_86 rfl ?_
    refine g_aload_n 0 dX12_goesMany_87 rfl ?_
    refine g_getR fl_RX12_54 rfl dX12_goesMany_88 (fun v4 => ?_)
    refine g_iload_n 1 dX12_goesMany_91 rfl ?_
    refine g_lald dX12_goesMany_92 (fun v5 => ?_)
    refine g_last dX12_goesMany_93 (fun h6 => ?_)
    refine g_aload_n 0 dX12_goesMany_94 rfl ?_
    refine g_getR fl_RX12_54 rfl dX12_goesMany_95 (fun v7 => ?_)
    refine g_iload_n 1 dX12_goesMany_98 rfl ?_
    refine g_lconst (v := 0) dX12_goesMany_99 (by decide) ?_
    refine g_last dX12_goesMany_100 (fun h8 => ?_)
    refine g_iinc (v' := l2 + 1) (lv' := [(2, .int (l2 + 1)), (0, .ref l0)]) 1 dX12_goesMany_101 rfl rfl (by decide) rfl ?_
    refine g_goto (tgt := 76) dX12_goesMany_104 (by decide) ?_
    refine G_lv [1, 0] rfl ?_
    exact hK76 l0 (l2 + 1) h8
set_option maxRecDepth 100000 in
noncomputable def f_X12_goesMany_76 (F : Nat) : Nat → Nat → Int32 → Hp → Option (Unit × Hp)
  | 0, _, _, _ => none
  | n + 1, l0, l2, h => f_X12_goesMany_76_b F (f_X12_goesMany_76 F n) l0 l2 h
set_option maxRecDepth 100000 in
set_option maxHeartbeats 4000000 in
theorem T_X12_goesMany_76 (F : Nat) : ∀ (n : Nat) (l0 : Nat) (l2 : Int32) (h : Hp), G rvV I_X12_goesMany 1 76 [(0, .ref l0), (2, .int l2)] [] h (f_X12_goesMany_76 F n l0 l2 h) := by
  intro n
  induction n with
  | zero => intros; exact G_none
  | succ n ih => intro l0 l2 h; exact T_X12_goesMany_76_b F ih l0 l2 h
set_option maxRecDepth 100000 in
noncomputable def f_X12_goesMany_68 (F : Nat) (K2 : Nat → Int32 → Int32 → Hp → Option (Unit × Hp)) (l0 : Nat) (l1 : Int32) (l2 : Int32) (h : Hp) : Option (Unit × Hp) :=
  K2 l0 l1 (l2 + 1) h
set_option maxRecDepth 100000 in
set_option maxHeartbeats 4000000 in
theorem T_X12_goesMany_68 (F : Nat) {K2 : Nat → Int32 → Int32 → Hp → Option (Unit × Hp)} (hK2 : ∀ (l0 : Nat) (l1 : Int32) (l2 : Int32) (h : Hp), G rvV I_X12_goesMany 1 2 [(0, .ref l0), (1, .int l1), (2, .int l2)] [] h (K2 l0 l1 l2 h)) (l0 : Nat) (l1 : Int32) (l2 : Int32) (h : Hp) : G rvV I_X12_goesMany 1 68 [(0, .ref l0), (1, .int l1), (2, .int l2)] [] h (f_X12_goesMany_68 F K2 l0 l1 l2 h) := by
  delta f_X12_goesMany_68
  refine g_iinc (v' := l2 + 1) (lv' := [(2, .int (l2 + 1)), (0, .ref l0), (1, .int l1)]) 2 dX12_goesMany_68 rfl rfl (by decide) rfl ?_
  refine g_goto (tgt := 2) dX12_goesMany_71 (by decide) ?_
  refine G_lv [1, 2, 0] rfl ?_
  exact hK2 l0 l1 (l2 + 1) h
set_option maxRecDepth 100000 in
noncomputable def f_X12_goesMany_62 (F : Nat) (K2 : Nat → Int32 → Int32 → Hp → Option (Unit × Hp)) (K10 : Nat → Int32 → Int32 → Int32 → Hp → Option (Unit × Hp)) (l0 : Nat) (l1 : Int32) (l2 : Int32) (l3 : Int32) (h : Hp) : Option (Unit × Hp) :=
  K10 l0 l1 l2 (l3 + 1) h
set_option maxRecDepth 100000 in
set_option maxHeartbeats 4000000 in
theorem T_X12_goesMany_62 (F : Nat) {K2 : Nat → Int32 → Int32 → Hp → Option (Unit × Hp)} (hK2 : ∀ (l0 : Nat) (l1 : Int32) (l2 : Int32) (h : Hp), G rvV I_X12_goesMany 1 2 [(0, .ref l0), (1, .int l1), (2, .int l2)] [] h (K2 l0 l1 l2 h)) {K10 : Nat → Int32 → Int32 → Int32 → Hp → Option (Unit × Hp)} (hK10 : ∀ (l0 : Nat) (l1 : Int32) (l2 : Int32) (l3 : Int32) (h : Hp), G rvV I_X12_goesMany 1 10 [(0, .ref l0), (1, .int l1), (2, .int l2), (3, .int l3)] [] h (K10 l0 l1 l2 l3 h)) (l0 : Nat) (l1 : Int32) (l2 : Int32) (l3 : Int32) (h : Hp) : G rvV I_X12_goesMany 1 62 [(0, .ref l0), (1, .int l1), (2, .int l2), (3, .int l3)] [] h (f_X12_goesMany_62 F K2 K10 l0 l1 l2 l3 h) := by
  delta f_X12_goesMany_62
  refine g_iinc (v' := l3 + 1) (lv' := [(3, .int (l3 + 1)), (0, .ref l0), (1, .int l1), (2, .int l2)]) 3 dX12_goesMany_62 rfl rfl (by decide) rfl ?_
  refine g_goto (tgt := 10) dX12_goesMany_65 (by decide) ?_
  refine G_lv [1, 2, 3, 0] rfl ?_
  exact hK10 l0 l1 l2 (l3 + 1) h
set_option maxRecDepth 100000 in
noncomputable def f_X12_goesMany_10_b (F : Nat) (K2 : Nat → Int32 → Int32 → Hp → Option (Unit × Hp)) (K10 : Nat → Int32 → Int32 → Int32 → Hp → Option (Unit × Hp)) (l0 : Nat) (l1 : Int32) (l2 : Int32) (l3 : Int32) (h : Hp) : Option (Unit × Hp) :=
  if 9 ≤ l3 then (f_X12_goesMany_68 F K2 l0 l1 l2 h) else (gR 13 h l0 28 fun v10 => aL h v10 l2 fun v11 => if ((v11 : Int64) ≤ 0 : Prop) then (f_X12_goesMany_68 F K2 l0 l1 l2 h) else (gR 13 h l0 22 fun v13 => aI 20 h v13 ((9 * l2) + l3) fun v14 => if v14 = (-1) then (f_X12_goesMany_62 F K2 K10 l0 l1 l2 l3 h) else (gR 13 h l0 29 fun v16 => aL h v16 v14 fun v17 => gR 13 h l0 28 fun v18 => aL h v18 l2 fun v19 => wL h v16 v14 (v17 + v19) fun h20 => f_X12_goesMany_62 F K2 K10 l0 l1 l2 l3 h20)))
set_option maxRecDepth 100000 in
set_option maxHeartbeats 4000000 in
theorem T_X12_goesMany_10_b (F : Nat) {K2 : Nat → Int32 → Int32 → Hp → Option (Unit × Hp)} (hK2 : ∀ (l0 : Nat) (l1 : Int32) (l2 : Int32) (h : Hp), G rvV I_X12_goesMany 1 2 [(0, .ref l0), (1, .int l1), (2, .int l2)] [] h (K2 l0 l1 l2 h)) {K10 : Nat → Int32 → Int32 → Int32 → Hp → Option (Unit × Hp)} (hK10 : ∀ (l0 : Nat) (l1 : Int32) (l2 : Int32) (l3 : Int32) (h : Hp), G rvV I_X12_goesMany 1 10 [(0, .ref l0), (1, .int l1), (2, .int l2), (3, .int l3)] [] h (K10 l0 l1 l2 l3 h)) (l0 : Nat) (l1 : Int32) (l2 : Int32) (l3 : Int32) (h : Hp) : G rvV I_X12_goesMany 1 10 [(0, .ref l0), (1, .int l1), (2, .int l2), (3, .int l3)] [] h (f_X12_goesMany_10_b F K2 K10 l0 l1 l2 l3 h) := by
  delta f_X12_goesMany_10_b
  refine g_iload_n 3 dX12_goesMany_10 rfl ?_
  refine g_bipush (v := 9) dX12_goesMany_11 (by decide) ?_
  refine g_icmp_ge (tgt := 68) dX12_goesMany_13 (by decide) (fun c9 => ?_) (fun c9 => ?_)
  · refine G_lv [0, 1, 2] rfl ?_
    exact T_X12_goesMany_68 F hK2 l0 l1 l2 h
  · refine g_aload_n 0 dX12_goesMany_16 rfl ?_
    refine g_getR fl_RX12_50 rfl dX12_goesMany_17 (fun v10 => ?_)
    refine g_iload_n 2 dX12_goesMany_20 rfl ?_
    refine g_lald dX12_goesMany_21 (fun v11 => ?_)
    refine g_lconst (v := 0) dX12_goesMany_22 (by decide) ?_
    refine g_lc_le (x := v11) (y := 0) (tgt := 68) dX12_goesMany_23 dX12_goesMany_24 (by decide) (fun c12 => ?_) (fun c12 => ?_)
    · refine G_lv [0, 1, 2] rfl ?_
      exact T_X12_goesMany_68 F hK2 l0 l1 l2 h
    · refine g_aload_n 0 dX12_goesMany_27 rfl ?_
      refine g_getR fl_RX12_44 rfl dX12_goesMany_28 (fun v13 => ?_)
      refine g_bipush (v := 9) dX12_goesMany_31 (by decide) ?_
      refine g_iload_n 2 dX12_goesMany_33 rfl ?_
      refine g_imul dX12_goesMany_34 ?_
      refine g_iload_n 3 dX12_goesMany_35 rfl ?_
      refine g_iadd dX12_goesMany_36 ?_
      refine g_iald dX12_goesMany_37 (fun v14 => ?_)
      refine g_istore (lv' := [(4, .int v14), (0, .ref l0), (1, .int l1), (2, .int l2), (3, .int l3)]) dX12_goesMany_38 (by decide) rfl ?_
      refine g_iload 0 dX12_goesMany_40 rfl ?_
      refine g_iconst (v := (-1)) dX12_goesMany_42 (by decide) ?_
      refine g_icmp_eq (tgt := 62) dX12_goesMany_43 (by decide) (fun c15 => ?_) (fun c15 => ?_)
      · refine G_lv [1, 2, 3, 4] rfl ?_
        exact T_X12_goesMany_62 F hK2 hK10 l0 l1 l2 l3 h
      · refine g_aload_n 1 dX12_goesMany_46 rfl ?_
        refine g_getR fl_RX12_54 rfl dX12_goesMany_47 (fun v16 => ?_)
        refine g_iload 0 dX12_goesMany_50 rfl ?_
        refine g_dup2 dX12_goesMany_52 rfl rfl ?_
        refine g_lald dX12_goesMany_53 (fun v17 => ?_)
        refine g_aload_n 1 dX12_goesMany_54 rfl ?_
        refine g_getR fl_RX12_50 rfl dX12_goesMany_55 (fun v18 => ?_)
        refine g_iload_n 3 dX12_goesMany_58 rfl ?_
        refine g_lald dX12_goesMany_59 (fun v19 => ?_)
        refine g_ladd dX12_goesMany_60 ?_
        refine g_last dX12_goesMany_61 (fun h20 => ?_)
        refine G_lv [1, 2, 3, 4] rfl ?_
        exact T_X12_goesMany_62 F hK2 hK10 l0 l1 l2 l3 h20
set_option maxRecDepth 100000 in
noncomputable def f_X12_goesMany_10 (F : Nat) (K2 : Nat → Int32 → Int32 → Hp → Option (Unit × Hp)) : Nat → Nat → Int32 → Int32 → Int32 → Hp → Option (Unit × Hp)
  | 0, _, _, _, _, _ => none
  | n + 1, l0, l1, l2, l3, h => f_X12_goesMany_10_b F K2 (f_X12_goesMany_10 F K2 n) l0 l1 l2 l3 h
set_option maxRecDepth 100000 in
set_option maxHeartbeats 4000000 in
theorem T_X12_goesMany_10 (F : Nat) {K2 : Nat → Int32 → Int32 → Hp → Option (Unit × Hp)} (hK2 : ∀ (l0 : Nat) (l1 : Int32) (l2 : Int32) (h : Hp), G rvV I_X12_goesMany 1 2 [(0, .ref l0), (1, .int l1), (2, .int l2)] [] h (K2 l0 l1 l2 h)) : ∀ (n : Nat) (l0 : Nat) (l1 : Int32) (l2 : Int32) (l3 : Int32) (h : Hp), G rvV I_X12_goesMany 1 10 [(0, .ref l0), (1, .int l1), (2, .int l2), (3, .int l3)] [] h (f_X12_goesMany_10 F K2 n l0 l1 l2 l3 h) := by
  intro n
  induction n with
  | zero => intros; exact G_none
  | succ n ih => intro l0 l1 l2 l3 h; exact T_X12_goesMany_10_b F hK2 ih l0 l1 l2 l3 h
set_option maxRecDepth 100000 in
noncomputable def f_X12_goesMany_2_b (F : Nat) (K2 : Nat → Int32 → Int32 → Hp → Option (Unit × Hp)) (l0 : Nat) (l1 : Int32) (l2 : Int32) (h : Hp) : Option (Unit × Hp) :=
  if 65536 ≤ l2 then (f_X12_goesMany_76 F F l0 l1 h) else (f_X12_goesMany_10 F K2 F l0 l1 l2 0 h)
set_option maxRecDepth 100000 in
set_option maxHeartbeats 4000000 in
theorem T_X12_goesMany_2_b (F : Nat) {K2 : Nat → Int32 → Int32 → Hp → Option (Unit × Hp)} (hK2 : ∀ (l0 : Nat) (l1 : Int32) (l2 : Int32) (h : Hp), G rvV I_X12_goesMany 1 2 [(0, .ref l0), (1, .int l1), (2, .int l2)] [] h (K2 l0 l1 l2 h)) (l0 : Nat) (l1 : Int32) (l2 : Int32) (h : Hp) : G rvV I_X12_goesMany 1 2 [(0, .ref l0), (1, .int l1), (2, .int l2)] [] h (f_X12_goesMany_2_b F K2 l0 l1 l2 h) := by
  delta f_X12_goesMany_2_b
  refine g_iload_n 2 dX12_goesMany_2 rfl ?_
  refine g_ldc (v := 65536) dX12_goesMany_3 co_RX12_39 ?_
  refine g_icmp_ge (tgt := 74) dX12_goesMany_5 (by decide) (fun c1 => ?_) (fun c1 => ?_)
  · refine g_iload_n 1 dX12_goesMany_74 rfl ?_
    refine g_istore_n (lv' := [(2, .int l1), (0, .ref l0), (1, .int l1)]) dX12_goesMany_75 (by decide) rfl ?_
    refine G_lv [1, 0] rfl ?_
    exact T_X12_goesMany_76 F F l0 l1 h
  · refine g_iconst (v := 0) dX12_goesMany_8 (by decide) ?_
    refine g_istore_n (lv' := [(3, .int 0), (0, .ref l0), (1, .int l1), (2, .int l2)]) dX12_goesMany_9 (by decide) rfl ?_
    refine G_lv [1, 2, 3, 0] rfl ?_
    exact T_X12_goesMany_10 F hK2 F l0 l1 l2 0 h
set_option maxRecDepth 100000 in
noncomputable def f_X12_goesMany_2 (F : Nat) : Nat → Nat → Int32 → Int32 → Hp → Option (Unit × Hp)
  | 0, _, _, _, _ => none
  | n + 1, l0, l1, l2, h => f_X12_goesMany_2_b F (f_X12_goesMany_2 F n) l0 l1 l2 h
set_option maxRecDepth 100000 in
set_option maxHeartbeats 4000000 in
theorem T_X12_goesMany_2 (F : Nat) : ∀ (n : Nat) (l0 : Nat) (l1 : Int32) (l2 : Int32) (h : Hp), G rvV I_X12_goesMany 1 2 [(0, .ref l0), (1, .int l1), (2, .int l2)] [] h (f_X12_goesMany_2 F n l0 l1 l2 h) := by
  intro n
  induction n with
  | zero => intros; exact G_none
  | succ n ih => intro l0 l1 l2 h; exact T_X12_goesMany_2_b F ih l0 l1 l2 h
set_option maxRecDepth 100000 in
noncomputable def f_X12_goesMany (F : Nat) (a0 : Nat) (a1 : Int32) (h : Hp) : Option (Unit × Hp) :=
  f_X12_goesMany_2 F F a0 a1 a1 h
set_option maxRecDepth 100000 in
set_option maxHeartbeats 4000000 in
theorem T_X12_goesMany (F : Nat) (a0 : Nat) (a1 : Int32) (h : Hp) : GM rvV I_X12_goesMany 1 [.ref a0, .int a1] h (f_X12_goesMany F a0 a1 h) := by
  delta f_X12_goesMany
  refine GM_of (lv := [(0, .ref a0), (1, .int a1)]) (by decide +kernel) (Nat.le_of_ble_eq_true rfl) rfl ?_
  refine g_iload_n 1 dX12_goesMany_0 rfl ?_
  refine g_istore_n (lv' := [(2, .int a1), (0, .ref a0), (1, .int a1)]) dX12_goesMany_1 (by decide) rfl ?_
  refine G_lv [1, 2, 0] rfl ?_
  exact T_X12_goesMany_2 F F a0 a1 a1 h
set_option maxRecDepth 100000 in
noncomputable def f_X12_rows_161 (F : Nat) (K120 : Nat → Int64 → Int32 → Hp → Option (Int64 × Hp)) (l0 : Nat) (l7 : Int32) (s0 : Int64) (s1 : Int64) (h : Hp) : Option (Int64 × Hp) :=
  lt (s1 + s0) fun x20 => K120 l0 x20 (l7 + 1) h
set_option maxRecDepth 100000 in
set_option maxHeartbeats 4000000 in
theorem T_X12_rows_161 (F : Nat) {K120 : Nat → Int64 → Int32 → Hp → Option (Int64 × Hp)} (hK120 : ∀ (l0 : Nat) (l5 : Int64) (l7 : Int32) (h : Hp), G rvL I_X12_rows 8 120 [(0, .ref l0), (5, .long l5), (7, .int l7)] [] h (K120 l0 l5 l7 h)) (l0 : Nat) (l7 : Int32) (s0 : Int64) (s1 : Int64) (h : Hp) : G rvL I_X12_rows 8 161 [(0, .ref l0), (7, .int l7)] [.long s0, .long s1] h (f_X12_rows_161 F K120 l0 l7 s0 s1 h) := by
  delta f_X12_rows_161
  refine g_ladd dX12_rows_161 ?_
  refine G_ltl (fun x20 => ?_)
  refine g_lstore (lv' := [(5, .long x20), (0, .ref l0), (7, .int l7)]) dX12_rows_162 (by decide) rfl ?_
  refine g_iinc (v' := l7 + 1) (lv' := [(7, .int (l7 + 1)), (5, .long x20), (0, .ref l0)]) 2 dX12_rows_164 rfl rfl (by decide) rfl ?_
  refine g_goto (tgt := 120) dX12_rows_167 (by decide) ?_
  refine G_lv [2, 1, 0] rfl ?_
  exact hK120 l0 x20 (l7 + 1) h
set_option maxRecDepth 100000 in
noncomputable def f_X12_rows_160 (F : Nat) (K120 : Nat → Int64 → Int32 → Hp → Option (Int64 × Hp)) (l0 : Nat) (l7 : Int32) (s0 : Int64) (h : Hp) : Option (Int64 × Hp) :=
  f_X12_rows_161 F K120 l0 l7 0 s0 h
set_option maxRecDepth 100000 in
set_option maxHeartbeats 4000000 in
theorem T_X12_rows_160 (F : Nat) {K120 : Nat → Int64 → Int32 → Hp → Option (Int64 × Hp)} (hK120 : ∀ (l0 : Nat) (l5 : Int64) (l7 : Int32) (h : Hp), G rvL I_X12_rows 8 120 [(0, .ref l0), (5, .long l5), (7, .int l7)] [] h (K120 l0 l5 l7 h)) (l0 : Nat) (l7 : Int32) (s0 : Int64) (h : Hp) : G rvL I_X12_rows 8 160 [(0, .ref l0), (7, .int l7)] [.long s0] h (f_X12_rows_160 F K120 l0 l7 s0 h) := by
  delta f_X12_rows_160
  refine g_lconst (v := 0) dX12_rows_160 (by decide) ?_
  refine G_lv [0, 1] rfl ?_
  exact T_X12_rows_161 F hK120 l0 l7 0 s0 h
set_option maxRecDepth 100000 in
noncomputable def f_X12_rows_120_b (F : Nat) (K120 : Nat → Int64 → Int32 → Hp → Option (Int64 × Hp)) (l0 : Nat) (l5 : Int64) (l7 : Int32) (h : Hp) : Option (Int64 × Hp) :=
  if 65536 ≤ l7 then (some (l5, h)) else (gR 13 h l0 28 fun v17 => aL h v17 l7 fun v18 => if ((v18 : Int64) ≤ 0 : Prop) then (f_X12_rows_160 F K120 l0 l7 l5 h) else (cV 13 h l0 (f_X12_isGoal F l0 l7 h) fun v21 h22 => if v21 = 0 then (f_X12_rows_160 F K120 l0 l7 l5 h22) else (gR 13 h22 l0 28 fun v24 => aL h22 v24 l7 fun v25 => f_X12_rows_161 F K120 l0 l7 v25 l5 h22)))
set_option maxRecDepth 100000 in
set_option maxHeartbeats 4000000 in
theorem T_X12_rows_120_b (F : Nat) {K120 : Nat → Int64 → Int32 → Hp → Option (Int64 × Hp)} (hK120 : ∀ (l0 : Nat) (l5 : Int64) (l7 : Int32) (h : Hp), G rvL I_X12_rows 8 120 [(0, .ref l0), (5, .long l5), (7, .int l7)] [] h (K120 l0 l5 l7 h)) (l0 : Nat) (l5 : Int64) (l7 : Int32) (h : Hp) : G rvL I_X12_rows 8 120 [(0, .ref l0), (5, .long l5), (7, .int l7)] [] h (f_X12_rows_120_b F K120 l0 l5 l7 h) := by
  delta f_X12_rows_120_b
  refine g_iload 2 dX12_rows_120 rfl ?_
  refine g_ldc (v := 65536) dX12_rows_122 co_RX12_39 ?_
  refine g_icmp_ge (tgt := 170) dX12_rows_124 (by decide) (fun c16 => ?_) (fun c16 => ?_)
  · refine g_lload 1 dX12_rows_170 rfl ?_
    exact g_lret rfl dX12_rows_172
  · refine g_lload 1 dX12_rows_127 rfl ?_
    refine g_aload_n 0 dX12_rows_129 rfl ?_
    refine g_getR fl_RX12_50 rfl dX12_rows_130 (fun v17 => ?_)
    refine g_iload 2 dX12_rows_133 rfl ?_
    refine g_lald dX12_rows_135 (fun v18 => ?_)
    refine g_lconst (v := 0) dX12_rows_136 (by decide) ?_
    refine g_lc_le (x := v18) (y := 0) (tgt := 160) dX12_rows_137 dX12_rows_138 (by decide) (fun c19 => ?_) (fun c19 => ?_)
    · refine G_lv [0, 2] rfl ?_
      exact T_X12_rows_160 F hK120 l0 l7 l5 h
    · refine g_aload_n 0 dX12_rows_141 rfl ?_
      refine g_iload 2 dX12_rows_142 rfl ?_
      refine g_callVi (J := I_X12_isGoal) (t := 13) (As := [.int l7]) (rest := [.long l5]) mjv_X12_isGoal ml_RX12_362 ⟨rfl, by decide, by decide⟩ (by decide) rfl rfl (Nat.le_of_ble_eq_true rfl) dX12_rows_144 (T_X12_isGoal F l0 l7 h) (fun v21 h22 => ?_)
      refine g_if_eq (tgt := 160) dX12_rows_147 (by decide) (fun c23 => ?_) (fun c23 => ?_)
      · refine G_lv [0, 2] rfl ?_
        exact T_X12_rows_160 F hK120 l0 l7 l5 h22
      · refine g_aload_n 0 dX12_rows_150 rfl ?_
        refine g_getR fl_RX12_50 rfl dX12_rows_151 (fun v24 => ?_)
        refine g_iload 2 dX12_rows_154 rfl ?_
        refine g_lald dX12_rows_156 (fun v25 => ?_)
        refine g_goto (tgt := 161) dX12_rows_157 (by decide) ?_
        refine G_lv [0, 2] rfl ?_
        exact T_X12_rows_161 F hK120 l0 l7 v25 l5 h22
set_option maxRecDepth 100000 in
noncomputable def f_X12_rows_120 (F : Nat) : Nat → Nat → Int64 → Int32 → Hp → Option (Int64 × Hp)
  | 0, _, _, _, _ => none
  | n + 1, l0, l5, l7, h => f_X12_rows_120_b F (f_X12_rows_120 F n) l0 l5 l7 h
set_option maxRecDepth 100000 in
set_option maxHeartbeats 4000000 in
theorem T_X12_rows_120 (F : Nat) : ∀ (n : Nat) (l0 : Nat) (l5 : Int64) (l7 : Int32) (h : Hp), G rvL I_X12_rows 8 120 [(0, .ref l0), (5, .long l5), (7, .int l7)] [] h (f_X12_rows_120 F n l0 l5 l7 h) := by
  intro n
  induction n with
  | zero => intros; exact G_none
  | succ n ih => intro l0 l5 l7 h; exact T_X12_rows_120_b F ih l0 l5 l7 h
set_option maxRecDepth 100000 in
noncomputable def f_X12_rows_95_b (F : Nat) (K95 : Nat → Int32 → Int32 → Int32 → Hp → Option (Int64 × Hp)) (l0 : Nat) (l3 : Int32) (l4 : Int32) (l5 : Int32) (h : Hp) : Option (Int64 × Hp) :=
  if l3 ≤ l5 then (f_X12_rows_120 F F l0 0 l4 h) else (cV 13 h l0 (f_X12_goesMany F l0 l4 h) fun v26 h27 => K95 l0 l3 l4 (l5 + 1) h27)
set_option maxRecDepth 100000 in
set_option maxHeartbeats 4000000 in
theorem T_X12_rows_95_b (F : Nat) {K95 : Nat → Int32 → Int32 → Int32 → Hp → Option (Int64 × Hp)} (hK95 : ∀ (l0 : Nat) (l3 : Int32) (l4 : Int32) (l5 : Int32) (h : Hp), G rvL I_X12_rows 8 95 [(0, .ref l0), (3, .int l3), (4, .int l4), (5, .int l5)] [] h (K95 l0 l3 l4 l5 h)) (l0 : Nat) (l3 : Int32) (l4 : Int32) (l5 : Int32) (h : Hp) : G rvL I_X12_rows 8 95 [(0, .ref l0), (3, .int l3), (4, .int l4), (5, .int l5)] [] h (f_X12_rows_95_b F K95 l0 l3 l4 l5 h) := by
  delta f_X12_rows_95_b
  refine g_iload 3 dX12_rows_95 rfl ?_
  refine g_iload_n 1 dX12_rows_97 rfl ?_
  refine g_icmp_ge (tgt := 113) dX12_rows_98 (by decide) (fun c15 => ?_) (fun c15 => ?_)
  · refine g_lconst (v := 0) dX12_rows_113 (by decide) ?_
    refine g_lstore (lv' := [(5, .long 0), (0, .ref l0), (3, .int l3), (4, .int l4)]) dX12_rows_114 (by decide) rfl ?_
    refine g_iload 3 dX12_rows_116 rfl ?_
    refine g_istore (lv' := [(7, .int l4), (5, .long 0), (0, .ref l0), (3, .int l3), (4, .int l4)]) dX12_rows_118 (by decide) rfl ?_
    refine G_lv [2, 1, 0] rfl ?_
    exact T_X12_rows_120 F F l0 0 l4 h
  · refine g_aload_n 0 dX12_rows_101 rfl ?_
    refine g_iload 2 dX12_rows_102 rfl ?_
    refine g_callVv (J := I_X12_goesMany) (t := 13) (As := [.int l4]) (rest := []) mjv_X12_goesMany ml_RX12_400 ⟨rfl, by decide, by decide⟩ (by decide) rfl rfl (Nat.le_of_ble_eq_true rfl) dX12_rows_104 (T_X12_goesMany F l0 l4 h) (fun v26 h27 => ?_)
    refine g_iinc (v' := l5 + 1) (lv' := [(5, .int (l5 + 1)), (0, .ref l0), (3, .int l3), (4, .int l4)]) 3 dX12_rows_107 rfl rfl (by decide) rfl ?_
    refine g_goto (tgt := 95) dX12_rows_110 (by decide) ?_
    refine G_lv [1, 2, 3, 0] rfl ?_
    exact hK95 l0 l3 l4 (l5 + 1) h27
set_option maxRecDepth 100000 in
noncomputable def f_X12_rows_95 (F : Nat) : Nat → Nat → Int32 → Int32 → Int32 → Hp → Option (Int64 × Hp)
  | 0, _, _, _, _, _ => none
  | n + 1, l0, l3, l4, l5, h => f_X12_rows_95_b F (f_X12_rows_95 F n) l0 l3 l4 l5 h
set_option maxRecDepth 100000 in
set_option maxHeartbeats 4000000 in
theorem T_X12_rows_95 (F : Nat) : ∀ (n : Nat) (l0 : Nat) (l3 : Int32) (l4 : Int32) (l5 : Int32) (h : Hp), G rvL I_X12_rows 8 95 [(0, .ref l0), (3, .int l3), (4, .int l4), (5, .int l5)] [] h (f_X12_rows_95 F n l0 l3 l4 l5 h) := by
  intro n
  induction n with
  | zero => intros; exact G_none
  | succ n ih => intro l0 l3 l4 l5 h; exact T_X12_rows_95_b F ih l0 l3 l4 l5 h
set_option maxRecDepth 100000 in
noncomputable def f_X12_rows_77 (F : Nat) (K52 : Nat → Int32 → Int32 → Int32 → Hp → Option (Int64 × Hp)) (l0 : Nat) (l3 : Int32) (l4 : Int32) (l5 : Int32) (s0 : Int64) (s1 : Int32) (s2 : Nat) (h : Hp) : Option (Int64 × Hp) :=
  wL h s2 s1 s0 fun h30 => gR 13 h30 l0 29 fun v31 => wL h30 v31 l5 0 fun h32 => K52 l0 l3 l4 (l5 + 1) h32
set_option maxRecDepth 100000 in
set_option maxHeartbeats 4000000 in
theorem T_X12_rows_77 (F : Nat) {K52 : Nat → Int32 → Int32 → Int32 → Hp → Option (Int64 × Hp)} (hK52 : ∀ (l0 : Nat) (l3 : Int32) (l4 : Int32) (l5 : Int32) (h : Hp), G rvL I_X12_rows 8 52 [(0, .ref l0), (3, .int l3), (4, .int l4), (5, .int l5)] [] h (K52 l0 l3 l4 l5 h)) (l0 : Nat) (l3 : Int32) (l4 : Int32) (l5 : Int32) (s0 : Int64) (s1 : Int32) (s2 : Nat) (h : Hp) : G rvL I_X12_rows 8 77 [(0, .ref l0), (3, .int l3), (4, .int l4), (5, .int l5)] [.long s0, .int s1, .ref s2] h (f_X12_rows_77 F K52 l0 l3 l4 l5 s0 s1 s2 h) := by
  delta f_X12_rows_77
  refine g_last dX12_rows_77 (fun h30 => ?_)
  refine g_aload_n 0 dX12_rows_78 rfl ?_
  refine g_getR fl_RX12_54 rfl dX12_rows_79 (fun v31 => ?_)
  refine g_iload 3 dX12_rows_82 rfl ?_
  refine g_lconst (v := 0) dX12_rows_84 (by decide) ?_
  refine g_last dX12_rows_85 (fun h32 => ?_)
  refine g_iinc (v' := l5 + 1) (lv' := [(5, .int (l5 + 1)), (0, .ref l0), (3, .int l3), (4, .int l4)]) 3 dX12_rows_86 rfl rfl (by decide) rfl ?_
  refine g_goto (tgt := 52) dX12_rows_89 (by decide) ?_
  refine G_lv [1, 2, 3, 0] rfl ?_
  exact hK52 l0 l3 l4 (l5 + 1) h32
set_option maxRecDepth 100000 in
noncomputable def f_X12_rows_52_b (F : Nat) (K52 : Nat → Int32 → Int32 → Int32 → Hp → Option (Int64 × Hp)) (l0 : Nat) (l3 : Int32) (l4 : Int32) (l5 : Int32) (h : Hp) : Option (Int64 × Hp) :=
  if 65536 ≤ l5 then (f_X12_rows_95 F F l0 l3 l4 0 h) else (gR 13 h l0 28 fun v28 => if l5 = l4 then (f_X12_rows_77 F K52 l0 l3 l4 l5 1 l5 v28 h) else (f_X12_rows_77 F K52 l0 l3 l4 l5 0 l5 v28 h))
set_option maxRecDepth 100000 in
set_option maxHeartbeats 4000000 in
theorem T_X12_rows_52_b (F : Nat) {K52 : Nat → Int32 → Int32 → Int32 → Hp → Option (Int64 × Hp)} (hK52 : ∀ (l0 : Nat) (l3 : Int32) (l4 : Int32) (l5 : Int32) (h : Hp), G rvL I_X12_rows 8 52 [(0, .ref l0), (3, .int l3), (4, .int l4), (5, .int l5)] [] h (K52 l0 l3 l4 l5 h)) (l0 : Nat) (l3 : Int32) (l4 : Int32) (l5 : Int32) (h : Hp) : G rvL I_X12_rows 8 52 [(0, .ref l0), (3, .int l3), (4, .int l4), (5, .int l5)] [] h (f_X12_rows_52_b F K52 l0 l3 l4 l5 h) := by
  delta f_X12_rows_52_b
  refine g_iload 3 dX12_rows_52 rfl ?_
  refine g_ldc (v := 65536) dX12_rows_54 co_RX12_39 ?_
  refine g_icmp_ge (tgt := 92) dX12_rows_56 (by decide) (fun c14 => ?_) (fun c14 => ?_)
  · refine g_iconst (v := 0) dX12_rows_92 (by decide) ?_
    refine g_istore (lv' := [(5, .int 0), (0, .ref l0), (3, .int l3), (4, .int l4)]) dX12_rows_93 (by decide) rfl ?_
    refine G_lv [1, 2, 3, 0] rfl ?_
    exact T_X12_rows_95 F F l0 l3 l4 0 h
  · refine g_aload_n 0 dX12_rows_59 rfl ?_
    refine g_getR fl_RX12_50 rfl dX12_rows_60 (fun v28 => ?_)
    refine g_iload 3 dX12_rows_63 rfl ?_
    refine g_iload 3 dX12_rows_65 rfl ?_
    refine g_iload 2 dX12_rows_67 rfl ?_
    refine g_icmp_ne (tgt := 76) dX12_rows_69 (by decide) (fun c29 => ?_) (fun c29 => ?_)
    · refine g_lconst (v := 1) dX12_rows_72 (by decide) ?_
      refine g_goto (tgt := 77) dX12_rows_73 (by decide) ?_
      refine G_lv [0, 1, 2, 3] rfl ?_
      exact T_X12_rows_77 F hK52 l0 l3 l4 l5 1 l5 v28 h
    · refine g_lconst (v := 0) dX12_rows_76 (by decide) ?_
      refine G_lv [0, 1, 2, 3] rfl ?_
      exact T_X12_rows_77 F hK52 l0 l3 l4 l5 0 l5 v28 h
set_option maxRecDepth 100000 in
noncomputable def f_X12_rows_52 (F : Nat) : Nat → Nat → Int32 → Int32 → Int32 → Hp → Option (Int64 × Hp)
  | 0, _, _, _, _, _ => none
  | n + 1, l0, l3, l4, l5, h => f_X12_rows_52_b F (f_X12_rows_52 F n) l0 l3 l4 l5 h
set_option maxRecDepth 100000 in
set_option maxHeartbeats 4000000 in
theorem T_X12_rows_52 (F : Nat) : ∀ (n : Nat) (l0 : Nat) (l3 : Int32) (l4 : Int32) (l5 : Int32) (h : Hp), G rvL I_X12_rows 8 52 [(0, .ref l0), (3, .int l3), (4, .int l4), (5, .int l5)] [] h (f_X12_rows_52 F n l0 l3 l4 l5 h) := by
  intro n
  induction n with
  | zero => intros; exact G_none
  | succ n ih => intro l0 l3 l4 l5 h; exact T_X12_rows_52_b F ih l0 l3 l4 l5 h
set_option maxRecDepth 100000 in
noncomputable def f_X12_rows (F : Nat) (a0 : Nat) (a1 : Int32) (a2 : Int32) (a3 : Int32) (h : Hp) : Option (Int64 × Hp) :=
  pI 13 h a0 0 0 fun h1 => cV 13 h1 a0 (f_X12_areSets F a0 a1 a2 h1) fun v2 h3 => if v2 = 0 then (some ((-3), h3)) else (bd (f_X12_within F (a3.toInt64) 0 12 h3) fun v5 h6 => if v5 = 0 then (some ((-3), h6)) else (cV 13 h6 a0 (f_X12_goals F a0 a1 a2 h6) fun v8 h9 => cV 13 h9 a0 (f_X12_laysReached F a0 511 h9) fun v10 h11 => cV 13 h11 a0 (f_X12_standNow F a0 h11) fun v12 h13 => f_X12_rows_52 F F a0 a3 v12 0 h13))
set_option maxRecDepth 100000 in
set_option maxHeartbeats 4000000 in
theorem T_X12_rows (F : Nat) (a0 : Nat) (a1 : Int32) (a2 : Int32) (a3 : Int32) (h : Hp) : GM rvL I_X12_rows 8 [.ref a0, .int a1, .int a2, .int a3] h (f_X12_rows F a0 a1 a2 a3 h) := by
  delta f_X12_rows
  refine GM_of (lv := [(0, .ref a0), (1, .int a1), (2, .int a2), (3, .int a3)]) (by decide +kernel) (Nat.le_of_ble_eq_true rfl) rfl ?_
  refine g_aload_n 0 dX12_rows_0 rfl ?_
  refine g_iconst (v := 0) dX12_rows_1 (by decide) ?_
  refine g_putI fl_RX12_1 (Or.inl rfl) dX12_rows_2 (fun h1 => ?_)
  refine g_aload_n 0 dX12_rows_5 rfl ?_
  refine g_iload_n 1 dX12_rows_6 rfl ?_
  refine g_iload_n 2 dX12_rows_7 rfl ?_
  refine g_callVi (J := I_X12_areSets) (t := 13) (As := [.int a1, .int a2]) (rest := []) mjv_X12_areSets ml_RX12_375 ⟨rfl, by decide, by decide⟩ (by decide) rfl rfl (Nat.le_of_ble_eq_true rfl) dX12_rows_8 (T_X12_areSets F a0 a1 a2 h1) (fun v2 h3 => ?_)
  refine g_if_eq (tgt := 26) dX12_rows_11 (by decide) (fun c4 => ?_) (fun c4 => ?_)
  · refine g_ldc2 (v := (-3)) dX12_rows_26 cl_RX12_398 ?_
    exact g_lret rfl dX12_rows_29
  · refine g_iload_n 3 dX12_rows_14 rfl ?_
    refine g_i2l dX12_rows_15 ?_
    refine g_lconst (v := 0) dX12_rows_16 (by decide) ?_
    refine g_ldc2 (v := 12) dX12_rows_17 cl_RX12_396 ?_
    refine g_callSi (J := I_X12_within) (As := [.long (a3.toInt64), .long 0, .long 12]) (rest := []) mjs_X12_within ml_RX12_138 (by decide) rfl rfl (Nat.le_of_ble_eq_true rfl) dX12_rows_20 (T_X12_within F (a3.toInt64) 0 12 h3) (fun v5 h6 => ?_)
    refine g_if_ne (tgt := 30) dX12_rows_23 (by decide) (fun c7 => ?_) (fun c7 => ?_)
    · refine g_ldc2 (v := (-3)) dX12_rows_26 cl_RX12_398 ?_
      exact g_lret rfl dX12_rows_29
    · refine g_aload_n 0 dX12_rows_30 rfl ?_
      refine g_iload_n 1 dX12_rows_31 rfl ?_
      refine g_iload_n 2 dX12_rows_32 rfl ?_
      refine g_callVv (J := I_X12_goals) (t := 13) (As := [.int a1, .int a2]) (rest := []) mjv_X12_goals ml_RX12_379 ⟨rfl, by decide, by decide⟩ (by decide) rfl rfl (Nat.le_of_ble_eq_true rfl) dX12_rows_33 (T_X12_goals F a0 a1 a2 h6) (fun v8 h9 => ?_)
      refine g_aload_n 0 dX12_rows_36 rfl ?_
      refine g_sipush (v := 511) dX12_rows_37 (by decide) ?_
      refine g_callVv (J := I_X12_laysReached) (t := 13) (As := [.int 511]) (rest := []) mjv_X12_laysReached ml_RX12_358 ⟨rfl, by decide, by decide⟩ (by decide) rfl rfl (Nat.le_of_ble_eq_true rfl) dX12_rows_40 (T_X12_laysReached F a0 511 h9) (fun v10 h11 => ?_)
      refine g_aload_n 0 dX12_rows_43 rfl ?_
      refine g_callVi (J := I_X12_standNow) (t := 13) (As := []) (rest := []) mjv_X12_standNow ml_RX12_260 ⟨rfl, by decide, by decide⟩ (by decide) rfl rfl (Nat.le_of_ble_eq_true rfl) dX12_rows_44 (T_X12_standNow F a0 h11) (fun v12 h13 => ?_)
      refine g_istore (lv' := [(4, .int v12), (0, .ref a0), (1, .int a1), (2, .int a2), (3, .int a3)]) dX12_rows_47 (by decide) rfl ?_
      refine g_iconst (v := 0) dX12_rows_49 (by decide) ?_
      refine g_istore (lv' := [(5, .int 0), (4, .int v12), (0, .ref a0), (1, .int a1), (2, .int a2), (3, .int a3)]) dX12_rows_50 (by decide) rfl ?_
      refine G_lv [2, 5, 1, 0] rfl ?_
      exact T_X12_rows_52 F F a0 a3 v12 0 h13
