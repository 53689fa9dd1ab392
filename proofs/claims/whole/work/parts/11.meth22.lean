/-! L2, by program (wip/whole/gen/gen.py) -/
set_option maxRecDepth 100000 in
noncomputable def f_X12_readDoing_48 (F : Nat) (l0 : Nat) (h : Hp) : Option (Unit × Hp) :=
  gI 13 h l0 11 fun v15 => if v15 = 0 then (gR 13 h l0 4 fun v17 => aI 20 h v17 2 fun v18 => wI h v17 2 (v18 + 1) fun h19 => some ((), h19)) else (some ((), h))
set_option maxRecDepth 100000 in
set_option maxHeartbeats 4000000 in
theorem T_X12_readDoing_48 (F : Nat) (l0 : Nat) (h : Hp) : G rvV I_X12_readDoing 9 48 [(0, .ref l0)] [] h (f_X12_readDoing_48 F l0 h) := by
  delta f_X12_readDoing_48
  refine g_aload_n 0 dX12_readDoing_48 rfl ?_
  refine g_getI fl_RX12_122 rfl dX12_readDoing_49 (fun v15 => ?_)
  refine g_if_ne (tgt := 65) dX12_readDoing_52 (by decide) (fun c16 => ?_) (fun c16 => ?_)
  · refine g_aload_n 0 dX12_readDoing_55 rfl ?_
    refine g_getR fl_RX12_24 rfl dX12_readDoing_56 (fun v17 => ?_)
    refine g_iconst (v := 2) dX12_readDoing_59 (by decide) ?_
    refine g_dup2 dX12_readDoing_60 rfl rfl ?_
    refine g_iald dX12_readDoing_61 (fun v18 => ?_)
    refine g_iconst (v := 1) dX12_readDoing_62 (by decide) ?_
    refine g_iadd dX12_readDoing_63 ?_
    refine g_iast dX12_readDoing_64 (fun h19 => ?_)
    exact g_vret rfl dX12_readDoing_65
  · exact g_vret rfl dX12_readDoing_65
set_option maxRecDepth 100000 in
noncomputable def f_X12_readDoing_30_b (F : Nat) (K30 : Nat → Int32 → Hp → Option (Unit × Hp)) (l0 : Nat) (l1 : Int32) (h : Hp) : Option (Unit × Hp) :=
  gI 13 h l0 11 fun v10 => if v10 = 0 then (cV 13 h l0 (f_X12_readNeed F l0 l1 h) fun v12 h13 => if v12 = 0 then (f_X12_readDoing_48 F l0 h13) else (K30 l0 l1 h13)) else (f_X12_readDoing_48 F l0 h)
set_option maxRecDepth 100000 in
set_option maxHeartbeats 4000000 in
theorem T_X12_readDoing_30_b (F : Nat) {K30 : Nat → Int32 → Hp → Option (Unit × Hp)} (hK30 : ∀ (l0 : Nat) (l1 : Int32) (h : Hp), G rvV I_X12_readDoing 9 30 [(0, .ref l0), (1, .int l1)] [] h (K30 l0 l1 h)) (l0 : Nat) (l1 : Int32) (h : Hp) : G rvV I_X12_readDoing 9 30 [(0, .ref l0), (1, .int l1)] [] h (f_X12_readDoing_30_b F K30 l0 l1 h) := by
  delta f_X12_readDoing_30_b
  refine g_aload_n 0 dX12_readDoing_30 rfl ?_
  refine g_getI fl_RX12_122 rfl dX12_readDoing_31 (fun v10 => ?_)
  refine g_if_ne (tgt := 48) dX12_readDoing_34 (by decide) (fun c11 => ?_) (fun c11 => ?_)
  · refine g_aload_n 0 dX12_readDoing_37 rfl ?_
    refine g_iload_n 1 dX12_readDoing_38 rfl ?_
    refine g_callVi (J := I_X12_readNeed) (t := 13) (As := [.int l1]) (rest := []) mjv_X12_readNeed ml_RX12_182 ⟨rfl, by decide, by decide⟩ (by decide) rfl rfl (Nat.le_of_ble_eq_true rfl) dX12_readDoing_39 (T_X12_readNeed F l0 l1 h) (fun v12 h13 => ?_)
    refine g_if_eq (tgt := 48) dX12_readDoing_42 (by decide) (fun c14 => ?_) (fun c14 => ?_)
    · refine G_lv [0] rfl ?_
      exact T_X12_readDoing_48 F l0 h13
    · refine g_goto (tgt := 30) dX12_readDoing_45 (by decide) ?_
      refine G_lv [0, 1] rfl ?_
      exact hK30 l0 l1 h13
  · refine G_lv [0] rfl ?_
    exact T_X12_readDoing_48 F l0 h
set_option maxRecDepth 100000 in
noncomputable def f_X12_readDoing_30 (F : Nat) : Nat → Nat → Int32 → Hp → Option (Unit × Hp)
  | 0, _, _, _ => none
  | n + 1, l0, l1, h => f_X12_readDoing_30_b F (f_X12_readDoing_30 F n) l0 l1 h
set_option maxRecDepth 100000 in
set_option maxHeartbeats 4000000 in
theorem T_X12_readDoing_30 (F : Nat) : ∀ (n : Nat) (l0 : Nat) (l1 : Int32) (h : Hp), G rvV I_X12_readDoing 9 30 [(0, .ref l0), (1, .int l1)] [] h (f_X12_readDoing_30 F n l0 l1 h) := by
  intro n
  induction n with
  | zero => intros; exact G_none
  | succ n ih => intro l0 l1 h; exact T_X12_readDoing_30_b F ih l0 l1 h
set_option maxRecDepth 100000 in
noncomputable def f_X12_readDoing_18 (F : Nat) (l0 : Nat) (l1 : Int32) (h : Hp) : Option (Unit × Hp) :=
  gI 13 h l0 11 fun v6 => if v6 = 0 then (cV 13 h l0 (f_X12_next F l0 h) fun v8 h9 => f_X12_readDoing_30 F F l0 l1 h9) else (some ((), h))
set_option maxRecDepth 100000 in
set_option maxHeartbeats 4000000 in
theorem T_X12_readDoing_18 (F : Nat) (l0 : Nat) (l1 : Int32) (h : Hp) : G rvV I_X12_readDoing 9 18 [(0, .ref l0), (1, .int l1)] [] h (f_X12_readDoing_18 F l0 l1 h) := by
  delta f_X12_readDoing_18
  refine g_aload_n 0 dX12_readDoing_18 rfl ?_
  refine g_getI fl_RX12_122 rfl dX12_readDoing_19 (fun v6 => ?_)
  refine g_if_eq (tgt := 26) dX12_readDoing_22 (by decide) (fun c7 => ?_) (fun c7 => ?_)
  · refine g_aload_n 0 dX12_readDoing_26 rfl ?_
    refine g_callVv (J := I_X12_next) (t := 13) (As := []) (rest := []) mjv_X12_next ml_RX12_131 ⟨rfl, by decide, by decide⟩ (by decide) rfl rfl (Nat.le_of_ble_eq_true rfl) dX12_readDoing_27 (T_X12_next F l0 h) (fun v8 h9 => ?_)
    refine G_lv [0, 1] rfl ?_
    exact T_X12_readDoing_30 F F l0 l1 h9
  · exact g_vret rfl dX12_readDoing_25
set_option maxRecDepth 100000 in
noncomputable def f_X12_readDoing (F : Nat) (a0 : Nat) (h : Hp) : Option (Unit × Hp) :=
  gR 13 h a0 4 fun v1 => aI 20 h v1 2 fun v2 => if v2 = 6 then (cV 13 h a0 (f_X12_fails F a0 4 h) fun v4 h5 => f_X12_readDoing_18 F a0 v2 h5) else (f_X12_readDoing_18 F a0 v2 h)
set_option maxRecDepth 100000 in
set_option maxHeartbeats 4000000 in
theorem T_X12_readDoing (F : Nat) (a0 : Nat) (h : Hp) : GM rvV I_X12_readDoing 9 [.ref a0] h (f_X12_readDoing F a0 h) := by
  delta f_X12_readDoing
  refine GM_of (lv := [(0, .ref a0)]) (by decide +kernel) (Nat.le_of_ble_eq_true rfl) rfl ?_
  refine g_aload_n 0 dX12_readDoing_0 rfl ?_
  refine g_getR fl_RX12_24 rfl dX12_readDoing_1 (fun v1 => ?_)
  refine g_iconst (v := 2) dX12_readDoing_4 (by decide) ?_
  refine g_iald dX12_readDoing_5 (fun v2 => ?_)
  refine g_istore_n (lv' := [(1, .int v2), (0, .ref a0)]) dX12_readDoing_6 (by decide) rfl ?_
  refine g_iload_n 0 dX12_readDoing_7 rfl ?_
  refine g_bipush (v := 6) dX12_readDoing_8 (by decide) ?_
  refine g_icmp_ne (tgt := 18) dX12_readDoing_10 (by decide) (fun c3 => ?_) (fun c3 => ?_)
  · refine g_aload_n 1 dX12_readDoing_13 rfl ?_
    refine g_iconst (v := 4) dX12_readDoing_14 (by decide) ?_
    refine g_callVv (J := I_X12_fails) (t := 13) (As := [.int 4]) (rest := []) mjv_X12_fails ml_RX12_134 ⟨rfl, by decide, by decide⟩ (by decide) rfl rfl (Nat.le_of_ble_eq_true rfl) dX12_readDoing_15 (T_X12_fails F a0 4 h) (fun v4 h5 => ?_)
    refine G_lv [1, 0] rfl ?_
    exact T_X12_readDoing_18 F a0 v2 h5
  · refine G_lv [1, 0] rfl ?_
    exact T_X12_readDoing_18 F a0 v2 h
set_option maxRecDepth 100000 in
noncomputable def f_X12_readFact_63 (F : Nat) (l0 : Nat) (h : Hp) : Option (Unit × Hp) :=
  gI 13 h l0 11 fun v15 => if v15 = 0 then (gR 13 h l0 4 fun v17 => aI 20 h v17 1 fun v18 => wI h v17 1 (v18 + 1) fun h19 => some ((), h19)) else (some ((), h))
set_option maxRecDepth 100000 in
set_option maxHeartbeats 4000000 in
theorem T_X12_readFact_63 (F : Nat) (l0 : Nat) (h : Hp) : G rvV I_X12_readFact 8 63 [(0, .ref l0)] [] h (f_X12_readFact_63 F l0 h) := by
  delta f_X12_readFact_63
  refine g_aload_n 0 dX12_readFact_63 rfl ?_
  refine g_getI fl_RX12_122 rfl dX12_readFact_64 (fun v15 => ?_)
  refine g_if_ne (tgt := 80) dX12_readFact_67 (by decide) (fun c16 => ?_) (fun c16 => ?_)
  · refine g_aload_n 0 dX12_readFact_70 rfl ?_
    refine g_getR fl_RX12_24 rfl dX12_readFact_71 (fun v17 => ?_)
    refine g_iconst (v := 1) dX12_readFact_74 (by decide) ?_
    refine g_dup2 dX12_readFact_75 rfl rfl ?_
    refine g_iald dX12_readFact_76 (fun v18 => ?_)
    refine g_iconst (v := 1) dX12_readFact_77 (by decide) ?_
    refine g_iadd dX12_readFact_78 ?_
    refine g_iast dX12_readFact_79 (fun h19 => ?_)
    exact g_vret rfl dX12_readFact_80
  · exact g_vret rfl dX12_readFact_80
set_option maxRecDepth 100000 in
noncomputable def f_X12_readFact_29_b (F : Nat) (K29 : Nat → Int32 → Hp → Option (Unit × Hp)) (l0 : Nat) (l1 : Int32) (h : Hp) : Option (Unit × Hp) :=
  gI 13 h l0 11 fun v10 => if v10 = 0 then (cV 13 h l0 (f_X12_eats F l0 2 h) fun v12 h13 => if v12 = 0 then (f_X12_readFact_63 F l0 h13) else (gR 13 h13 l0 4 fun v20 => cV 13 h13 l0 (f_X12_takes F l0 0 9 h13) fun v21 h22 => wI h22 v20 (9 + l1) v21 fun h23 => K29 l0 l1 h23)) else (f_X12_readFact_63 F l0 h)
set_option maxRecDepth 100000 in
set_option maxHeartbeats 4000000 in
theorem T_X12_readFact_29_b (F : Nat) {K29 : Nat → Int32 → Hp → Option (Unit × Hp)} (hK29 : ∀ (l0 : Nat) (l1 : Int32) (h : Hp), G rvV I_X12_readFact 8 29 [(0, .ref l0), (1, .int l1)] [] h (K29 l0 l1 h)) (l0 : Nat) (l1 : Int32) (h : Hp) : G rvV I_X12_readFact 8 29 [(0, .ref l0), (1, .int l1)] [] h (f_X12_readFact_29_b F K29 l0 l1 h) := by
  delta f_X12_readFact_29_b
  refine g_aload_n 0 dX12_readFact_29 rfl ?_
  refine g_getI fl_RX12_122 rfl dX12_readFact_30 (fun v10 => ?_)
  refine g_if_ne (tgt := 63) dX12_readFact_33 (by decide) (fun c11 => ?_) (fun c11 => ?_)
  · refine g_aload_n 0 dX12_readFact_36 rfl ?_
    refine g_iconst (v := 2) dX12_readFact_37 (by decide) ?_
    refine g_callVi (J := I_X12_eats) (t := 13) (As := [.int 2]) (rest := []) mjv_X12_eats ml_RX12_157 ⟨rfl, by decide, by decide⟩ (by decide) rfl rfl (Nat.le_of_ble_eq_true rfl) dX12_readFact_38 (T_X12_eats F l0 2 h) (fun v12 h13 => ?_)
    refine g_if_eq (tgt := 63) dX12_readFact_41 (by decide) (fun c14 => ?_) (fun c14 => ?_)
    · refine G_lv [0] rfl ?_
      exact T_X12_readFact_63 F l0 h13
    · refine g_aload_n 0 dX12_readFact_44 rfl ?_
      refine g_getR fl_RX12_24 rfl dX12_readFact_45 (fun v20 => ?_)
      refine g_bipush (v := 9) dX12_readFact_48 (by decide) ?_
      refine g_iload_n 1 dX12_readFact_50 rfl ?_
      refine g_iadd dX12_readFact_51 ?_
      refine g_aload_n 0 dX12_readFact_52 rfl ?_
      refine g_iconst (v := 0) dX12_readFact_53 (by decide) ?_
      refine g_bipush (v := 9) dX12_readFact_54 (by decide) ?_
      refine g_callVi (J := I_X12_takes) (t := 13) (As := [.int 0, .int 9]) (rest := [.int (9 + l1), .ref v20]) mjv_X12_takes ml_RX12_178 ⟨rfl, by decide, by decide⟩ (by decide) rfl rfl (Nat.le_of_ble_eq_true rfl) dX12_readFact_56 (T_X12_takes F l0 0 9 h13) (fun v21 h22 => ?_)
      refine g_iast dX12_readFact_59 (fun h23 => ?_)
      refine g_goto (tgt := 29) dX12_readFact_60 (by decide) ?_
      refine G_lv [0, 1] rfl ?_
      exact hK29 l0 l1 h23
  · refine G_lv [0] rfl ?_
    exact T_X12_readFact_63 F l0 h
set_option maxRecDepth 100000 in
noncomputable def f_X12_readFact_29 (F : Nat) : Nat → Nat → Int32 → Hp → Option (Unit × Hp)
  | 0, _, _, _ => none
  | n + 1, l0, l1, h => f_X12_readFact_29_b F (f_X12_readFact_29 F n) l0 l1 h
set_option maxRecDepth 100000 in
set_option maxHeartbeats 4000000 in
theorem T_X12_readFact_29 (F : Nat) : ∀ (n : Nat) (l0 : Nat) (l1 : Int32) (h : Hp), G rvV I_X12_readFact 8 29 [(0, .ref l0), (1, .int l1)] [] h (f_X12_readFact_29 F n l0 l1 h) := by
  intro n
  induction n with
  | zero => intros; exact G_none
  | succ n ih => intro l0 l1 h; exact T_X12_readFact_29_b F ih l0 l1 h
set_option maxRecDepth 100000 in
noncomputable def f_X12_readFact_17 (F : Nat) (l0 : Nat) (l1 : Int32) (h : Hp) : Option (Unit × Hp) :=
  gI 13 h l0 11 fun v6 => if v6 = 0 then (cV 13 h l0 (f_X12_next F l0 h) fun v8 h9 => f_X12_readFact_29 F F l0 l1 h9) else (some ((), h))
set_option maxRecDepth 100000 in
set_option maxHeartbeats 4000000 in
theorem T_X12_readFact_17 (F : Nat) (l0 : Nat) (l1 : Int32) (h : Hp) : G rvV I_X12_readFact 8 17 [(0, .ref l0), (1, .int l1)] [] h (f_X12_readFact_17 F l0 l1 h) := by
  delta f_X12_readFact_17
  refine g_aload_n 0 dX12_readFact_17 rfl ?_
  refine g_getI fl_RX12_122 rfl dX12_readFact_18 (fun v6 => ?_)
  refine g_if_eq (tgt := 25) dX12_readFact_21 (by decide) (fun c7 => ?_) (fun c7 => ?_)
  · refine g_aload_n 0 dX12_readFact_25 rfl ?_
    refine g_callVv (J := I_X12_next) (t := 13) (As := []) (rest := []) mjv_X12_next ml_RX12_131 ⟨rfl, by decide, by decide⟩ (by decide) rfl rfl (Nat.le_of_ble_eq_true rfl) dX12_readFact_26 (T_X12_next F l0 h) (fun v8 h9 => ?_)
    refine G_lv [0, 1] rfl ?_
    exact T_X12_readFact_29 F F l0 l1 h9
  · exact g_vret rfl dX12_readFact_24
set_option maxRecDepth 100000 in
noncomputable def f_X12_readFact (F : Nat) (a0 : Nat) (h : Hp) : Option (Unit × Hp) :=
  gR 13 h a0 4 fun v1 => aI 20 h v1 1 fun v2 => if v2 = 4 then (cV 13 h a0 (f_X12_fails F a0 4 h) fun v4 h5 => f_X12_readFact_17 F a0 v2 h5) else (f_X12_readFact_17 F a0 v2 h)
set_option maxRecDepth 100000 in
set_option maxHeartbeats 4000000 in
theorem T_X12_readFact (F : Nat) (a0 : Nat) (h : Hp) : GM rvV I_X12_readFact 8 [.ref a0] h (f_X12_readFact F a0 h) := by
  delta f_X12_readFact
  refine GM_of (lv := [(0, .ref a0)]) (by decide +kernel) (Nat.le_of_ble_eq_true rfl) rfl ?_
  refine g_aload_n 0 dX12_readFact_0 rfl ?_
  refine g_getR fl_RX12_24 rfl dX12_readFact_1 (fun v1 => ?_)
  refine g_iconst (v := 1) dX12_readFact_4 (by decide) ?_
  refine g_iald dX12_readFact_5 (fun v2 => ?_)
  refine g_istore_n (lv' := [(1, .int v2), (0, .ref a0)]) dX12_readFact_6 (by decide) rfl ?_
  refine g_iload_n 0 dX12_readFact_7 rfl ?_
  refine g_iconst (v := 4) dX12_readFact_8 (by decide) ?_
  refine g_icmp_ne (tgt := 17) dX12_readFact_9 (by decide) (fun c3 => ?_) (fun c3 => ?_)
  · refine g_aload_n 1 dX12_readFact_12 rfl ?_
    refine g_iconst (v := 4) dX12_readFact_13 (by decide) ?_
    refine g_callVv (J := I_X12_fails) (t := 13) (As := [.int 4]) (rest := []) mjv_X12_fails ml_RX12_134 ⟨rfl, by decide, by decide⟩ (by decide) rfl rfl (Nat.le_of_ble_eq_true rfl) dX12_readFact_14 (T_X12_fails F a0 4 h) (fun v4 h5 => ?_)
    refine G_lv [1, 0] rfl ?_
    exact T_X12_readFact_17 F a0 v2 h5
  · refine G_lv [1, 0] rfl ?_
    exact T_X12_readFact_17 F a0 v2 h
set_option maxRecDepth 100000 in
noncomputable def f_X12_readKnows (F : Nat) (a0 : Nat) (h : Hp) : Option (Unit × Hp) :=
  cV 13 h a0 (f_X12_next F a0 h) fun v1 h2 => cV 13 h2 a0 (f_X12_takes F a0 0 1 h2) fun v3 h4 => gR 13 h4 a0 4 fun v5 => aI 20 h4 v5 1 fun v6 => cV 13 h4 a0 (f_X12_takes F a0 0 (v6 - 1) h4) fun v7 h8 => cV 13 h8 a0 (f_X12_takes F a0 0 3 h8) fun v9 h10 => gI 13 h10 a0 11 fun v11 => if v11 = 0 then (gR 13 h10 a0 4 fun v13 => wI h10 v13 ((43 + (4 * v3)) + v7) v9 fun h14 => some ((), h14)) else (some ((), h10))
set_option maxRecDepth 100000 in
set_option maxHeartbeats 4000000 in
theorem T_X12_readKnows (F : Nat) (a0 : Nat) (h : Hp) : GM rvV I_X12_readKnows 8 [.ref a0] h (f_X12_readKnows F a0 h) := by
  delta f_X12_readKnows
  refine GM_of (lv := [(0, .ref a0)]) (by decide +kernel) (Nat.le_of_ble_eq_true rfl) rfl ?_
  refine g_aload_n 0 dX12_readKnows_0 rfl ?_
  refine g_callVv (J := I_X12_next) (t := 13) (As := []) (rest := []) mjv_X12_next ml_RX12_131 ⟨rfl, by decide, by decide⟩ (by decide) rfl rfl (Nat.le_of_ble_eq_true rfl) dX12_readKnows_1 (T_X12_next F a0 h) (fun v1 h2 => ?_)
  refine g_aload_n 0 dX12_readKnows_4 rfl ?_
  refine g_iconst (v := 0) dX12_readKnows_5 (by decide) ?_
  refine g_iconst (v := 1) dX12_readKnows_6 (by decide) ?_
  refine g_callVi (J := I_X12_takes) (t := 13) (As := [.int 0, .int 1]) (rest := []) mjv_X12_takes ml_RX12_178 ⟨rfl, by decide, by decide⟩ (by decide) rfl rfl (Nat.le_of_ble_eq_true rfl) dX12_readKnows_7 (T_X12_takes F a0 0 1 h2) (fun v3 h4 => ?_)
  refine g_istore_n (lv' := [(1, .int v3), (0, .ref a0)]) dX12_readKnows_10 (by decide) rfl ?_
  refine g_aload_n 1 dX12_readKnows_11 rfl ?_
  refine g_iconst (v := 0) dX12_readKnows_12 (by decide) ?_
  refine g_aload_n 1 dX12_readKnows_13 rfl ?_
  refine g_getR fl_RX12_24 rfl dX12_readKnows_14 (fun v5 => ?_)
  refine g_iconst (v := 1) dX12_readKnows_17 (by decide) ?_
  refine g_iald dX12_readKnows_18 (fun v6 => ?_)
  refine g_iconst (v := 1) dX12_readKnows_19 (by decide) ?_
  refine g_isub dX12_readKnows_20 ?_
  refine g_callVi (J := I_X12_takes) (t := 13) (As := [.int 0, .int (v6 - 1)]) (rest := []) mjv_X12_takes ml_RX12_178 ⟨rfl, by decide, by decide⟩ (by decide) rfl rfl (Nat.le_of_ble_eq_true rfl) dX12_readKnows_21 (T_X12_takes F a0 0 (v6 - 1) h4) (fun v7 h8 => ?_)
  refine g_istore_n (lv' := [(2, .int v7), (1, .int v3), (0, .ref a0)]) dX12_readKnows_24 (by decide) rfl ?_
  refine g_aload_n 2 dX12_readKnows_25 rfl ?_
  refine g_iconst (v := 0) dX12_readKnows_26 (by decide) ?_
  refine g_iconst (v := 3) dX12_readKnows_27 (by decide) ?_
  refine g_callVi (J := I_X12_takes) (t := 13) (As := [.int 0, .int 3]) (rest := []) mjv_X12_takes ml_RX12_178 ⟨rfl, by decide, by decide⟩ (by decide) rfl rfl (Nat.le_of_ble_eq_true rfl) dX12_readKnows_28 (T_X12_takes F a0 0 3 h8) (fun v9 h10 => ?_)
  refine g_istore_n (lv' := [(3, .int v9), (2, .int v7), (1, .int v3), (0, .ref a0)]) dX12_readKnows_31 (by decide) rfl ?_
  refine g_aload_n 3 dX12_readKnows_32 rfl ?_
  refine g_getI fl_RX12_122 rfl dX12_readKnows_33 (fun v11 => ?_)
  refine g_if_ne (tgt := 53) dX12_readKnows_36 (by decide) (fun c12 => ?_) (fun c12 => ?_)
  · refine g_aload_n 3 dX12_readKnows_39 rfl ?_
    refine g_getR fl_RX12_24 rfl dX12_readKnows_40 (fun v13 => ?_)
    refine g_bipush (v := 43) dX12_readKnows_43 (by decide) ?_
    refine g_iconst (v := 4) dX12_readKnows_45 (by decide) ?_
    refine g_iload_n 2 dX12_readKnows_46 rfl ?_
    refine g_imul dX12_readKnows_47 ?_
    refine g_iadd dX12_readKnows_48 ?_
    refine g_iload_n 1 dX12_readKnows_49 rfl ?_
    refine g_iadd dX12_readKnows_50 ?_
    refine g_iload_n 0 dX12_readKnows_51 rfl ?_
    refine g_iast dX12_readKnows_52 (fun h14 => ?_)
    exact g_vret rfl dX12_readKnows_53
  · exact g_vret rfl dX12_readKnows_53
set_option maxRecDepth 100000 in
noncomputable def f_X12_codes (F : Nat) (a0 : Nat) (a1 : Int32) (h : Hp) : Option (Unit × Hp) :=
  gI 13 h a0 11 fun v1 => if v1 = 0 then (gR 13 h a0 4 fun v3 => gR 13 h a0 4 fun v4 => aI 20 h v4 143 fun v5 => wI h v3 (144 + v5) a1 fun h6 => gR 13 h6 a0 4 fun v7 => aI 20 h6 v7 143 fun v8 => wI h6 v7 143 (v8 + 1) fun h9 => some ((), h9)) else (some ((), h))
set_option maxRecDepth 100000 in
set_option maxHeartbeats 4000000 in
theorem T_X12_codes (F : Nat) (a0 : Nat) (a1 : Int32) (h : Hp) : GM rvV I_X12_codes 1 [.ref a0, .int a1] h (f_X12_codes F a0 a1 h) := by
  delta f_X12_codes
  refine GM_of (lv := [(0, .ref a0), (1, .int a1)]) (by decide +kernel) (Nat.le_of_ble_eq_true rfl) rfl ?_
  refine g_aload_n 0 dX12_codes_0 rfl ?_
  refine g_getI fl_RX12_122 rfl dX12_codes_1 (fun v1 => ?_)
  refine g_if_eq (tgt := 8) dX12_codes_4 (by decide) (fun c2 => ?_) (fun c2 => ?_)
  · refine g_aload_n 0 dX12_codes_8 rfl ?_
    refine g_getR fl_RX12_24 rfl dX12_codes_9 (fun v3 => ?_)
    refine g_sipush (v := 144) dX12_codes_12 (by decide) ?_
    refine g_aload_n 0 dX12_codes_15 rfl ?_
    refine g_getR fl_RX12_24 rfl dX12_codes_16 (fun v4 => ?_)
    refine g_sipush (v := 143) dX12_codes_19 (by decide) ?_
    refine g_iald dX12_codes_22 (fun v5 => ?_)
    refine g_iadd dX12_codes_23 ?_
    refine g_iload_n 1 dX12_codes_24 rfl ?_
    refine g_iast dX12_codes_25 (fun h6 => ?_)
    refine g_aload_n 0 dX12_codes_26 rfl ?_
    refine g_getR fl_RX12_24 rfl dX12_codes_27 (fun v7 => ?_)
    refine g_sipush (v := 143) dX12_codes_30 (by decide) ?_
    refine g_dup2 dX12_codes_33 rfl rfl ?_
    refine g_iald dX12_codes_34 (fun v8 => ?_)
    refine g_iconst (v := 1) dX12_codes_35 (by decide) ?_
    refine g_iadd dX12_codes_36 ?_
    refine g_iast dX12_codes_37 (fun h9 => ?_)
    exact g_vret rfl dX12_codes_38
  · exact g_vret rfl dX12_codes_7
set_option maxRecDepth 100000 in
noncomputable def f_X12_goesIn_22 (F : Nat) (l0 : Nat) (h : Hp) : Option (Int32 × Hp) :=
  gI 13 h l0 11 fun v8 => if v8 = 0 then (some (1, h)) else (some (0, h))
set_option maxRecDepth 100000 in
set_option maxHeartbeats 4000000 in
theorem T_X12_goesIn_22 (F : Nat) (l0 : Nat) (h : Hp) : G rvI I_X12_goesIn 7 22 [(0, .ref l0)] [] h (f_X12_goesIn_22 F l0 h) := by
  delta f_X12_goesIn_22
  refine g_aload_n 0 dX12_goesIn_22 rfl ?_
  refine g_getI fl_RX12_122 rfl dX12_goesIn_23 (fun v8 => ?_)
  refine g_if_ne (tgt := 33) dX12_goesIn_26 (by decide) (fun c9 => ?_) (fun c9 => ?_)
  · refine g_iconst (v := 1) dX12_goesIn_29 (by decide) ?_
    refine g_goto (tgt := 34) dX12_goesIn_30 (by decide) ?_
    exact g_zret (ty := .boolean) rfl rfl dX12_goesIn_34
  · refine g_iconst (v := 0) dX12_goesIn_33 (by decide) ?_
    exact g_zret (ty := .boolean) rfl rfl dX12_goesIn_34
set_option maxRecDepth 100000 in
noncomputable def f_X12_goesIn_11 (F : Nat) (l0 : Nat) (h : Hp) : Option (Int32 × Hp) :=
  gI 13 h l0 11 fun v4 => if v4 = 0 then (cV 13 h l0 (f_X12_next F l0 h) fun v6 h7 => f_X12_goesIn_22 F l0 h7) else (f_X12_goesIn_22 F l0 h)
set_option maxRecDepth 100000 in
set_option maxHeartbeats 4000000 in
theorem T_X12_goesIn_11 (F : Nat) (l0 : Nat) (h : Hp) : G rvI I_X12_goesIn 7 11 [(0, .ref l0)] [] h (f_X12_goesIn_11 F l0 h) := by
  delta f_X12_goesIn_11
  refine g_aload_n 0 dX12_goesIn_11 rfl ?_
  refine g_getI fl_RX12_122 rfl dX12_goesIn_12 (fun v4 => ?_)
  refine g_if_ne (tgt := 22) dX12_goesIn_15 (by decide) (fun c5 => ?_) (fun c5 => ?_)
  · refine g_aload_n 0 dX12_goesIn_18 rfl ?_
    refine g_callVv (J := I_X12_next) (t := 13) (As := []) (rest := []) mjv_X12_next ml_RX12_131 ⟨rfl, by decide, by decide⟩ (by decide) rfl rfl (Nat.le_of_ble_eq_true rfl) dX12_goesIn_19 (T_X12_next F l0 h) (fun v6 h7 => ?_)
    refine G_lv [0] rfl ?_
    exact T_X12_goesIn_22 F l0 h7
  · refine G_lv [0] rfl ?_
    exact T_X12_goesIn_22 F l0 h
set_option maxRecDepth 100000 in
noncomputable def f_X12_goesIn (F : Nat) (a0 : Nat) (a1 : Int32) (h : Hp) : Option (Int32 × Hp) :=
  if a1 = 6 then (cV 13 h a0 (f_X12_fails F a0 4 h) fun v2 h3 => f_X12_goesIn_11 F a0 h3) else (f_X12_goesIn_11 F a0 h)
set_option maxRecDepth 100000 in
set_option maxHeartbeats 4000000 in
theorem T_X12_goesIn (F : Nat) (a0 : Nat) (a1 : Int32) (h : Hp) : GM rvI I_X12_goesIn 7 [.ref a0, .int a1] h (f_X12_goesIn F a0 a1 h) := by
  delta f_X12_goesIn
  refine GM_of (lv := [(0, .ref a0), (1, .int a1)]) (by decide +kernel) (Nat.le_of_ble_eq_true rfl) rfl ?_
  refine g_iload_n 1 dX12_goesIn_0 rfl ?_
  refine g_bipush (v := 6) dX12_goesIn_1 (by decide) ?_
  refine g_icmp_ne (tgt := 11) dX12_goesIn_3 (by decide) (fun c1 => ?_) (fun c1 => ?_)
  · refine g_aload_n 0 dX12_goesIn_6 rfl ?_
    refine g_iconst (v := 4) dX12_goesIn_7 (by decide) ?_
    refine g_callVv (J := I_X12_fails) (t := 13) (As := [.int 4]) (rest := []) mjv_X12_fails ml_RX12_134 ⟨rfl, by decide, by decide⟩ (by decide) rfl rfl (Nat.le_of_ble_eq_true rfl) dX12_goesIn_8 (T_X12_fails F a0 4 h) (fun v2 h3 => ?_)
    refine G_lv [0] rfl ?_
    exact T_X12_goesIn_11 F a0 h3
  · refine G_lv [0] rfl ?_
    exact T_X12_goesIn_11 F a0 h
set_option maxRecDepth 100000 in
noncomputable def f_X12_wordOf (F : Nat) (a0 : Nat) (a1 : Int32) (h : Hp) : Option (Int32 × Hp) :=
  if a1 = 1 then (some (1, h)) else (if a1 = 2 then (some (2, h)) else (if a1 = 3 then (some ((-1), h)) else (if a1 = 4 then (some ((-1), h)) else (if a1 = 5 then (some ((-1), h)) else (if a1 = 6 then (some ((-1), h)) else (if a1 = 7 then (gI 13 h a0 15 fun v8 => if v8 = 0 then (some (5, h)) else (some ((-1), h))) else (if a1 = 8 then (some ((-1), h)) else (if a1 = 9 then (some ((-1), h)) else (if a1 = 10 then (some ((-1), h)) else (if a1 = 11 then (some ((-1), h)) else (if a1 = 12 then (some ((-1), h)) else (if a1 = 13 then (some ((-1), h)) else (if a1 = 14 then (some ((-1), h)) else (if a1 = 15 then (some (0, h)) else (if a1 = 16 then (some (3, h)) else (if a1 = 17 then (some (4, h)) else (some ((-1), h))))))))))))))))))
set_option maxRecDepth 100000 in
set_option maxHeartbeats 4000000 in
theorem T_X12_wordOf (F : Nat) (a0 : Nat) (a1 : Int32) (h : Hp) : GM rvI I_X12_wordOf 1 [.ref a0, .int a1] h (f_X12_wordOf F a0 a1 h) := by
  delta f_X12_wordOf
  refine GM_of (lv := [(0, .ref a0), (1, .int a1)]) (by decide +kernel) (Nat.le_of_ble_eq_true rfl) rfl ?_
  refine g_iload_n 1 dX12_wordOf_0 rfl ?_
  refine G_ite (fun c1 => ?_) (fun c1 => ?_)
  · refine g_tin 1 (85) dX12_wordOf_1 c1 (by decide) (by decide) (by decide) (by decide) (tgt := 86) ?_
    refine g_iconst (v := 1) dX12_wordOf_86 (by decide) ?_
    exact g_iret rfl dX12_wordOf_87
  · refine G_ite (fun c2 => ?_) (fun c2 => ?_)
    · refine g_tin 2 (87) dX12_wordOf_1 c2 (by decide) (by decide) (by decide) (by decide) (tgt := 88) ?_
      refine g_iconst (v := 2) dX12_wordOf_88 (by decide) ?_
      exact g_iret rfl dX12_wordOf_89
    · refine G_ite (fun c3 => ?_) (fun c3 => ?_)
      · refine g_tin 3 (106) dX12_wordOf_1 c3 (by decide) (by decide) (by decide) (by decide) (tgt := 107) ?_
        refine g_iconst (v := (-1)) dX12_wordOf_107 (by decide) ?_
        exact g_iret rfl dX12_wordOf_108
      · refine G_ite (fun c4 => ?_) (fun c4 => ?_)
        · refine g_tin 4 (106) dX12_wordOf_1 c4 (by decide) (by decide) (by decide) (by decide) (tgt := 107) ?_
          refine g_iconst (v := (-1)) dX12_wordOf_107 (by decide) ?_
          exact g_iret rfl dX12_wordOf_108
        · refine G_ite (fun c5 => ?_) (fun c5 => ?_)
          · refine g_tin 5 (106) dX12_wordOf_1 c5 (by decide) (by decide) (by decide) (by decide) (tgt := 107) ?_
            refine g_iconst (v := (-1)) dX12_wordOf_107 (by decide) ?_
            exact g_iret rfl dX12_wordOf_108
          · refine G_ite (fun c6 => ?_) (fun c6 => ?_)
            · refine g_tin 6 (106) dX12_wordOf_1 c6 (by decide) (by decide) (by decide) (by decide) (tgt := 107) ?_
              refine g_iconst (v := (-1)) dX12_wordOf_107 (by decide) ?_
              exact g_iret rfl dX12_wordOf_108
            · refine G_ite (fun c7 => ?_) (fun c7 => ?_)
              · refine g_tin 7 (93) dX12_wordOf_1 c7 (by decide) (by decide) (by decide) (by decide) (tgt := 94) ?_
                refine g_aload_n 0 dX12_wordOf_94 rfl ?_
                refine g_getI fl_RX12_142 rfl dX12_wordOf_95 (fun v8 => ?_)
                refine g_if_ne (tgt := 105) dX12_wordOf_98 (by decide) (fun c9 => ?_) (fun c9 => ?_)
                · refine g_iconst (v := 5) dX12_wordOf_101 (by decide) ?_
                  refine g_goto (tgt := 106) dX12_wordOf_102 (by decide) ?_
                  exact g_iret rfl dX12_wordOf_106
                · refine g_iconst (v := (-1)) dX12_wordOf_105 (by decide) ?_
                  exact g_iret rfl dX12_wordOf_106
              · refine G_ite (fun c10 => ?_) (fun c10 => ?_)
                · refine g_tin 8 (106) dX12_wordOf_1 c10 (by decide) (by decide) (by decide) (by decide) (tgt := 107) ?_
                  refine g_iconst (v := (-1)) dX12_wordOf_107 (by decide) ?_
                  exact g_iret rfl dX12_wordOf_108
                · refine G_ite (fun c11 => ?_) (fun c11 => ?_)
                  · refine g_tin 9 (106) dX12_wordOf_1 c11 (by decide) (by decide) (by decide) (by decide) (tgt := 107) ?_
                    refine g_iconst (v := (-1)) dX12_wordOf_107 (by decide) ?_
                    exact g_iret rfl dX12_wordOf_108
                  · refine G_ite (fun c12 => ?_) (fun c12 => ?_)
                    · refine g_tin 10 (106) dX12_wordOf_1 c12 (by decide) (by decide) (by decide) (by decide) (tgt := 107) ?_
                      refine g_iconst (v := (-1)) dX12_wordOf_107 (by decide) ?_
                      exact g_iret rfl dX12_wordOf_108
                    · refine G_ite (fun c13 => ?_) (fun c13 => ?_)
                      · refine g_tin 11 (106) dX12_wordOf_1 c13 (by decide) (by decide) (by decide) (by decide) (tgt := 107) ?_
                        refine g_iconst (v := (-1)) dX12_wordOf_107 (by decide) ?_
                        exact g_iret rfl dX12_wordOf_108
                      · refine G_ite (fun c14 => ?_) (fun c14 => ?_)
                        · refine g_tin 12 (106) dX12_wordOf_1 c14 (by decide) (by decide) (by decide) (by decide) (tgt := 107) ?_
                          refine g_iconst (v := (-1)) dX12_wordOf_107 (by decide) ?_
                          exact g_iret rfl dX12_wordOf_108
                        · refine G_ite (fun c15 => ?_) (fun c15 => ?_)
                          · refine g_tin 13 (106) dX12_wordOf_1 c15 (by decide) (by decide) (by decide) (by decide) (tgt := 107) ?_
                            refine g_iconst (v := (-1)) dX12_wordOf_107 (by decide) ?_
                            exact g_iret rfl dX12_wordOf_108
                          · refine G_ite (fun c16 => ?_) (fun c16 => ?_)
                            · refine g_tin 14 (106) dX12_wordOf_1 c16 (by decide) (by decide) (by decide) (by decide) (tgt := 107) ?_
                              refine g_iconst (v := (-1)) dX12_wordOf_107 (by decide) ?_
                              exact g_iret rfl dX12_wordOf_108
                            · refine G_ite (fun c17 => ?_) (fun c17 => ?_)
                              · refine g_tin 15 (83) dX12_wordOf_1 c17 (by decide) (by decide) (by decide) (by decide) (tgt := 84) ?_
                                refine g_iconst (v := 0) dX12_wordOf_84 (by decide) ?_
                                exact g_iret rfl dX12_wordOf_85
                              · refine G_ite (fun c18 => ?_) (fun c18 => ?_)
                                · refine g_tin 16 (89) dX12_wordOf_1 c18 (by decide) (by decide) (by decide) (by decide) (tgt := 90) ?_
                                  refine g_iconst (v := 3) dX12_wordOf_90 (by decide) ?_
                                  exact g_iret rfl dX12_wordOf_91
                                · refine G_ite (fun c19 => ?_) (fun c19 => ?_)
                                  · refine g_tin 17 (91) dX12_wordOf_1 c19 (by decide) (by decide) (by decide) (by decide) (tgt := 92) ?_
                                    refine g_iconst (v := 4) dX12_wordOf_92 (by decide) ?_
                                    exact g_iret rfl dX12_wordOf_93
                                  · refine g_tout (tgt := 107) dX12_wordOf_1 (by have z0 := lv_neT c1 (show (1 : Int32).toInt = 1 by decide); have z1 := lv_neT c2 (show (2 : Int32).toInt = 2 by decide); have z2 := lv_neT c3 (show (3 : Int32).toInt = 3 by decide); have z3 := lv_neT c4 (show (4 : Int32).toInt = 4 by decide); have z4 := lv_neT c5 (show (5 : Int32).toInt = 5 by decide); have z5 := lv_neT c6 (show (6 : Int32).toInt = 6 by decide); have z6 := lv_neT c7 (show (7 : Int32).toInt = 7 by decide); have z7 := lv_neT c10 (show (8 : Int32).toInt = 8 by decide); have z8 := lv_neT c11 (show (9 : Int32).toInt = 9 by decide); have z9 := lv_neT c12 (show (10 : Int32).toInt = 10 by decide); have z10 := lv_neT c13 (show (11 : Int32).toInt = 11 by decide); have z11 := lv_neT c14 (show (12 : Int32).toInt = 12 by decide); have z12 := lv_neT c15 (show (13 : Int32).toInt = 13 by decide); have z13 := lv_neT c16 (show (14 : Int32).toInt = 14 by decide); have z14 := lv_neT c17 (show (15 : Int32).toInt = 15 by decide); have z15 := lv_neT c18 (show (16 : Int32).toInt = 16 by decide); have z16 := lv_neT c19 (show (17 : Int32).toInt = 17 by decide); omega) (by decide) ?_
                                    refine g_iconst (v := (-1)) dX12_wordOf_107 (by decide) ?_
                                    exact g_iret rfl dX12_wordOf_108
set_option maxRecDepth 100000 in
noncomputable def f_X12_readAtom_66 (F : Nat) (Rc : Nat → Nat → Int32 → Hp → Option (Unit × Hp)) (l0 : Nat) (l1 : Int32) (h : Hp) : Option (Unit × Hp) :=
  cV 13 h l0 (f_X12_is F l0 35 h) fun v10 h11 => if v10 = 0 then (cV 13 h11 l0 (f_X12_is F l0 11 h11) fun v13 h14 => if v13 = 0 then (cV 13 h14 l0 (f_X12_fails F l0 2 h14) fun v16 h17 => some ((), h17)) else (cV 13 h14 l0 (Rc 2 l0 l1 h14) fun v18 h19 => some ((), h19))) else (cV 13 h11 l0 (f_X12_goesIn F l0 l1 h11) fun v20 h21 => if v20 = 0 then (some ((), h21)) else (cV 13 h21 l0 (Rc 3 l0 (l1 + 1) h21) fun v23 h24 => cV 13 h24 l0 (f_X12_eats F l0 36 h24) fun v25 h26 => if v25 = 0 then (cV 13 h26 l0 (f_X12_fails F l0 2 h26) fun v28 h29 => some ((), h29)) else (some ((), h26))))
set_option maxRecDepth 100000 in
set_option maxHeartbeats 4000000 in
theorem T_X12_readAtom_66 (F : Nat) {d dR : Nat} (hd1 : 8 ≤ d) (hdR : dR + 1 ≤ d) {Rc : Nat → Nat → Int32 → Hp → Option (Unit × Hp)} (hR : ∀ (w : Nat) (a0 : Nat) (a1 : Int32) (h : Hp), GM rvV (I_grp_X12_readAtom w) dR [.ref a0, .int a1] h (Rc w a0 a1 h)) (l0 : Nat) (l1 : Int32) (h : Hp) : G rvV I_X12_readAtom d 66 [(0, .ref l0), (1, .int l1)] [] h (f_X12_readAtom_66 F Rc l0 l1 h) := by
  delta f_X12_readAtom_66
  refine g_aload_n 0 dX12_readAtom_66 rfl ?_
  refine g_bipush (v := 35) dX12_readAtom_67 (by decide) ?_
  refine g_callVi (J := I_X12_is) (t := 13) (As := [.int 35]) (rest := []) mjv_X12_is ml_RX12_128 ⟨rfl, by decide, by decide⟩ (Nat.le_trans (by decide) hd1) rfl rfl (Nat.le_of_ble_eq_true rfl) dX12_readAtom_69 (T_X12_is F l0 35 h) (fun v10 h11 => ?_)
  refine g_if_eq (tgt := 108) dX12_readAtom_72 (by decide) (fun c12 => ?_) (fun c12 => ?_)
  · refine g_aload_n 0 dX12_readAtom_108 rfl ?_
    refine g_bipush (v := 11) dX12_readAtom_109 (by decide) ?_
    refine g_callVi (J := I_X12_is) (t := 13) (As := [.int 11]) (rest := []) mjv_X12_is ml_RX12_128 ⟨rfl, by decide, by decide⟩ (Nat.le_trans (by decide) hd1) rfl rfl (Nat.le_of_ble_eq_true rfl) dX12_readAtom_111 (T_X12_is F l0 11 h11) (fun v13 h14 => ?_)
    refine g_if_eq (tgt := 125) dX12_readAtom_114 (by decide) (fun c15 => ?_) (fun c15 => ?_)
    · refine g_aload_n 0 dX12_readAtom_125 rfl ?_
      refine g_iconst (v := 2) dX12_readAtom_126 (by decide) ?_
      refine g_callVv (J := I_X12_fails) (t := 13) (As := [.int 2]) (rest := []) mjv_X12_fails ml_RX12_134 ⟨rfl, by decide, by decide⟩ (Nat.le_trans (by decide) hd1) rfl rfl (Nat.le_of_ble_eq_true rfl) dX12_readAtom_127 (T_X12_fails F l0 2 h14) (fun v16 h17 => ?_)
      exact g_vret rfl dX12_readAtom_130
    · refine g_aload_n 0 dX12_readAtom_117 rfl ?_
      refine g_iload_n 1 dX12_readAtom_118 rfl ?_
      refine g_callVv (J := I_X12_readIf) (t := 13) (As := [.int l1]) (rest := []) mjv_X12_readIf ml_RX12_160 ⟨rfl, by decide, by decide⟩ hdR rfl rfl (Nat.le_of_ble_eq_true rfl) dX12_readAtom_119 (hR 2 l0 l1 h14) (fun v18 h19 => ?_)
      refine g_goto (tgt := 130) dX12_readAtom_122 (by decide) ?_
      exact g_vret rfl dX12_readAtom_130
  · refine g_aload_n 0 dX12_readAtom_75 rfl ?_
    refine g_iload_n 1 dX12_readAtom_76 rfl ?_
    refine g_callVi (J := I_X12_goesIn) (t := 13) (As := [.int l1]) (rest := []) mjv_X12_goesIn ml_RX12_151 ⟨rfl, by decide, by decide⟩ (Nat.le_trans (by decide) hd1) rfl rfl (Nat.le_of_ble_eq_true rfl) dX12_readAtom_77 (T_X12_goesIn F l0 l1 h11) (fun v20 h21 => ?_)
    refine g_if_ne (tgt := 84) dX12_readAtom_80 (by decide) (fun c22 => ?_) (fun c22 => ?_)
    · exact g_vret rfl dX12_readAtom_83
    · refine g_aload_n 0 dX12_readAtom_84 rfl ?_
      refine g_iload_n 1 dX12_readAtom_85 rfl ?_
      refine g_iconst (v := 1) dX12_readAtom_86 (by decide) ?_
      refine g_iadd dX12_readAtom_87 ?_
      refine g_callVv (J := I_X12_readSum) (t := 13) (As := [.int (l1 + 1)]) (rest := []) mjv_X12_readSum ml_RX12_154 ⟨rfl, by decide, by decide⟩ hdR rfl rfl (Nat.le_of_ble_eq_true rfl) dX12_readAtom_88 (hR 3 l0 (l1 + 1) h21) (fun v23 h24 => ?_)
      refine g_aload_n 0 dX12_readAtom_91 rfl ?_
      refine g_bipush (v := 36) dX12_readAtom_92 (by decide) ?_
      refine g_callVi (J := I_X12_eats) (t := 13) (As := [.int 36]) (rest := []) mjv_X12_eats ml_RX12_157 ⟨rfl, by decide, by decide⟩ (Nat.le_trans (by decide) hd1) rfl rfl (Nat.le_of_ble_eq_true rfl) dX12_readAtom_94 (T_X12_eats F l0 36 h24) (fun v25 h26 => ?_)
      refine g_if_ne (tgt := 130) dX12_readAtom_97 (by decide) (fun c27 => ?_) (fun c27 => ?_)
      · refine g_aload_n 0 dX12_readAtom_100 rfl ?_
        refine g_iconst (v := 2) dX12_readAtom_101 (by decide) ?_
        refine g_callVv (J := I_X12_fails) (t := 13) (As := [.int 2]) (rest := []) mjv_X12_fails ml_RX12_134 ⟨rfl, by decide, by decide⟩ (Nat.le_trans (by decide) hd1) rfl rfl (Nat.le_of_ble_eq_true rfl) dX12_readAtom_102 (T_X12_fails F l0 2 h26) (fun v28 h29 => ?_)
        refine g_goto (tgt := 130) dX12_readAtom_105 (by decide) ?_
        exact g_vret rfl dX12_readAtom_130
      · exact g_vret rfl dX12_readAtom_130
set_option maxRecDepth 100000 in
noncomputable def f_X12_readAtom_w (F : Nat) (Rc : Nat → Nat → Int32 → Hp → Option (Unit × Hp)) (a0 : Nat) (a1 : Int32) (h : Hp) : Option (Unit × Hp) :=
  cV 13 h a0 (f_X12_is F a0 23 h) fun v1 h2 => if v1 = 0 then (gI 13 h2 a0 11 fun v4 => if v4 = 0 then (gI 13 h2 a0 9 fun v6 => cV 13 h2 a0 (f_X12_wordOf F a0 v6 h2) fun v7 h8 => if v7 = (-1) then (f_X12_readAtom_66 F Rc a0 a1 h8) else (gI 13 h8 a0 9 fun v30 => cV 13 h8 a0 (f_X12_wordOf F a0 v30 h8) fun v31 h32 => cV 13 h32 a0 (f_X12_codes F a0 (1000 + v31) h32) fun v33 h34 => cV 13 h34 a0 (f_X12_next F a0 h34) fun v35 h36 => some ((), h36))) else (f_X12_readAtom_66 F Rc a0 a1 h2)) else (gI 13 h2 a0 10 fun v37 => cV 13 h2 a0 (f_X12_codes F a0 v37 h2) fun v38 h39 => cV 13 h39 a0 (f_X12_next F a0 h39) fun v40 h41 => some ((), h41))
set_option maxRecDepth 100000 in
set_option maxHeartbeats 4000000 in
theorem T_X12_readAtom_w (F : Nat) {d dR : Nat} (hd1 : 8 ≤ d) (hdR : dR + 1 ≤ d) {Rc : Nat → Nat → Int32 → Hp → Option (Unit × Hp)} (hR : ∀ (w : Nat) (a0 : Nat) (a1 : Int32) (h : Hp), GM rvV (I_grp_X12_readAtom w) dR [.ref a0, .int a1] h (Rc w a0 a1 h)) (a0 : Nat) (a1 : Int32) (h : Hp) : GM rvV I_X12_readAtom d [.ref a0, .int a1] h (f_X12_readAtom_w F Rc a0 a1 h) := by
  delta f_X12_readAtom_w
  refine GM_of (lv := [(0, .ref a0), (1, .int a1)]) (by decide +kernel) (Nat.le_of_ble_eq_true rfl) rfl ?_
  refine g_aload_n 0 dX12_readAtom_0 rfl ?_
  refine g_bipush (v := 23) dX12_readAtom_1 (by decide) ?_
  refine g_callVi (J := I_X12_is) (t := 13) (As := [.int 23]) (rest := []) mjv_X12_is ml_RX12_128 ⟨rfl, by decide, by decide⟩ (Nat.le_trans (by decide) hd1) rfl rfl (Nat.le_of_ble_eq_true rfl) dX12_readAtom_3 (T_X12_is F a0 23 h) (fun v1 h2 => ?_)
  refine g_if_eq (tgt := 24) dX12_readAtom_6 (by decide) (fun c3 => ?_) (fun c3 => ?_)
  · refine g_aload_n 0 dX12_readAtom_24 rfl ?_
    refine g_getI fl_RX12_122 rfl dX12_readAtom_25 (fun v4 => ?_)
    refine g_if_ne (tgt := 66) dX12_readAtom_28 (by decide) (fun c5 => ?_) (fun c5 => ?_)
    · refine g_aload_n 0 dX12_readAtom_31 rfl ?_
      refine g_aload_n 0 dX12_readAtom_32 rfl ?_
      refine g_getI fl_RX12_104 rfl dX12_readAtom_33 (fun v6 => ?_)
      refine g_callVi (J := I_X12_wordOf) (t := 13) (As := [.int v6]) (rest := []) mjv_X12_wordOf ml_RX12_148 ⟨rfl, by decide, by decide⟩ (Nat.le_trans (by decide) hd1) rfl rfl (Nat.le_of_ble_eq_true rfl) dX12_readAtom_36 (T_X12_wordOf F a0 v6 h2) (fun v7 h8 => ?_)
      refine g_iconst (v := (-1)) dX12_readAtom_39 (by decide) ?_
      refine g_icmp_eq (tgt := 66) dX12_readAtom_40 (by decide) (fun c9 => ?_) (fun c9 => ?_)
      · refine G_lv [0, 1] rfl ?_
        exact T_X12_readAtom_66 F hd1 hdR hR a0 a1 h8
      · refine g_aload_n 0 dX12_readAtom_43 rfl ?_
        refine g_sipush (v := 1000) dX12_readAtom_44 (by decide) ?_
        refine g_aload_n 0 dX12_readAtom_47 rfl ?_
        refine g_aload_n 0 dX12_readAtom_48 rfl ?_
        refine g_getI fl_RX12_104 rfl dX12_readAtom_49 (fun v30 => ?_)
        refine g_callVi (J := I_X12_wordOf) (t := 13) (As := [.int v30]) (rest := [.int 1000, .ref a0]) mjv_X12_wordOf ml_RX12_148 ⟨rfl, by decide, by decide⟩ (Nat.le_trans (by decide) hd1) rfl rfl (Nat.le_of_ble_eq_true rfl) dX12_readAtom_52 (T_X12_wordOf F a0 v30 h8) (fun v31 h32 => ?_)
        refine g_iadd dX12_readAtom_55 ?_
        refine g_callVv (J := I_X12_codes) (t := 13) (As := [.int (1000 + v31)]) (rest := []) mjv_X12_codes ml_RX12_145 ⟨rfl, by decide, by decide⟩ (Nat.le_trans (by decide) hd1) rfl rfl (Nat.le_of_ble_eq_true rfl) dX12_readAtom_56 (T_X12_codes F a0 (1000 + v31) h32) (fun v33 h34 => ?_)
        refine g_aload_n 0 dX12_readAtom_59 rfl ?_
        refine g_callVv (J := I_X12_next) (t := 13) (As := []) (rest := []) mjv_X12_next ml_RX12_131 ⟨rfl, by decide, by decide⟩ (Nat.le_trans (by decide) hd1) rfl rfl (Nat.le_of_ble_eq_true rfl) dX12_readAtom_60 (T_X12_next F a0 h34) (fun v35 h36 => ?_)
        refine g_goto (tgt := 130) dX12_readAtom_63 (by decide) ?_
        exact g_vret rfl dX12_readAtom_130
    · refine G_lv [0, 1] rfl ?_
      exact T_X12_readAtom_66 F hd1 hdR hR a0 a1 h2
  · refine g_aload_n 0 dX12_readAtom_9 rfl ?_
    refine g_aload_n 0 dX12_readAtom_10 rfl ?_
    refine g_getI fl_RX12_117 rfl dX12_readAtom_11 (fun v37 => ?_)
    refine g_callVv (J := I_X12_codes) (t := 13) (As := [.int v37]) (rest := []) mjv_X12_codes ml_RX12_145 ⟨rfl, by decide, by decide⟩ (Nat.le_trans (by decide) hd1) rfl rfl (Nat.le_of_ble_eq_true rfl) dX12_readAtom_14 (T_X12_codes F a0 v37 h2) (fun v38 h39 => ?_)
    refine g_aload_n 0 dX12_readAtom_17 rfl ?_
    refine g_callVv (J := I_X12_next) (t := 13) (As := []) (rest := []) mjv_X12_next ml_RX12_131 ⟨rfl, by decide, by decide⟩ (Nat.le_trans (by decide) hd1) rfl rfl (Nat.le_of_ble_eq_true rfl) dX12_readAtom_18 (T_X12_next F a0 h39) (fun v40 h41 => ?_)
    refine g_goto (tgt := 130) dX12_readAtom_21 (by decide) ?_
    exact g_vret rfl dX12_readAtom_130
set_option maxRecDepth 100000 in
noncomputable def f_X12_readBoth_5_b (F : Nat) (Rc : Nat → Nat → Int32 → Hp → Option (Unit × Hp)) (K5 : Nat → Int32 → Hp → Option (Unit × Hp)) (l0 : Nat) (l1 : Int32) (h : Hp) : Option (Unit × Hp) :=
  cV 13 h l0 (f_X12_eats F l0 18 h) fun v3 h4 => if v3 = 0 then (some ((), h4)) else (cV 13 h4 l0 (Rc 6 l0 l1 h4) fun v6 h7 => cV 13 h7 l0 (f_X12_codes F l0 3007 h7) fun v8 h9 => K5 l0 l1 h9)
set_option maxRecDepth 100000 in
set_option maxHeartbeats 4000000 in
theorem T_X12_readBoth_5_b (F : Nat) {d dR : Nat} (hd1 : 8 ≤ d) (hdR : dR + 1 ≤ d) {Rc : Nat → Nat → Int32 → Hp → Option (Unit × Hp)} (hR : ∀ (w : Nat) (a0 : Nat) (a1 : Int32) (h : Hp), GM rvV (I_grp_X12_readAtom w) dR [.ref a0, .int a1] h (Rc w a0 a1 h)) {K5 : Nat → Int32 → Hp → Option (Unit × Hp)} (hK5 : ∀ (l0 : Nat) (l1 : Int32) (h : Hp), G rvV I_X12_readBoth d 5 [(0, .ref l0), (1, .int l1)] [] h (K5 l0 l1 h)) (l0 : Nat) (l1 : Int32) (h : Hp) : G rvV I_X12_readBoth d 5 [(0, .ref l0), (1, .int l1)] [] h (f_X12_readBoth_5_b F Rc K5 l0 l1 h) := by
  delta f_X12_readBoth_5_b
  refine g_aload_n 0 dX12_readBoth_5 rfl ?_
  refine g_bipush (v := 18) dX12_readBoth_6 (by decide) ?_
  refine g_callVi (J := I_X12_eats) (t := 13) (As := [.int 18]) (rest := []) mjv_X12_eats ml_RX12_157 ⟨rfl, by decide, by decide⟩ (Nat.le_trans (by decide) hd1) rfl rfl (Nat.le_of_ble_eq_true rfl) dX12_readBoth_8 (T_X12_eats F l0 18 h) (fun v3 h4 => ?_)
  refine g_if_eq (tgt := 29) dX12_readBoth_11 (by decide) (fun c5 => ?_) (fun c5 => ?_)
  · exact g_vret rfl dX12_readBoth_29
  · refine g_aload_n 0 dX12_readBoth_14 rfl ?_
    refine g_iload_n 1 dX12_readBoth_15 rfl ?_
    refine g_callVv (J := I_X12_readUnit) (t := 13) (As := [.int l1]) (rest := []) mjv_X12_readUnit ml_RX12_172 ⟨rfl, by decide, by decide⟩ hdR rfl rfl (Nat.le_of_ble_eq_true rfl) dX12_readBoth_16 (hR 6 l0 l1 h4) (fun v6 h7 => ?_)
    refine g_aload_n 0 dX12_readBoth_19 rfl ?_
    refine g_sipush (v := 3007) dX12_readBoth_20 (by decide) ?_
    refine g_callVv (J := I_X12_codes) (t := 13) (As := [.int 3007]) (rest := []) mjv_X12_codes ml_RX12_145 ⟨rfl, by decide, by decide⟩ (Nat.le_trans (by decide) hd1) rfl rfl (Nat.le_of_ble_eq_true rfl) dX12_readBoth_23 (T_X12_codes F l0 3007 h7) (fun v8 h9 => ?_)
    refine g_goto (tgt := 5) dX12_readBoth_26 (by decide) ?_
    refine G_lv [0, 1] rfl ?_
    exact hK5 l0 l1 h9
set_option maxRecDepth 100000 in
noncomputable def f_X12_readBoth_5 (F : Nat) (Rc : Nat → Nat → Int32 → Hp → Option (Unit × Hp)) : Nat → Nat → Int32 → Hp → Option (Unit × Hp)
  | 0, _, _, _ => none
  | n + 1, l0, l1, h => f_X12_readBoth_5_b F Rc (f_X12_readBoth_5 F Rc n) l0 l1 h
set_option maxRecDepth 100000 in
set_option maxHeartbeats 4000000 in
theorem T_X12_readBoth_5 (F : Nat) {d dR : Nat} (hd1 : 8 ≤ d) (hdR : dR + 1 ≤ d) {Rc : Nat → Nat → Int32 → Hp → Option (Unit × Hp)} (hR : ∀ (w : Nat) (a0 : Nat) (a1 : Int32) (h : Hp), GM rvV (I_grp_X12_readAtom w) dR [.ref a0, .int a1] h (Rc w a0 a1 h)) : ∀ (n : Nat) (l0 : Nat) (l1 : Int32) (h : Hp), G rvV I_X12_readBoth d 5 [(0, .ref l0), (1, .int l1)] [] h (f_X12_readBoth_5 F Rc n l0 l1 h) := by
  intro n
  induction n with
  | zero => intros; exact G_none
  | succ n ih => intro l0 l1 h; exact T_X12_readBoth_5_b F hd1 hdR hR ih l0 l1 h
set_option maxRecDepth 100000 in
noncomputable def f_X12_readBoth_w (F : Nat) (Rc : Nat → Nat → Int32 → Hp → Option (Unit × Hp)) (a0 : Nat) (a1 : Int32) (h : Hp) : Option (Unit × Hp) :=
  cV 13 h a0 (Rc 6 a0 a1 h) fun v1 h2 => f_X12_readBoth_5 F Rc F a0 a1 h2
set_option maxRecDepth 100000 in
set_option maxHeartbeats 4000000 in
theorem T_X12_readBoth_w (F : Nat) {d dR : Nat} (hd1 : 8 ≤ d) (hdR : dR + 1 ≤ d) {Rc : Nat → Nat → Int32 → Hp → Option (Unit × Hp)} (hR : ∀ (w : Nat) (a0 : Nat) (a1 : Int32) (h : Hp), GM rvV (I_grp_X12_readAtom w) dR [.ref a0, .int a1] h (Rc w a0 a1 h)) (a0 : Nat) (a1 : Int32) (h : Hp) : GM rvV I_X12_readBoth d [.ref a0, .int a1] h (f_X12_readBoth_w F Rc a0 a1 h) := by
  delta f_X12_readBoth_w
  refine GM_of (lv := [(0, .ref a0), (1, .int a1)]) (by decide +kernel) (Nat.le_of_ble_eq_true rfl) rfl ?_
  refine g_aload_n 0 dX12_readBoth_0 rfl ?_
  refine g_iload_n 1 dX12_readBoth_1 rfl ?_
  refine g_callVv (J := I_X12_readUnit) (t := 13) (As := [.int a1]) (rest := []) mjv_X12_readUnit ml_RX12_172 ⟨rfl, by decide, by decide⟩ hdR rfl rfl (Nat.le_of_ble_eq_true rfl) dX12_readBoth_2 (hR 6 a0 a1 h) (fun v1 h2 => ?_)
  refine G_lv [0, 1] rfl ?_
  exact T_X12_readBoth_5 F hd1 hdR hR F a0 a1 h2
set_option maxRecDepth 100000 in
noncomputable def f_X12_readIf_72 (F : Nat) (Rc : Nat → Nat → Int32 → Hp → Option (Unit × Hp)) (l0 : Nat) (h : Hp) : Option (Unit × Hp) :=
  cV 13 h l0 (f_X12_codes F l0 3009 h) fun v25 h26 => some ((), h26)
set_option maxRecDepth 100000 in
set_option maxHeartbeats 4000000 in
theorem T_X12_readIf_72 (F : Nat) {d dR : Nat} (hd1 : 8 ≤ d) (hdR : dR + 1 ≤ d) {Rc : Nat → Nat → Int32 → Hp → Option (Unit × Hp)} (hR : ∀ (w : Nat) (a0 : Nat) (a1 : Int32) (h : Hp), GM rvV (I_grp_X12_readAtom w) dR [.ref a0, .int a1] h (Rc w a0 a1 h)) (l0 : Nat) (h : Hp) : G rvV I_X12_readIf d 72 [(0, .ref l0)] [] h (f_X12_readIf_72 F Rc l0 h) := by
  delta f_X12_readIf_72
  refine g_aload_n 0 dX12_readIf_72 rfl ?_
  refine g_sipush (v := 3009) dX12_readIf_73 (by decide) ?_
  refine g_callVv (J := I_X12_codes) (t := 13) (As := [.int 3009]) (rest := []) mjv_X12_codes ml_RX12_145 ⟨rfl, by decide, by decide⟩ (Nat.le_trans (by decide) hd1) rfl rfl (Nat.le_of_ble_eq_true rfl) dX12_readIf_76 (T_X12_codes F l0 3009 h) (fun v25 h26 => ?_)
  exact g_vret rfl dX12_readIf_79
set_option maxRecDepth 100000 in
noncomputable def f_X12_readIf_51 (F : Nat) (Rc : Nat → Nat → Int32 → Hp → Option (Unit × Hp)) (l0 : Nat) (l1 : Int32) (h : Hp) : Option (Unit × Hp) :=
  cV 13 h l0 (Rc 3 l0 (l1 + 1) h) fun v18 h19 => cV 13 h19 l0 (f_X12_eats F l0 14 h19) fun v20 h21 => if v20 = 0 then (cV 13 h21 l0 (f_X12_fails F l0 2 h21) fun v23 h24 => f_X12_readIf_72 F Rc l0 h24) else (f_X12_readIf_72 F Rc l0 h21)
set_option maxRecDepth 100000 in
set_option maxHeartbeats 4000000 in
theorem T_X12_readIf_51 (F : Nat) {d dR : Nat} (hd1 : 8 ≤ d) (hdR : dR + 1 ≤ d) {Rc : Nat → Nat → Int32 → Hp → Option (Unit × Hp)} (hR : ∀ (w : Nat) (a0 : Nat) (a1 : Int32) (h : Hp), GM rvV (I_grp_X12_readAtom w) dR [.ref a0, .int a1] h (Rc w a0 a1 h)) (l0 : Nat) (l1 : Int32) (h : Hp) : G rvV I_X12_readIf d 51 [(0, .ref l0), (1, .int l1)] [] h (f_X12_readIf_51 F Rc l0 l1 h) := by
  delta f_X12_readIf_51
  refine g_aload_n 0 dX12_readIf_51 rfl ?_
  refine g_iload_n 1 dX12_readIf_52 rfl ?_
  refine g_iconst (v := 1) dX12_readIf_53 (by decide) ?_
  refine g_iadd dX12_readIf_54 ?_
  refine g_callVv (J := I_X12_readSum) (t := 13) (As := [.int (l1 + 1)]) (rest := []) mjv_X12_readSum ml_RX12_154 ⟨rfl, by decide, by decide⟩ hdR rfl rfl (Nat.le_of_ble_eq_true rfl) dX12_readIf_55 (hR 3 l0 (l1 + 1) h) (fun v18 h19 => ?_)
  refine g_aload_n 0 dX12_readIf_58 rfl ?_
  refine g_bipush (v := 14) dX12_readIf_59 (by decide) ?_
  refine g_callVi (J := I_X12_eats) (t := 13) (As := [.int 14]) (rest := []) mjv_X12_eats ml_RX12_157 ⟨rfl, by decide, by decide⟩ (Nat.le_trans (by decide) hd1) rfl rfl (Nat.le_of_ble_eq_true rfl) dX12_readIf_61 (T_X12_eats F l0 14 h19) (fun v20 h21 => ?_)
  refine g_if_ne (tgt := 72) dX12_readIf_64 (by decide) (fun c22 => ?_) (fun c22 => ?_)
  · refine g_aload_n 0 dX12_readIf_67 rfl ?_
    refine g_iconst (v := 2) dX12_readIf_68 (by decide) ?_
    refine g_callVv (J := I_X12_fails) (t := 13) (As := [.int 2]) (rest := []) mjv_X12_fails ml_RX12_134 ⟨rfl, by decide, by decide⟩ (Nat.le_trans (by decide) hd1) rfl rfl (Nat.le_of_ble_eq_true rfl) dX12_readIf_69 (T_X12_fails F l0 2 h21) (fun v23 h24 => ?_)
    refine G_lv [0] rfl ?_
    exact T_X12_readIf_72 F hd1 hdR hR l0 h24
  · refine G_lv [0] rfl ?_
    exact T_X12_readIf_72 F hd1 hdR hR l0 h21
set_option maxRecDepth 100000 in
noncomputable def f_X12_readIf_30 (F : Nat) (Rc : Nat → Nat → Int32 → Hp → Option (Unit × Hp)) (l0 : Nat) (l1 : Int32) (h : Hp) : Option (Unit × Hp) :=
  cV 13 h l0 (Rc 3 l0 (l1 + 1) h) fun v11 h12 => cV 13 h12 l0 (f_X12_eats F l0 13 h12) fun v13 h14 => if v13 = 0 then (cV 13 h14 l0 (f_X12_fails F l0 2 h14) fun v16 h17 => f_X12_readIf_51 F Rc l0 l1 h17) else (f_X12_readIf_51 F Rc l0 l1 h14)
set_option maxRecDepth 100000 in
set_option maxHeartbeats 4000000 in
theorem T_X12_readIf_30 (F : Nat) {d dR : Nat} (hd1 : 8 ≤ d) (hdR : dR + 1 ≤ d) {Rc : Nat → Nat → Int32 → Hp → Option (Unit × Hp)} (hR : ∀ (w : Nat) (a0 : Nat) (a1 : Int32) (h : Hp), GM rvV (I_grp_X12_readAtom w) dR [.ref a0, .int a1] h (Rc w a0 a1 h)) (l0 : Nat) (l1 : Int32) (h : Hp) : G rvV I_X12_readIf d 30 [(0, .ref l0), (1, .int l1)] [] h (f_X12_readIf_30 F Rc l0 l1 h) := by
  delta f_X12_readIf_30
  refine g_aload_n 0 dX12_readIf_30 rfl ?_
  refine g_iload_n 1 dX12_readIf_31 rfl ?_
  refine g_iconst (v := 1) dX12_readIf_32 (by decide) ?_
  refine g_iadd dX12_readIf_33 ?_
  refine g_callVv (J := I_X12_readSum) (t := 13) (As := [.int (l1 + 1)]) (rest := []) mjv_X12_readSum ml_RX12_154 ⟨rfl, by decide, by decide⟩ hdR rfl rfl (Nat.le_of_ble_eq_true rfl) dX12_readIf_34 (hR 3 l0 (l1 + 1) h) (fun v11 h12 => ?_)
  refine g_aload_n 0 dX12_readIf_37 rfl ?_
  refine g_bipush (v := 13) dX12_readIf_38 (by decide) ?_
  refine g_callVi (J := I_X12_eats) (t := 13) (As := [.int 13]) (rest := []) mjv_X12_eats ml_RX12_157 ⟨rfl, by decide, by decide⟩ (Nat.le_trans (by decide) hd1) rfl rfl (Nat.le_of_ble_eq_true rfl) dX12_readIf_40 (T_X12_eats F l0 13 h12) (fun v13 h14 => ?_)
  refine g_if_ne (tgt := 51) dX12_readIf_43 (by decide) (fun c15 => ?_) (fun c15 => ?_)
  · refine g_aload_n 0 dX12_readIf_46 rfl ?_
    refine g_iconst (v := 2) dX12_readIf_47 (by decide) ?_
    refine g_callVv (J := I_X12_fails) (t := 13) (As := [.int 2]) (rest := []) mjv_X12_fails ml_RX12_134 ⟨rfl, by decide, by decide⟩ (Nat.le_trans (by decide) hd1) rfl rfl (Nat.le_of_ble_eq_true rfl) dX12_readIf_48 (T_X12_fails F l0 2 h14) (fun v16 h17 => ?_)
    refine G_lv [0, 1] rfl ?_
    exact T_X12_readIf_51 F hd1 hdR hR l0 l1 h17
  · refine G_lv [0, 1] rfl ?_
    exact T_X12_readIf_51 F hd1 hdR hR l0 l1 h14
set_option maxRecDepth 100000 in
noncomputable def f_X12_readIf_w (F : Nat) (Rc : Nat → Nat → Int32 → Hp → Option (Unit × Hp)) (a0 : Nat) (a1 : Int32) (h : Hp) : Option (Unit × Hp) :=
  cV 13 h a0 (f_X12_goesIn F a0 a1 h) fun v1 h2 => if v1 = 0 then (some ((), h2)) else (cV 13 h2 a0 (Rc 5 a0 (a1 + 1) h2) fun v4 h5 => cV 13 h5 a0 (f_X12_eats F a0 12 h5) fun v6 h7 => if v6 = 0 then (cV 13 h7 a0 (f_X12_fails F a0 2 h7) fun v9 h10 => f_X12_readIf_30 F Rc a0 a1 h10) else (f_X12_readIf_30 F Rc a0 a1 h7))
set_option maxRecDepth 100000 in
set_option maxHeartbeats 4000000 in
theorem T_X12_readIf_w (F : Nat) {d dR : Nat} (hd1 : 8 ≤ d) (hdR : dR + 1 ≤ d) {Rc : Nat → Nat → Int32 → Hp → Option (Unit × Hp)} (hR : ∀ (w : Nat) (a0 : Nat) (a1 : Int32) (h : Hp), GM rvV (I_grp_X12_readAtom w) dR [.ref a0, .int a1] h (Rc w a0 a1 h)) (a0 : Nat) (a1 : Int32) (h : Hp) : GM rvV I_X12_readIf d [.ref a0, .int a1] h (f_X12_readIf_w F Rc a0 a1 h) := by
  delta f_X12_readIf_w
  refine GM_of (lv := [(0, .ref a0), (1, .int a1)]) (by decide +kernel) (Nat.le_of_ble_eq_true rfl) rfl ?_
  refine g_aload_n 0 dX12_readIf_0 rfl ?_
  refine g_iload_n 1 dX12_readIf_1 rfl ?_
  refine g_callVi (J := I_X12_goesIn) (t := 13) (As := [.int a1]) (rest := []) mjv_X12_goesIn ml_RX12_151 ⟨rfl, by decide, by decide⟩ (Nat.le_trans (by decide) hd1) rfl rfl (Nat.le_of_ble_eq_true rfl) dX12_readIf_2 (T_X12_goesIn F a0 a1 h) (fun v1 h2 => ?_)
  refine g_if_ne (tgt := 9) dX12_readIf_5 (by decide) (fun c3 => ?_) (fun c3 => ?_)
  · exact g_vret rfl dX12_readIf_8
  · refine g_aload_n 0 dX12_readIf_9 rfl ?_
    refine g_iload_n 1 dX12_readIf_10 rfl ?_
    refine g_iconst (v := 1) dX12_readIf_11 (by decide) ?_
    refine g_iadd dX12_readIf_12 ?_
    refine g_callVv (J := I_X12_readTruth) (t := 13) (As := [.int (a1 + 1)]) (rest := []) mjv_X12_readTruth ml_RX12_163 ⟨rfl, by decide, by decide⟩ hdR rfl rfl (Nat.le_of_ble_eq_true rfl) dX12_readIf_13 (hR 5 a0 (a1 + 1) h2) (fun v4 h5 => ?_)
    refine g_aload_n 0 dX12_readIf_16 rfl ?_
    refine g_bipush (v := 12) dX12_readIf_17 (by decide) ?_
    refine g_callVi (J := I_X12_eats) (t := 13) (As := [.int 12]) (rest := []) mjv_X12_eats ml_RX12_157 ⟨rfl, by decide, by decide⟩ (Nat.le_trans (by decide) hd1) rfl rfl (Nat.le_of_ble_eq_true rfl) dX12_readIf_19 (T_X12_eats F a0 12 h5) (fun v6 h7 => ?_)
    refine g_if_ne (tgt := 30) dX12_readIf_22 (by decide) (fun c8 => ?_) (fun c8 => ?_)
    · refine g_aload_n 0 dX12_readIf_25 rfl ?_
      refine g_iconst (v := 2) dX12_readIf_26 (by decide) ?_
      refine g_callVv (J := I_X12_fails) (t := 13) (As := [.int 2]) (rest := []) mjv_X12_fails ml_RX12_134 ⟨rfl, by decide, by decide⟩ (Nat.le_trans (by decide) hd1) rfl rfl (Nat.le_of_ble_eq_true rfl) dX12_readIf_27 (T_X12_fails F a0 2 h7) (fun v9 h10 => ?_)
      refine G_lv [0, 1] rfl ?_
      exact T_X12_readIf_30 F hd1 hdR hR a0 a1 h10
    · refine G_lv [0, 1] rfl ?_
      exact T_X12_readIf_30 F hd1 hdR hR a0 a1 h7
set_option maxRecDepth 100000 in
noncomputable def f_X12_readSum_41 (F : Nat) (Rc : Nat → Nat → Int32 → Hp → Option (Unit × Hp)) (K5 : Nat → Int32 → Hp → Option (Unit × Hp)) (l0 : Nat) (l1 : Int32) (s0 : Int32) (h : Hp) : Option (Unit × Hp) :=
  cV 13 h l0 (f_X12_next F l0 h) fun v11 h12 => cV 13 h12 l0 (Rc 4 l0 l1 h12) fun v13 h14 => cV 13 h14 l0 (f_X12_codes F l0 s0 h14) fun v15 h16 => K5 l0 l1 h16
set_option maxRecDepth 100000 in
set_option maxHeartbeats 4000000 in
theorem T_X12_readSum_41 (F : Nat) {d dR : Nat} (hd1 : 8 ≤ d) (hdR : dR + 1 ≤ d) {Rc : Nat → Nat → Int32 → Hp → Option (Unit × Hp)} (hR : ∀ (w : Nat) (a0 : Nat) (a1 : Int32) (h : Hp), GM rvV (I_grp_X12_readAtom w) dR [.ref a0, .int a1] h (Rc w a0 a1 h)) {K5 : Nat → Int32 → Hp → Option (Unit × Hp)} (hK5 : ∀ (l0 : Nat) (l1 : Int32) (h : Hp), G rvV I_X12_readSum d 5 [(0, .ref l0), (1, .int l1)] [] h (K5 l0 l1 h)) (l0 : Nat) (l1 : Int32) (s0 : Int32) (h : Hp) : G rvV I_X12_readSum d 41 [(0, .ref l0), (1, .int l1)] [.int s0] h (f_X12_readSum_41 F Rc K5 l0 l1 s0 h) := by
  delta f_X12_readSum_41
  refine g_istore_n (lv' := [(2, .int s0), (0, .ref l0), (1, .int l1)]) dX12_readSum_41 (by decide) rfl ?_
  refine g_aload_n 1 dX12_readSum_42 rfl ?_
  refine g_callVv (J := I_X12_next) (t := 13) (As := []) (rest := []) mjv_X12_next ml_RX12_131 ⟨rfl, by decide, by decide⟩ (Nat.le_trans (by decide) hd1) rfl rfl (Nat.le_of_ble_eq_true rfl) dX12_readSum_43 (T_X12_next F l0 h) (fun v11 h12 => ?_)
  refine g_aload_n 1 dX12_readSum_46 rfl ?_
  refine g_iload_n 2 dX12_readSum_47 rfl ?_
  refine g_callVv (J := I_X12_readTerm) (t := 13) (As := [.int l1]) (rest := []) mjv_X12_readTerm ml_RX12_169 ⟨rfl, by decide, by decide⟩ hdR rfl rfl (Nat.le_of_ble_eq_true rfl) dX12_readSum_48 (hR 4 l0 l1 h12) (fun v13 h14 => ?_)
  refine g_aload_n 1 dX12_readSum_51 rfl ?_
  refine g_iload_n 0 dX12_readSum_52 rfl ?_
  refine g_callVv (J := I_X12_codes) (t := 13) (As := [.int s0]) (rest := []) mjv_X12_codes ml_RX12_145 ⟨rfl, by decide, by decide⟩ (Nat.le_trans (by decide) hd1) rfl rfl (Nat.le_of_ble_eq_true rfl) dX12_readSum_53 (T_X12_codes F l0 s0 h14) (fun v15 h16 => ?_)
  refine g_goto (tgt := 5) dX12_readSum_56 (by decide) ?_
  refine G_lv [1, 2] rfl ?_
  exact hK5 l0 l1 h16
set_option maxRecDepth 100000 in
noncomputable def f_X12_readSum_23 (F : Nat) (Rc : Nat → Nat → Int32 → Hp → Option (Unit × Hp)) (K5 : Nat → Int32 → Hp → Option (Unit × Hp)) (l0 : Nat) (l1 : Int32) (h : Hp) : Option (Unit × Hp) :=
  gI 13 h l0 9 fun v9 => if v9 = 32 then (f_X12_readSum_41 F Rc K5 l0 l1 3000 h) else (f_X12_readSum_41 F Rc K5 l0 l1 3001 h)
set_option maxRecDepth 100000 in
set_option maxHeartbeats 4000000 in
theorem T_X12_readSum_23 (F : Nat) {d dR : Nat} (hd1 : 8 ≤ d) (hdR : dR + 1 ≤ d) {Rc : Nat → Nat → Int32 → Hp → Option (Unit × Hp)} (hR : ∀ (w : Nat) (a0 : Nat) (a1 : Int32) (h : Hp), GM rvV (I_grp_X12_readAtom w) dR [.ref a0, .int a1] h (Rc w a0 a1 h)) {K5 : Nat → Int32 → Hp → Option (Unit × Hp)} (hK5 : ∀ (l0 : Nat) (l1 : Int32) (h : Hp), G rvV I_X12_readSum d 5 [(0, .ref l0), (1, .int l1)] [] h (K5 l0 l1 h)) (l0 : Nat) (l1 : Int32) (h : Hp) : G rvV I_X12_readSum d 23 [(0, .ref l0), (1, .int l1)] [] h (f_X12_readSum_23 F Rc K5 l0 l1 h) := by
  delta f_X12_readSum_23
  refine g_aload_n 0 dX12_readSum_23 rfl ?_
  refine g_getI fl_RX12_104 rfl dX12_readSum_24 (fun v9 => ?_)
  refine g_bipush (v := 32) dX12_readSum_27 (by decide) ?_
  refine g_icmp_ne (tgt := 38) dX12_readSum_29 (by decide) (fun c10 => ?_) (fun c10 => ?_)
  · refine g_sipush (v := 3000) dX12_readSum_32 (by decide) ?_
    refine g_goto (tgt := 41) dX12_readSum_35 (by decide) ?_
    refine G_lv [0, 1] rfl ?_
    exact T_X12_readSum_41 F hd1 hdR hR hK5 l0 l1 3000 h
  · refine g_sipush (v := 3001) dX12_readSum_38 (by decide) ?_
    refine G_lv [0, 1] rfl ?_
    exact T_X12_readSum_41 F hd1 hdR hR hK5 l0 l1 3001 h
set_option maxRecDepth 100000 in
noncomputable def f_X12_readSum_5_b (F : Nat) (Rc : Nat → Nat → Int32 → Hp → Option (Unit × Hp)) (K5 : Nat → Int32 → Hp → Option (Unit × Hp)) (l0 : Nat) (l1 : Int32) (h : Hp) : Option (Unit × Hp) :=
  cV 13 h l0 (f_X12_is F l0 32 h) fun v3 h4 => if v3 = 0 then (cV 13 h4 l0 (f_X12_is F l0 33 h4) fun v6 h7 => if v6 = 0 then (some ((), h7)) else (f_X12_readSum_23 F Rc K5 l0 l1 h7)) else (f_X12_readSum_23 F Rc K5 l0 l1 h4)
set_option maxRecDepth 100000 in
set_option maxHeartbeats 4000000 in
theorem T_X12_readSum_5_b (F : Nat) {d dR : Nat} (hd1 : 8 ≤ d) (hdR : dR + 1 ≤ d) {Rc : Nat → Nat → Int32 → Hp → Option (Unit × Hp)} (hR : ∀ (w : Nat) (a0 : Nat) (a1 : Int32) (h : Hp), GM rvV (I_grp_X12_readAtom w) dR [.ref a0, .int a1] h (Rc w a0 a1 h)) {K5 : Nat → Int32 → Hp → Option (Unit × Hp)} (hK5 : ∀ (l0 : Nat) (l1 : Int32) (h : Hp), G rvV I_X12_readSum d 5 [(0, .ref l0), (1, .int l1)] [] h (K5 l0 l1 h)) (l0 : Nat) (l1 : Int32) (h : Hp) : G rvV I_X12_readSum d 5 [(0, .ref l0), (1, .int l1)] [] h (f_X12_readSum_5_b F Rc K5 l0 l1 h) := by
  delta f_X12_readSum_5_b
  refine g_aload_n 0 dX12_readSum_5 rfl ?_
  refine g_bipush (v := 32) dX12_readSum_6 (by decide) ?_
  refine g_callVi (J := I_X12_is) (t := 13) (As := [.int 32]) (rest := []) mjv_X12_is ml_RX12_128 ⟨rfl, by decide, by decide⟩ (Nat.le_trans (by decide) hd1) rfl rfl (Nat.le_of_ble_eq_true rfl) dX12_readSum_8 (T_X12_is F l0 32 h) (fun v3 h4 => ?_)
  refine g_if_ne (tgt := 23) dX12_readSum_11 (by decide) (fun c5 => ?_) (fun c5 => ?_)
  · refine g_aload_n 0 dX12_readSum_14 rfl ?_
    refine g_bipush (v := 33) dX12_readSum_15 (by decide) ?_
    refine g_callVi (J := I_X12_is) (t := 13) (As := [.int 33]) (rest := []) mjv_X12_is ml_RX12_128 ⟨rfl, by decide, by decide⟩ (Nat.le_trans (by decide) hd1) rfl rfl (Nat.le_of_ble_eq_true rfl) dX12_readSum_17 (T_X12_is F l0 33 h4) (fun v6 h7 => ?_)
    refine g_if_eq (tgt := 59) dX12_readSum_20 (by decide) (fun c8 => ?_) (fun c8 => ?_)
    · exact g_vret rfl dX12_readSum_59
    · refine G_lv [0, 1] rfl ?_
      exact T_X12_readSum_23 F hd1 hdR hR hK5 l0 l1 h7
  · refine G_lv [0, 1] rfl ?_
    exact T_X12_readSum_23 F hd1 hdR hR hK5 l0 l1 h4
set_option maxRecDepth 100000 in
noncomputable def f_X12_readSum_5 (F : Nat) (Rc : Nat → Nat → Int32 → Hp → Option (Unit × Hp)) : Nat → Nat → Int32 → Hp → Option (Unit × Hp)
  | 0, _, _, _ => none
  | n + 1, l0, l1, h => f_X12_readSum_5_b F Rc (f_X12_readSum_5 F Rc n) l0 l1 h
set_option maxRecDepth 100000 in
set_option maxHeartbeats 4000000 in
theorem T_X12_readSum_5 (F : Nat) {d dR : Nat} (hd1 : 8 ≤ d) (hdR : dR + 1 ≤ d) {Rc : Nat → Nat → Int32 → Hp → Option (Unit × Hp)} (hR : ∀ (w : Nat) (a0 : Nat) (a1 : Int32) (h : Hp), GM rvV (I_grp_X12_readAtom w) dR [.ref a0, .int a1] h (Rc w a0 a1 h)) : ∀ (n : Nat) (l0 : Nat) (l1 : Int32) (h : Hp), G rvV I_X12_readSum d 5 [(0, .ref l0), (1, .int l1)] [] h (f_X12_readSum_5 F Rc n l0 l1 h) := by
  intro n
  induction n with
  | zero => intros; exact G_none
  | succ n ih => intro l0 l1 h; exact T_X12_readSum_5_b F hd1 hdR hR ih l0 l1 h
set_option maxRecDepth 100000 in
noncomputable def f_X12_readSum_w (F : Nat) (Rc : Nat → Nat → Int32 → Hp → Option (Unit × Hp)) (a0 : Nat) (a1 : Int32) (h : Hp) : Option (Unit × Hp) :=
  cV 13 h a0 (Rc 4 a0 a1 h) fun v1 h2 => f_X12_readSum_5 F Rc F a0 a1 h2
set_option maxRecDepth 100000 in
set_option maxHeartbeats 4000000 in
theorem T_X12_readSum_w (F : Nat) {d dR : Nat} (hd1 : 8 ≤ d) (hdR : dR + 1 ≤ d) {Rc : Nat → Nat → Int32 → Hp → Option (Unit × Hp)} (hR : ∀ (w : Nat) (a0 : Nat) (a1 : Int32) (h : Hp), GM rvV (I_grp_X12_readAtom w) dR [.ref a0, .int a1] h (Rc w a0 a1 h)) (a0 : Nat) (a1 : Int32) (h : Hp) : GM rvV I_X12_readSum d [.ref a0, .int a1] h (f_X12_readSum_w F Rc a0 a1 h) := by
  delta f_X12_readSum_w
  refine GM_of (lv := [(0, .ref a0), (1, .int a1)]) (by decide +kernel) (Nat.le_of_ble_eq_true rfl) rfl ?_
  refine g_aload_n 0 dX12_readSum_0 rfl ?_
  refine g_iload_n 1 dX12_readSum_1 rfl ?_
  refine g_callVv (J := I_X12_readTerm) (t := 13) (As := [.int a1]) (rest := []) mjv_X12_readTerm ml_RX12_169 ⟨rfl, by decide, by decide⟩ hdR rfl rfl (Nat.le_of_ble_eq_true rfl) dX12_readSum_2 (hR 4 a0 a1 h) (fun v1 h2 => ?_)
  refine G_lv [0, 1] rfl ?_
  exact T_X12_readSum_5 F hd1 hdR hR F a0 a1 h2
