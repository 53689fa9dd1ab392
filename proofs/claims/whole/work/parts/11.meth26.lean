/-! L2, by program (wip/whole/gen/gen.py) -/
set_option maxRecDepth 100000 in
noncomputable def f_X12_secret_67 (F : Nat) (K21 : Nat → Int32 → Int32 → Int32 → Hp → Option (Int32 × Hp)) (l0 : Nat) (l1 : Int32) (l3 : Int32) (s0 : Int32) (s1 : Int32) (h : Hp) : Option (Int32 × Hp) :=
  lt (s1 ||| s0) fun x11 => K21 l0 l1 x11 (l3 + 1) h
set_option maxRecDepth 100000 in
set_option maxHeartbeats 4000000 in
theorem T_X12_secret_67 (F : Nat) {K21 : Nat → Int32 → Int32 → Int32 → Hp → Option (Int32 × Hp)} (hK21 : ∀ (l0 : Nat) (l1 : Int32) (l2 : Int32) (l3 : Int32) (h : Hp), G rvI I_X12_secret 6 21 [(0, .ref l0), (1, .int l1), (2, .int l2), (3, .int l3)] [] h (K21 l0 l1 l2 l3 h)) (l0 : Nat) (l1 : Int32) (l3 : Int32) (s0 : Int32) (s1 : Int32) (h : Hp) : G rvI I_X12_secret 6 67 [(0, .ref l0), (1, .int l1), (3, .int l3)] [.int s0, .int s1] h (f_X12_secret_67 F K21 l0 l1 l3 s0 s1 h) := by
  delta f_X12_secret_67
  refine g_ior dX12_secret_67 ?_
  refine G_lti (fun x11 => ?_)
  refine g_istore_n (lv' := [(2, .int x11), (0, .ref l0), (1, .int l1), (3, .int l3)]) dX12_secret_68 (by decide) rfl ?_
  refine g_iinc (v' := l3 + 1) (lv' := [(3, .int (l3 + 1)), (2, .int x11), (0, .ref l0), (1, .int l1)]) 3 dX12_secret_69 rfl rfl (by decide) rfl ?_
  refine g_goto (tgt := 21) dX12_secret_72 (by decide) ?_
  refine G_lv [2, 3, 1, 0] rfl ?_
  exact hK21 l0 l1 x11 (l3 + 1) h
set_option maxRecDepth 100000 in
noncomputable def f_X12_secret_66 (F : Nat) (K21 : Nat → Int32 → Int32 → Int32 → Hp → Option (Int32 × Hp)) (l0 : Nat) (l1 : Int32) (l3 : Int32) (s0 : Int32) (h : Hp) : Option (Int32 × Hp) :=
  f_X12_secret_67 F K21 l0 l1 l3 0 s0 h
set_option maxRecDepth 100000 in
set_option maxHeartbeats 4000000 in
theorem T_X12_secret_66 (F : Nat) {K21 : Nat → Int32 → Int32 → Int32 → Hp → Option (Int32 × Hp)} (hK21 : ∀ (l0 : Nat) (l1 : Int32) (l2 : Int32) (l3 : Int32) (h : Hp), G rvI I_X12_secret 6 21 [(0, .ref l0), (1, .int l1), (2, .int l2), (3, .int l3)] [] h (K21 l0 l1 l2 l3 h)) (l0 : Nat) (l1 : Int32) (l3 : Int32) (s0 : Int32) (h : Hp) : G rvI I_X12_secret 6 66 [(0, .ref l0), (1, .int l1), (3, .int l3)] [.int s0] h (f_X12_secret_66 F K21 l0 l1 l3 s0 h) := by
  delta f_X12_secret_66
  refine g_iconst (v := 0) dX12_secret_66 (by decide) ?_
  refine G_lv [0, 1, 2] rfl ?_
  exact T_X12_secret_67 F hK21 l0 l1 l3 0 s0 h
set_option maxRecDepth 100000 in
noncomputable def f_X12_secret_21_b (F : Nat) (K21 : Nat → Int32 → Int32 → Int32 → Hp → Option (Int32 × Hp)) (l0 : Nat) (l1 : Int32) (l2 : Int32) (l3 : Int32) (h : Hp) : Option (Int32 × Hp) :=
  if 2 ≤ l3 then (some (l2, h)) else (cV 13 h l0 (f_X12_standNow F l0 h) fun v6 h7 => cV 13 h7 l0 (f_X12_mayTell F l0 v6 l3 l1 h7) fun v8 h9 => if v8 = 0 then (f_X12_secret_66 F K21 l0 l1 l3 l2 h9) else (cV 13 h9 l0 (f_X12_standNow F l0 h9) fun v12 h13 => cV 13 h13 l0 (f_X12_toldTo F l0 v12 l3 l1 h13) fun v14 h15 => bd (f_X12_ageIn F v14 (1 - l3) l1 h15) fun v16 h17 => if v16 = 0 then (f_X12_secret_67 F K21 l0 l1 l3 ((1 : Int32) <<< (l3 &&& 31)) l2 h17) else (f_X12_secret_66 F K21 l0 l1 l3 l2 h17)))
set_option maxRecDepth 100000 in
set_option maxHeartbeats 4000000 in
theorem T_X12_secret_21_b (F : Nat) {K21 : Nat → Int32 → Int32 → Int32 → Hp → Option (Int32 × Hp)} (hK21 : ∀ (l0 : Nat) (l1 : Int32) (l2 : Int32) (l3 : Int32) (h : Hp), G rvI I_X12_secret 6 21 [(0, .ref l0), (1, .int l1), (2, .int l2), (3, .int l3)] [] h (K21 l0 l1 l2 l3 h)) (l0 : Nat) (l1 : Int32) (l2 : Int32) (l3 : Int32) (h : Hp) : G rvI I_X12_secret 6 21 [(0, .ref l0), (1, .int l1), (2, .int l2), (3, .int l3)] [] h (f_X12_secret_21_b F K21 l0 l1 l2 l3 h) := by
  delta f_X12_secret_21_b
  refine g_iload_n 3 dX12_secret_21 rfl ?_
  refine g_iconst (v := 2) dX12_secret_22 (by decide) ?_
  refine g_icmp_ge (tgt := 75) dX12_secret_23 (by decide) (fun c5 => ?_) (fun c5 => ?_)
  · refine g_iload_n 2 dX12_secret_75 rfl ?_
    exact g_iret rfl dX12_secret_76
  · refine g_iload_n 2 dX12_secret_26 rfl ?_
    refine g_aload_n 0 dX12_secret_27 rfl ?_
    refine g_aload_n 0 dX12_secret_28 rfl ?_
    refine g_callVi (J := I_X12_standNow) (t := 13) (As := []) (rest := [.ref l0, .int l2]) mjv_X12_standNow ml_RX12_260 ⟨rfl, by decide, by decide⟩ (by decide) rfl rfl (Nat.le_of_ble_eq_true rfl) dX12_secret_29 (T_X12_standNow F l0 h) (fun v6 h7 => ?_)
    refine g_iload_n 3 dX12_secret_32 rfl ?_
    refine g_iload_n 1 dX12_secret_33 rfl ?_
    refine g_callVi (J := I_X12_mayTell) (t := 13) (As := [.int v6, .int l3, .int l1]) (rest := [.int l2]) mjv_X12_mayTell ml_RX12_263 ⟨rfl, by decide, by decide⟩ (by decide) rfl rfl (Nat.le_of_ble_eq_true rfl) dX12_secret_34 (T_X12_mayTell F l0 v6 l3 l1 h7) (fun v8 h9 => ?_)
    refine g_if_eq (tgt := 66) dX12_secret_37 (by decide) (fun c10 => ?_) (fun c10 => ?_)
    · refine G_lv [0, 1, 3] rfl ?_
      exact T_X12_secret_66 F hK21 l0 l1 l3 l2 h9
    · refine g_aload_n 0 dX12_secret_40 rfl ?_
      refine g_aload_n 0 dX12_secret_41 rfl ?_
      refine g_callVi (J := I_X12_standNow) (t := 13) (As := []) (rest := [.ref l0, .int l2]) mjv_X12_standNow ml_RX12_260 ⟨rfl, by decide, by decide⟩ (by decide) rfl rfl (Nat.le_of_ble_eq_true rfl) dX12_secret_42 (T_X12_standNow F l0 h9) (fun v12 h13 => ?_)
      refine g_iload_n 3 dX12_secret_45 rfl ?_
      refine g_iload_n 1 dX12_secret_46 rfl ?_
      refine g_callVi (J := I_X12_toldTo) (t := 13) (As := [.int v12, .int l3, .int l1]) (rest := [.int l2]) mjv_X12_toldTo ml_RX12_266 ⟨rfl, by decide, by decide⟩ (by decide) rfl rfl (Nat.le_of_ble_eq_true rfl) dX12_secret_47 (T_X12_toldTo F l0 v12 l3 l1 h13) (fun v14 h15 => ?_)
      refine g_iconst (v := 1) dX12_secret_50 (by decide) ?_
      refine g_iload_n 3 dX12_secret_51 rfl ?_
      refine g_isub dX12_secret_52 ?_
      refine g_iload_n 1 dX12_secret_53 rfl ?_
      refine g_callSi (J := I_X12_ageIn) (As := [.int v14, .int (1 - l3), .int l1]) (rest := [.int l2]) mjs_X12_ageIn ml_RX12_214 (by decide) rfl rfl (Nat.le_of_ble_eq_true rfl) dX12_secret_54 (T_X12_ageIn F v14 (1 - l3) l1 h15) (fun v16 h17 => ?_)
      refine g_if_ne (tgt := 66) dX12_secret_57 (by decide) (fun c18 => ?_) (fun c18 => ?_)
      · refine g_iconst (v := 1) dX12_secret_60 (by decide) ?_
        refine g_iload_n 3 dX12_secret_61 rfl ?_
        refine g_ishl dX12_secret_62 ?_
        refine g_goto (tgt := 67) dX12_secret_63 (by decide) ?_
        refine G_lv [0, 1, 3] rfl ?_
        exact T_X12_secret_67 F hK21 l0 l1 l3 ((1 : Int32) <<< (l3 &&& 31)) l2 h17
      · refine G_lv [0, 1, 3] rfl ?_
        exact T_X12_secret_66 F hK21 l0 l1 l3 l2 h17
set_option maxRecDepth 100000 in
noncomputable def f_X12_secret_21 (F : Nat) : Nat → Nat → Int32 → Int32 → Int32 → Hp → Option (Int32 × Hp)
  | 0, _, _, _, _, _ => none
  | n + 1, l0, l1, l2, l3, h => f_X12_secret_21_b F (f_X12_secret_21 F n) l0 l1 l2 l3 h
set_option maxRecDepth 100000 in
set_option maxHeartbeats 4000000 in
theorem T_X12_secret_21 (F : Nat) : ∀ (n : Nat) (l0 : Nat) (l1 : Int32) (l2 : Int32) (l3 : Int32) (h : Hp), G rvI I_X12_secret 6 21 [(0, .ref l0), (1, .int l1), (2, .int l2), (3, .int l3)] [] h (f_X12_secret_21 F n l0 l1 l2 l3 h) := by
  intro n
  induction n with
  | zero => intros; exact G_none
  | succ n ih => intro l0 l1 l2 l3 h; exact T_X12_secret_21_b F ih l0 l1 l2 l3 h
set_option maxRecDepth 100000 in
noncomputable def f_X12_secret (F : Nat) (a0 : Nat) (a1 : Int32) (h : Hp) : Option (Int32 × Hp) :=
  pI 13 h a0 0 0 fun h1 => cV 13 h1 a0 (f_X12_isFact F a0 (a1.toInt64) h1) fun v2 h3 => if v2 = 0 then (some ((-2), h3)) else (f_X12_secret_21 F F a0 a1 0 0 h3)
set_option maxRecDepth 100000 in
set_option maxHeartbeats 4000000 in
theorem T_X12_secret (F : Nat) (a0 : Nat) (a1 : Int32) (h : Hp) : GM rvI I_X12_secret 6 [.ref a0, .int a1] h (f_X12_secret F a0 a1 h) := by
  delta f_X12_secret
  refine GM_of (lv := [(0, .ref a0), (1, .int a1)]) (by decide +kernel) (Nat.le_of_ble_eq_true rfl) rfl ?_
  refine g_aload_n 0 dX12_secret_0 rfl ?_
  refine g_iconst (v := 0) dX12_secret_1 (by decide) ?_
  refine g_putI fl_RX12_1 (Or.inl rfl) dX12_secret_2 (fun h1 => ?_)
  refine g_aload_n 0 dX12_secret_5 rfl ?_
  refine g_iload_n 1 dX12_secret_6 rfl ?_
  refine g_i2l dX12_secret_7 ?_
  refine g_callVi (J := I_X12_isFact) (t := 13) (As := [.long (a1.toInt64)]) (rest := []) mjv_X12_isFact ml_RX12_254 ⟨rfl, by decide, by decide⟩ (by decide) rfl rfl (Nat.le_of_ble_eq_true rfl) dX12_secret_8 (T_X12_isFact F a0 (a1.toInt64) h1) (fun v2 h3 => ?_)
  refine g_if_ne (tgt := 17) dX12_secret_11 (by decide) (fun c4 => ?_) (fun c4 => ?_)
  · refine g_bipush (v := (-2)) dX12_secret_14 (by decide) ?_
    exact g_iret rfl dX12_secret_16
  · refine g_iconst (v := 0) dX12_secret_17 (by decide) ?_
    refine g_istore_n (lv' := [(2, .int 0), (0, .ref a0), (1, .int a1)]) dX12_secret_18 (by decide) rfl ?_
    refine g_iconst (v := 0) dX12_secret_19 (by decide) ?_
    refine g_istore_n (lv' := [(3, .int 0), (2, .int 0), (0, .ref a0), (1, .int a1)]) dX12_secret_20 (by decide) rfl ?_
    refine G_lv [2, 3, 1, 0] rfl ?_
    exact T_X12_secret_21 F F a0 a1 0 0 h3
set_option maxRecDepth 100000 in
noncomputable def f_X12_soonest (F : Nat) (a0 : Nat) (a1 : Int32) (a2 : Int32) (h : Hp) : Option (Int32 × Hp) :=
  pI 13 h a0 0 0 fun h1 => cV 13 h1 a0 (f_X12_areSets F a0 a1 a2 h1) fun v2 h3 => if v2 = 0 then (some ((-3), h3)) else (cV 13 h3 a0 (f_X12_goals F a0 a1 a2 h3) fun v5 h6 => cV 13 h6 a0 (f_X12_laysStill F a0 511 0 h6) fun v7 h8 => bd (f_X12_toldFar F v7 h8) fun v9 h10 => some (v9, h10))
set_option maxRecDepth 100000 in
set_option maxHeartbeats 4000000 in
theorem T_X12_soonest (F : Nat) (a0 : Nat) (a1 : Int32) (a2 : Int32) (h : Hp) : GM rvI I_X12_soonest 9 [.ref a0, .int a1, .int a2] h (f_X12_soonest F a0 a1 a2 h) := by
  delta f_X12_soonest
  refine GM_of (lv := [(0, .ref a0), (1, .int a1), (2, .int a2)]) (by decide +kernel) (Nat.le_of_ble_eq_true rfl) rfl ?_
  refine g_aload_n 0 dX12_soonest_0 rfl ?_
  refine g_iconst (v := 0) dX12_soonest_1 (by decide) ?_
  refine g_putI fl_RX12_1 (Or.inl rfl) dX12_soonest_2 (fun h1 => ?_)
  refine g_aload_n 0 dX12_soonest_5 rfl ?_
  refine g_iload_n 1 dX12_soonest_6 rfl ?_
  refine g_iload_n 2 dX12_soonest_7 rfl ?_
  refine g_callVi (J := I_X12_areSets) (t := 13) (As := [.int a1, .int a2]) (rest := []) mjv_X12_areSets ml_RX12_375 ⟨rfl, by decide, by decide⟩ (by decide) rfl rfl (Nat.le_of_ble_eq_true rfl) dX12_soonest_8 (T_X12_areSets F a0 a1 a2 h1) (fun v2 h3 => ?_)
  refine g_if_ne (tgt := 17) dX12_soonest_11 (by decide) (fun c4 => ?_) (fun c4 => ?_)
  · refine g_bipush (v := (-3)) dX12_soonest_14 (by decide) ?_
    exact g_iret rfl dX12_soonest_16
  · refine g_aload_n 0 dX12_soonest_17 rfl ?_
    refine g_iload_n 1 dX12_soonest_18 rfl ?_
    refine g_iload_n 2 dX12_soonest_19 rfl ?_
    refine g_callVv (J := I_X12_goals) (t := 13) (As := [.int a1, .int a2]) (rest := []) mjv_X12_goals ml_RX12_379 ⟨rfl, by decide, by decide⟩ (by decide) rfl rfl (Nat.le_of_ble_eq_true rfl) dX12_soonest_20 (T_X12_goals F a0 a1 a2 h3) (fun v5 h6 => ?_)
    refine g_aload_n 0 dX12_soonest_23 rfl ?_
    refine g_sipush (v := 511) dX12_soonest_24 (by decide) ?_
    refine g_iconst (v := 0) dX12_soonest_27 (by decide) ?_
    refine g_callVi (J := I_X12_laysStill) (t := 13) (As := [.int 511, .int 0]) (rest := []) mjv_X12_laysStill ml_RX12_383 ⟨rfl, by decide, by decide⟩ (by decide) rfl rfl (Nat.le_of_ble_eq_true rfl) dX12_soonest_28 (T_X12_laysStill F a0 511 0 h6) (fun v7 h8 => ?_)
    refine g_callSi (J := I_X12_toldFar) (As := [.int v7]) (rest := []) mjs_X12_toldFar ml_RX12_387 (by decide) rfl rfl (Nat.le_of_ble_eq_true rfl) dX12_soonest_31 (T_X12_toldFar F v7 h8) (fun v9 h10 => ?_)
    exact g_iret rfl dX12_soonest_34
set_option maxRecDepth 100000 in
noncomputable def f_X12_stands_37 (F : Nat) (K16 : Nat → Int32 → Int32 → Hp → Option (Int32 × Hp)) (l0 : Nat) (l2 : Int32) (s0 : Int32) (s1 : Int32) (h : Hp) : Option (Int32 × Hp) :=
  lt (s1 + s0) fun x8 => K16 l0 x8 (l2 + 1) h
set_option maxRecDepth 100000 in
set_option maxHeartbeats 4000000 in
theorem T_X12_stands_37 (F : Nat) {K16 : Nat → Int32 → Int32 → Hp → Option (Int32 × Hp)} (hK16 : ∀ (l0 : Nat) (l1 : Int32) (l2 : Int32) (h : Hp), G rvI I_X12_stands 8 16 [(0, .ref l0), (1, .int l1), (2, .int l2)] [] h (K16 l0 l1 l2 h)) (l0 : Nat) (l2 : Int32) (s0 : Int32) (s1 : Int32) (h : Hp) : G rvI I_X12_stands 8 37 [(0, .ref l0), (2, .int l2)] [.int s0, .int s1] h (f_X12_stands_37 F K16 l0 l2 s0 s1 h) := by
  delta f_X12_stands_37
  refine g_iadd dX12_stands_37 ?_
  refine G_lti (fun x8 => ?_)
  refine g_istore_n (lv' := [(1, .int x8), (0, .ref l0), (2, .int l2)]) dX12_stands_38 (by decide) rfl ?_
  refine g_iinc (v' := l2 + 1) (lv' := [(2, .int (l2 + 1)), (1, .int x8), (0, .ref l0)]) 2 dX12_stands_39 rfl rfl (by decide) rfl ?_
  refine g_goto (tgt := 16) dX12_stands_42 (by decide) ?_
  refine G_lv [2, 1, 0] rfl ?_
  exact hK16 l0 x8 (l2 + 1) h
set_option maxRecDepth 100000 in
noncomputable def f_X12_stands_16_b (F : Nat) (K16 : Nat → Int32 → Int32 → Hp → Option (Int32 × Hp)) (l0 : Nat) (l1 : Int32) (l2 : Int32) (h : Hp) : Option (Int32 × Hp) :=
  if 65536 ≤ l2 then (some (l1, h)) else (gR 13 h l0 21 fun v5 => aI 22 h v5 l2 fun v6 => if v6 = 0 then (f_X12_stands_37 F K16 l0 l2 0 l1 h) else (f_X12_stands_37 F K16 l0 l2 1 l1 h))
set_option maxRecDepth 100000 in
set_option maxHeartbeats 4000000 in
theorem T_X12_stands_16_b (F : Nat) {K16 : Nat → Int32 → Int32 → Hp → Option (Int32 × Hp)} (hK16 : ∀ (l0 : Nat) (l1 : Int32) (l2 : Int32) (h : Hp), G rvI I_X12_stands 8 16 [(0, .ref l0), (1, .int l1), (2, .int l2)] [] h (K16 l0 l1 l2 h)) (l0 : Nat) (l1 : Int32) (l2 : Int32) (h : Hp) : G rvI I_X12_stands 8 16 [(0, .ref l0), (1, .int l1), (2, .int l2)] [] h (f_X12_stands_16_b F K16 l0 l1 l2 h) := by
  delta f_X12_stands_16_b
  refine g_iload_n 2 dX12_stands_16 rfl ?_
  refine g_ldc (v := 65536) dX12_stands_17 co_RX12_39 ?_
  refine g_icmp_ge (tgt := 45) dX12_stands_19 (by decide) (fun c4 => ?_) (fun c4 => ?_)
  · refine g_iload_n 1 dX12_stands_45 rfl ?_
    exact g_iret rfl dX12_stands_46
  · refine g_iload_n 1 dX12_stands_22 rfl ?_
    refine g_aload_n 0 dX12_stands_23 rfl ?_
    refine g_getR fl_RX12_40 rfl dX12_stands_24 (fun v5 => ?_)
    refine g_iload_n 2 dX12_stands_27 rfl ?_
    refine g_zald dX12_stands_28 (fun v6 => ?_)
    refine g_if_eq (tgt := 36) dX12_stands_29 (by decide) (fun c7 => ?_) (fun c7 => ?_)
    · refine g_iconst (v := 0) dX12_stands_36 (by decide) ?_
      refine G_lv [0, 2] rfl ?_
      exact T_X12_stands_37 F hK16 l0 l2 0 l1 h
    · refine g_iconst (v := 1) dX12_stands_32 (by decide) ?_
      refine g_goto (tgt := 37) dX12_stands_33 (by decide) ?_
      refine G_lv [0, 2] rfl ?_
      exact T_X12_stands_37 F hK16 l0 l2 1 l1 h
set_option maxRecDepth 100000 in
noncomputable def f_X12_stands_16 (F : Nat) : Nat → Nat → Int32 → Int32 → Hp → Option (Int32 × Hp)
  | 0, _, _, _, _ => none
  | n + 1, l0, l1, l2, h => f_X12_stands_16_b F (f_X12_stands_16 F n) l0 l1 l2 h
set_option maxRecDepth 100000 in
set_option maxHeartbeats 4000000 in
theorem T_X12_stands_16 (F : Nat) : ∀ (n : Nat) (l0 : Nat) (l1 : Int32) (l2 : Int32) (h : Hp), G rvI I_X12_stands 8 16 [(0, .ref l0), (1, .int l1), (2, .int l2)] [] h (f_X12_stands_16 F n l0 l1 l2 h) := by
  intro n
  induction n with
  | zero => intros; exact G_none
  | succ n ih => intro l0 l1 l2 h; exact T_X12_stands_16_b F ih l0 l1 l2 h
set_option maxRecDepth 100000 in
noncomputable def f_X12_stands (F : Nat) (a0 : Nat) (h : Hp) : Option (Int32 × Hp) :=
  pI 13 h a0 0 0 fun h1 => cV 13 h1 a0 (f_X12_laysReached F a0 511 h1) fun v2 h3 => f_X12_stands_16 F F a0 0 0 h3
set_option maxRecDepth 100000 in
set_option maxHeartbeats 4000000 in
theorem T_X12_stands (F : Nat) (a0 : Nat) (h : Hp) : GM rvI I_X12_stands 8 [.ref a0] h (f_X12_stands F a0 h) := by
  delta f_X12_stands
  refine GM_of (lv := [(0, .ref a0)]) (by decide +kernel) (Nat.le_of_ble_eq_true rfl) rfl ?_
  refine g_aload_n 0 dX12_stands_0 rfl ?_
  refine g_iconst (v := 0) dX12_stands_1 (by decide) ?_
  refine g_putI fl_RX12_1 (Or.inl rfl) dX12_stands_2 (fun h1 => ?_)
  refine g_aload_n 0 dX12_stands_5 rfl ?_
  refine g_sipush (v := 511) dX12_stands_6 (by decide) ?_
  refine g_callVv (J := I_X12_laysReached) (t := 13) (As := [.int 511]) (rest := []) mjv_X12_laysReached ml_RX12_358 ⟨rfl, by decide, by decide⟩ (by decide) rfl rfl (Nat.le_of_ble_eq_true rfl) dX12_stands_9 (T_X12_laysReached F a0 511 h1) (fun v2 h3 => ?_)
  refine g_iconst (v := 0) dX12_stands_12 (by decide) ?_
  refine g_istore_n (lv' := [(1, .int 0), (0, .ref a0)]) dX12_stands_13 (by decide) rfl ?_
  refine g_iconst (v := 0) dX12_stands_14 (by decide) ?_
  refine g_istore_n (lv' := [(2, .int 0), (1, .int 0), (0, .ref a0)]) dX12_stands_15 (by decide) rfl ?_
  refine G_lv [2, 1, 0] rfl ?_
  exact T_X12_stands_16 F F a0 0 0 h3
set_option maxRecDepth 100000 in
noncomputable def f_X12_twinAt (F : Nat) (a0 : Int32) (a1 : Int32) (a2 : Int32) (h : Hp) : Option (Int32 × Hp) :=
  some (((a0 >>> (((a1 - 1) - a2) &&& 31)) &&& 1), h)
set_option maxRecDepth 100000 in
set_option maxHeartbeats 4000000 in
theorem T_X12_twinAt (F : Nat) (a0 : Int32) (a1 : Int32) (a2 : Int32) (h : Hp) : GM rvI I_X12_twinAt 1 [.int a0, .int a1, .int a2] h (f_X12_twinAt F a0 a1 a2 h) := by
  delta f_X12_twinAt
  refine GM_of (lv := [(0, .int a0), (1, .int a1), (2, .int a2)]) (by decide +kernel) (Nat.le_of_ble_eq_true rfl) rfl ?_
  refine g_iload_n 0 dX12_twinAt_0 rfl ?_
  refine g_iload_n 1 dX12_twinAt_1 rfl ?_
  refine g_iconst (v := 1) dX12_twinAt_2 (by decide) ?_
  refine g_isub dX12_twinAt_3 ?_
  refine g_iload_n 2 dX12_twinAt_4 rfl ?_
  refine g_isub dX12_twinAt_5 ?_
  refine g_ishr dX12_twinAt_6 ?_
  refine g_iconst (v := 1) dX12_twinAt_7 (by decide) ?_
  refine g_iand dX12_twinAt_8 ?_
  exact g_iret rfl dX12_twinAt_9
set_option maxRecDepth 100000 in
noncomputable def f_X12_isTold_9_b (F : Nat) (K9 : Nat → Int32 → Int32 → Int32 → Int32 → Int32 → Int32 → Hp → Option (Int32 × Hp)) (l0 : Nat) (l1 : Int32) (l2 : Int32) (l3 : Int32) (l4 : Int32) (l5 : Int32) (l6 : Int32) (h : Hp) : Option (Int32 × Hp) :=
  gR 13 h l0 33 fun v3 => aI 20 h v3 l1 fun v4 => if v4 ≤ l6 then (cV 13 h l0 (f_X12_doesAll F l0 l5 0 h) fun v6 h7 => if v6 = l3 then (cV 13 h7 l0 (f_X12_doesAll F l0 l5 1 h7) fun v9 h10 => if v9 = l4 then (some (1, h10)) else (some (0, h10))) else (some (0, h7))) else (gR 13 h l0 34 fun v12 => aL h v12 ((40 * l1) + l6) fun v13 => lt ((v13 : Int64).toInt32) fun x14 => gR 13 h l0 33 fun v15 => aI 20 h v15 l1 fun v16 => bd (f_X12_twinAt F l2 v16 l6 h) fun v17 h18 => cV 13 h18 l0 (f_X12_mayTell F l0 l5 v17 x14 h18) fun v19 h20 => if v19 = 0 then (some (0, h20)) else (cV 13 h20 l0 (f_X12_toldTo F l0 l5 v17 x14 h20) fun v22 h23 => bd (f_X12_dayTo F v22 h23) fun v24 h25 => K9 l0 l1 l2 l3 l4 v24 (l6 + 1) h25))
set_option maxRecDepth 100000 in
set_option maxHeartbeats 4000000 in
theorem T_X12_isTold_9_b (F : Nat) {K9 : Nat → Int32 → Int32 → Int32 → Int32 → Int32 → Int32 → Hp → Option (Int32 × Hp)} (hK9 : ∀ (l0 : Nat) (l1 : Int32) (l2 : Int32) (l3 : Int32) (l4 : Int32) (l5 : Int32) (l6 : Int32) (h : Hp), G rvI I_X12_isTold 6 9 [(0, .ref l0), (1, .int l1), (2, .int l2), (3, .int l3), (4, .int l4), (5, .int l5), (6, .int l6)] [] h (K9 l0 l1 l2 l3 l4 l5 l6 h)) (l0 : Nat) (l1 : Int32) (l2 : Int32) (l3 : Int32) (l4 : Int32) (l5 : Int32) (l6 : Int32) (h : Hp) : G rvI I_X12_isTold 6 9 [(0, .ref l0), (1, .int l1), (2, .int l2), (3, .int l3), (4, .int l4), (5, .int l5), (6, .int l6)] [] h (f_X12_isTold_9_b F K9 l0 l1 l2 l3 l4 l5 l6 h) := by
  delta f_X12_isTold_9_b
  refine g_iload 6 dX12_isTold_9 rfl ?_
  refine g_aload_n 0 dX12_isTold_11 rfl ?_
  refine g_getR fl_RX12_66 rfl dX12_isTold_12 (fun v3 => ?_)
  refine g_iload_n 1 dX12_isTold_15 rfl ?_
  refine g_iald dX12_isTold_16 (fun v4 => ?_)
  refine g_icmp_ge (tgt := 85) dX12_isTold_17 (by decide) (fun c5 => ?_) (fun c5 => ?_)
  · refine g_aload_n 0 dX12_isTold_85 rfl ?_
    refine g_iload 5 dX12_isTold_86 rfl ?_
    refine g_iconst (v := 0) dX12_isTold_88 (by decide) ?_
    refine g_callVi (J := I_X12_doesAll) (t := 13) (As := [.int l5, .int 0]) (rest := []) mjv_X12_doesAll ml_RX12_244 ⟨rfl, by decide, by decide⟩ (by decide) rfl rfl (Nat.le_of_ble_eq_true rfl) dX12_isTold_89 (T_X12_doesAll F l0 l5 0 h) (fun v6 h7 => ?_)
    refine g_iload_n 3 dX12_isTold_92 rfl ?_
    refine g_icmp_ne (tgt := 112) dX12_isTold_93 (by decide) (fun c8 => ?_) (fun c8 => ?_)
    · refine g_aload_n 0 dX12_isTold_96 rfl ?_
      refine g_iload 5 dX12_isTold_97 rfl ?_
      refine g_iconst (v := 1) dX12_isTold_99 (by decide) ?_
      refine g_callVi (J := I_X12_doesAll) (t := 13) (As := [.int l5, .int 1]) (rest := []) mjv_X12_doesAll ml_RX12_244 ⟨rfl, by decide, by decide⟩ (by decide) rfl rfl (Nat.le_of_ble_eq_true rfl) dX12_isTold_100 (T_X12_doesAll F l0 l5 1 h7) (fun v9 h10 => ?_)
      refine g_iload 4 dX12_isTold_103 rfl ?_
      refine g_icmp_ne (tgt := 112) dX12_isTold_105 (by decide) (fun c11 => ?_) (fun c11 => ?_)
      · refine g_iconst (v := 1) dX12_isTold_108 (by decide) ?_
        refine g_goto (tgt := 113) dX12_isTold_109 (by decide) ?_
        exact g_zret (ty := .boolean) rfl rfl dX12_isTold_113
      · refine g_iconst (v := 0) dX12_isTold_112 (by decide) ?_
        exact g_zret (ty := .boolean) rfl rfl dX12_isTold_113
    · refine g_iconst (v := 0) dX12_isTold_112 (by decide) ?_
      exact g_zret (ty := .boolean) rfl rfl dX12_isTold_113
  · refine g_aload_n 0 dX12_isTold_20 rfl ?_
    refine g_getR fl_RX12_69 rfl dX12_isTold_21 (fun v12 => ?_)
    refine g_bipush (v := 40) dX12_isTold_24 (by decide) ?_
    refine g_iload_n 1 dX12_isTold_26 rfl ?_
    refine g_imul dX12_isTold_27 ?_
    refine g_iload 6 dX12_isTold_28 rfl ?_
    refine g_iadd dX12_isTold_30 ?_
    refine g_lald dX12_isTold_31 (fun v13 => ?_)
    refine g_l2i dX12_isTold_32 ?_
    refine G_lti (fun x14 => ?_)
    refine g_istore (lv' := [(7, .int x14), (0, .ref l0), (1, .int l1), (2, .int l2), (3, .int l3), (4, .int l4), (5, .int l5), (6, .int l6)]) dX12_isTold_33 (by decide) rfl ?_
    refine g_iload_n 3 dX12_isTold_35 rfl ?_
    refine g_aload_n 1 dX12_isTold_36 rfl ?_
    refine g_getR fl_RX12_66 rfl dX12_isTold_37 (fun v15 => ?_)
    refine g_iload_n 2 dX12_isTold_40 rfl ?_
    refine g_iald dX12_isTold_41 (fun v16 => ?_)
    refine g_iload 7 dX12_isTold_42 rfl ?_
    refine g_callSi (J := I_X12_twinAt) (As := [.int l2, .int v16, .int l6]) (rest := []) mjs_X12_twinAt ml_RX12_403 (by decide) rfl rfl (Nat.le_of_ble_eq_true rfl) dX12_isTold_44 (T_X12_twinAt F l2 v16 l6 h) (fun v17 h18 => ?_)
    refine g_istore (lv' := [(8, .int v17), (7, .int x14), (0, .ref l0), (1, .int l1), (2, .int l2), (3, .int l3), (4, .int l4), (5, .int l5), (6, .int l6)]) dX12_isTold_47 (by decide) rfl ?_
    refine g_aload_n 2 dX12_isTold_49 rfl ?_
    refine g_iload 7 dX12_isTold_50 rfl ?_
    refine g_iload 0 dX12_isTold_52 rfl ?_
    refine g_iload 1 dX12_isTold_54 rfl ?_
    refine g_callVi (J := I_X12_mayTell) (t := 13) (As := [.int l5, .int v17, .int x14]) (rest := []) mjv_X12_mayTell ml_RX12_263 ⟨rfl, by decide, by decide⟩ (by decide) rfl rfl (Nat.le_of_ble_eq_true rfl) dX12_isTold_56 (T_X12_mayTell F l0 l5 v17 x14 h18) (fun v19 h20 => ?_)
    refine g_if_ne (tgt := 64) dX12_isTold_59 (by decide) (fun c21 => ?_) (fun c21 => ?_)
    · refine g_iconst (v := 0) dX12_isTold_62 (by decide) ?_
      exact g_zret (ty := .boolean) rfl rfl dX12_isTold_63
    · refine g_aload_n 2 dX12_isTold_64 rfl ?_
      refine g_iload 7 dX12_isTold_65 rfl ?_
      refine g_iload 0 dX12_isTold_67 rfl ?_
      refine g_iload 1 dX12_isTold_69 rfl ?_
      refine g_callVi (J := I_X12_toldTo) (t := 13) (As := [.int l5, .int v17, .int x14]) (rest := []) mjv_X12_toldTo ml_RX12_266 ⟨rfl, by decide, by decide⟩ (by decide) rfl rfl (Nat.le_of_ble_eq_true rfl) dX12_isTold_71 (T_X12_toldTo F l0 l5 v17 x14 h20) (fun v22 h23 => ?_)
      refine g_callSi (J := I_X12_dayTo) (As := [.int v22]) (rest := []) mjs_X12_dayTo ml_RX12_284 (by decide) rfl rfl (Nat.le_of_ble_eq_true rfl) dX12_isTold_74 (T_X12_dayTo F v22 h23) (fun v24 h25 => ?_)
      refine g_istore (lv' := [(5, .int v24), (8, .int v17), (7, .int x14), (0, .ref l0), (1, .int l1), (2, .int l2), (3, .int l3), (4, .int l4), (6, .int l6)]) dX12_isTold_77 (by decide) rfl ?_
      refine g_iinc (v' := l6 + 1) (lv' := [(6, .int (l6 + 1)), (5, .int v24), (8, .int v17), (7, .int x14), (0, .ref l0), (1, .int l1), (2, .int l2), (3, .int l3), (4, .int l4)]) 8 dX12_isTold_79 rfl rfl (by decide) rfl ?_
      refine g_goto (tgt := 9) dX12_isTold_82 (by decide) ?_
      refine G_lv [4, 5, 6, 7, 8, 1, 0] rfl ?_
      exact hK9 l0 l1 l2 l3 l4 v24 (l6 + 1) h25
set_option maxRecDepth 100000 in
noncomputable def f_X12_isTold_9 (F : Nat) : Nat → Nat → Int32 → Int32 → Int32 → Int32 → Int32 → Int32 → Hp → Option (Int32 × Hp)
  | 0, _, _, _, _, _, _, _, _ => none
  | n + 1, l0, l1, l2, l3, l4, l5, l6, h => f_X12_isTold_9_b F (f_X12_isTold_9 F n) l0 l1 l2 l3 l4 l5 l6 h
set_option maxRecDepth 100000 in
set_option maxHeartbeats 4000000 in
theorem T_X12_isTold_9 (F : Nat) : ∀ (n : Nat) (l0 : Nat) (l1 : Int32) (l2 : Int32) (l3 : Int32) (l4 : Int32) (l5 : Int32) (l6 : Int32) (h : Hp), G rvI I_X12_isTold 6 9 [(0, .ref l0), (1, .int l1), (2, .int l2), (3, .int l3), (4, .int l4), (5, .int l5), (6, .int l6)] [] h (f_X12_isTold_9 F n l0 l1 l2 l3 l4 l5 l6 h) := by
  intro n
  induction n with
  | zero => intros; exact G_none
  | succ n ih => intro l0 l1 l2 l3 l4 l5 l6 h; exact T_X12_isTold_9_b F ih l0 l1 l2 l3 l4 l5 l6 h
set_option maxRecDepth 100000 in
noncomputable def f_X12_isTold (F : Nat) (a0 : Nat) (a1 : Int32) (a2 : Int32) (a3 : Int32) (a4 : Int32) (h : Hp) : Option (Int32 × Hp) :=
  cV 13 h a0 (f_X12_standNow F a0 h) fun v1 h2 => f_X12_isTold_9 F F a0 a1 a2 a3 a4 v1 0 h2
set_option maxRecDepth 100000 in
set_option maxHeartbeats 4000000 in
theorem T_X12_isTold (F : Nat) (a0 : Nat) (a1 : Int32) (a2 : Int32) (a3 : Int32) (a4 : Int32) (h : Hp) : GM rvI I_X12_isTold 6 [.ref a0, .int a1, .int a2, .int a3, .int a4] h (f_X12_isTold F a0 a1 a2 a3 a4 h) := by
  delta f_X12_isTold
  refine GM_of (lv := [(0, .ref a0), (1, .int a1), (2, .int a2), (3, .int a3), (4, .int a4)]) (by decide +kernel) (Nat.le_of_ble_eq_true rfl) rfl ?_
  refine g_aload_n 0 dX12_isTold_0 rfl ?_
  refine g_callVi (J := I_X12_standNow) (t := 13) (As := []) (rest := []) mjv_X12_standNow ml_RX12_260 ⟨rfl, by decide, by decide⟩ (by decide) rfl rfl (Nat.le_of_ble_eq_true rfl) dX12_isTold_1 (T_X12_standNow F a0 h) (fun v1 h2 => ?_)
  refine g_istore (lv' := [(5, .int v1), (0, .ref a0), (1, .int a1), (2, .int a2), (3, .int a3), (4, .int a4)]) dX12_isTold_4 (by decide) rfl ?_
  refine g_iconst (v := 0) dX12_isTold_6 (by decide) ?_
  refine g_istore (lv' := [(6, .int 0), (5, .int v1), (0, .ref a0), (1, .int a1), (2, .int a2), (3, .int a3), (4, .int a4)]) dX12_isTold_7 (by decide) rfl ?_
  refine G_lv [2, 3, 4, 5, 6, 1, 0] rfl ?_
  exact T_X12_isTold_9 F F a0 a1 a2 a3 a4 v1 0 h2
set_option maxRecDepth 100000 in
noncomputable def f_X12_noTold_38_b (F : Nat) (K38 : Nat → Int32 → Int32 → Int32 → Int32 → Hp → Option (Int32 × Hp)) (l0 : Nat) (l1 : Int32) (l2 : Int32) (l3 : Int32) (l5 : Int32) (h : Hp) : Option (Int32 × Hp) :=
  gR 13 h l0 33 fun v9 => aI 20 h v9 l1 fun v10 => if v10 ≤ l5 then (cV 13 h l0 (f_X12_areSets F l0 l2 l3 h) fun v12 h13 => if v12 = 0 then (some ((-3), h13)) else (some (0, h13))) else (gR 13 h l0 34 fun v15 => aL h v15 ((40 * l1) + l5) fun v16 => cV 13 h l0 (f_X12_isFact F l0 v16 h) fun v17 h18 => if v17 = 0 then (some ((-3), h18)) else (K38 l0 l1 l2 l3 (l5 + 1) h18))
set_option maxRecDepth 100000 in
set_option maxHeartbeats 4000000 in
theorem T_X12_noTold_38_b (F : Nat) {K38 : Nat → Int32 → Int32 → Int32 → Int32 → Hp → Option (Int32 × Hp)} (hK38 : ∀ (l0 : Nat) (l1 : Int32) (l2 : Int32) (l3 : Int32) (l5 : Int32) (h : Hp), G rvI I_X12_noTold 3 38 [(0, .ref l0), (1, .int l1), (2, .int l2), (3, .int l3), (5, .int l5)] [] h (K38 l0 l1 l2 l3 l5 h)) (l0 : Nat) (l1 : Int32) (l2 : Int32) (l3 : Int32) (l5 : Int32) (h : Hp) : G rvI I_X12_noTold 3 38 [(0, .ref l0), (1, .int l1), (2, .int l2), (3, .int l3), (5, .int l5)] [] h (f_X12_noTold_38_b F K38 l0 l1 l2 l3 l5 h) := by
  delta f_X12_noTold_38_b
  refine g_iload 4 dX12_noTold_38 rfl ?_
  refine g_aload_n 0 dX12_noTold_40 rfl ?_
  refine g_getR fl_RX12_66 rfl dX12_noTold_41 (fun v9 => ?_)
  refine g_iload_n 1 dX12_noTold_44 rfl ?_
  refine g_iald dX12_noTold_45 (fun v10 => ?_)
  refine g_icmp_ge (tgt := 77) dX12_noTold_46 (by decide) (fun c11 => ?_) (fun c11 => ?_)
  · refine g_aload_n 0 dX12_noTold_77 rfl ?_
    refine g_iload_n 2 dX12_noTold_78 rfl ?_
    refine g_iload_n 3 dX12_noTold_79 rfl ?_
    refine g_callVi (J := I_X12_areSets) (t := 13) (As := [.int l2, .int l3]) (rest := []) mjv_X12_areSets ml_RX12_375 ⟨rfl, by decide, by decide⟩ (by decide) rfl rfl (Nat.le_of_ble_eq_true rfl) dX12_noTold_80 (T_X12_areSets F l0 l2 l3 h) (fun v12 h13 => ?_)
    refine g_if_eq (tgt := 90) dX12_noTold_83 (by decide) (fun c14 => ?_) (fun c14 => ?_)
    · refine g_bipush (v := (-3)) dX12_noTold_90 (by decide) ?_
      exact g_iret rfl dX12_noTold_92
    · refine g_iconst (v := 0) dX12_noTold_86 (by decide) ?_
      refine g_goto (tgt := 92) dX12_noTold_87 (by decide) ?_
      exact g_iret rfl dX12_noTold_92
  · refine g_aload_n 0 dX12_noTold_49 rfl ?_
    refine g_aload_n 0 dX12_noTold_50 rfl ?_
    refine g_getR fl_RX12_69 rfl dX12_noTold_51 (fun v15 => ?_)
    refine g_bipush (v := 40) dX12_noTold_54 (by decide) ?_
    refine g_iload_n 1 dX12_noTold_56 rfl ?_
    refine g_imul dX12_noTold_57 ?_
    refine g_iload 4 dX12_noTold_58 rfl ?_
    refine g_iadd dX12_noTold_60 ?_
    refine g_lald dX12_noTold_61 (fun v16 => ?_)
    refine g_callVi (J := I_X12_isFact) (t := 13) (As := [.long v16]) (rest := []) mjv_X12_isFact ml_RX12_254 ⟨rfl, by decide, by decide⟩ (by decide) rfl rfl (Nat.le_of_ble_eq_true rfl) dX12_noTold_62 (T_X12_isFact F l0 v16 h) (fun v17 h18 => ?_)
    refine g_if_ne (tgt := 71) dX12_noTold_65 (by decide) (fun c19 => ?_) (fun c19 => ?_)
    · refine g_bipush (v := (-3)) dX12_noTold_68 (by decide) ?_
      exact g_iret rfl dX12_noTold_70
    · refine g_iinc (v' := l5 + 1) (lv' := [(5, .int (l5 + 1)), (0, .ref l0), (1, .int l1), (2, .int l2), (3, .int l3)]) 4 dX12_noTold_71 rfl rfl (by decide) rfl ?_
      refine g_goto (tgt := 38) dX12_noTold_74 (by decide) ?_
      refine G_lv [1, 2, 3, 4, 0] rfl ?_
      exact hK38 l0 l1 l2 l3 (l5 + 1) h18
set_option maxRecDepth 100000 in
noncomputable def f_X12_noTold_38 (F : Nat) : Nat → Nat → Int32 → Int32 → Int32 → Int32 → Hp → Option (Int32 × Hp)
  | 0, _, _, _, _, _, _ => none
  | n + 1, l0, l1, l2, l3, l5, h => f_X12_noTold_38_b F (f_X12_noTold_38 F n) l0 l1 l2 l3 l5 h
set_option maxRecDepth 100000 in
set_option maxHeartbeats 4000000 in
theorem T_X12_noTold_38 (F : Nat) : ∀ (n : Nat) (l0 : Nat) (l1 : Int32) (l2 : Int32) (l3 : Int32) (l5 : Int32) (h : Hp), G rvI I_X12_noTold 3 38 [(0, .ref l0), (1, .int l1), (2, .int l2), (3, .int l3), (5, .int l5)] [] h (f_X12_noTold_38 F n l0 l1 l2 l3 l5 h) := by
  intro n
  induction n with
  | zero => intros; exact G_none
  | succ n ih => intro l0 l1 l2 l3 l5 h; exact T_X12_noTold_38_b F ih l0 l1 l2 l3 l5 h
set_option maxRecDepth 100000 in
noncomputable def f_X12_noTold (F : Nat) (a0 : Nat) (a1 : Int32) (a2 : Int32) (a3 : Int32) (h : Hp) : Option (Int32 × Hp) :=
  cV 13 h a0 (f_X12_noTray F a0 a1 h) fun v1 h2 => if v1 = 0 then (gR 13 h2 a0 33 fun v4 => aI 20 h2 v4 a1 fun v5 => bd (f_X12_within F (v5.toInt64) 1 10 h2) fun v6 h7 => if v6 = 0 then (some ((-4), h7)) else (f_X12_noTold_38 F F a0 a1 a2 a3 0 h7)) else (some (v1, h2))
set_option maxRecDepth 100000 in
set_option maxHeartbeats 4000000 in
theorem T_X12_noTold (F : Nat) (a0 : Nat) (a1 : Int32) (a2 : Int32) (a3 : Int32) (h : Hp) : GM rvI I_X12_noTold 3 [.ref a0, .int a1, .int a2, .int a3] h (f_X12_noTold F a0 a1 a2 a3 h) := by
  delta f_X12_noTold
  refine GM_of (lv := [(0, .ref a0), (1, .int a1), (2, .int a2), (3, .int a3)]) (by decide +kernel) (Nat.le_of_ble_eq_true rfl) rfl ?_
  refine g_aload_n 0 dX12_noTold_0 rfl ?_
  refine g_iload_n 1 dX12_noTold_1 rfl ?_
  refine g_callVi (J := I_X12_noTray) (t := 13) (As := [.int a1]) (rest := []) mjv_X12_noTray ml_RX12_321 ⟨rfl, by decide, by decide⟩ (by decide) rfl rfl (Nat.le_of_ble_eq_true rfl) dX12_noTold_2 (T_X12_noTray F a0 a1 h) (fun v1 h2 => ?_)
  refine g_istore (lv' := [(4, .int v1), (0, .ref a0), (1, .int a1), (2, .int a2), (3, .int a3)]) dX12_noTold_5 (by decide) rfl ?_
  refine g_iload 0 dX12_noTold_7 rfl ?_
  refine g_if_eq (tgt := 15) dX12_noTold_9 (by decide) (fun c3 => ?_) (fun c3 => ?_)
  · refine g_aload_n 1 dX12_noTold_15 rfl ?_
    refine g_getR fl_RX12_66 rfl dX12_noTold_16 (fun v4 => ?_)
    refine g_iload_n 2 dX12_noTold_19 rfl ?_
    refine g_iald dX12_noTold_20 (fun v5 => ?_)
    refine g_i2l dX12_noTold_21 ?_
    refine g_lconst (v := 1) dX12_noTold_22 (by decide) ?_
    refine g_ldc2 (v := 10) dX12_noTold_23 cl_RX12_295 ?_
    refine g_callSi (J := I_X12_within) (As := [.long (v5.toInt64), .long 1, .long 10]) (rest := []) mjs_X12_within ml_RX12_138 (by decide) rfl rfl (Nat.le_of_ble_eq_true rfl) dX12_noTold_26 (T_X12_within F (v5.toInt64) 1 10 h2) (fun v6 h7 => ?_)
    refine g_if_ne (tgt := 35) dX12_noTold_29 (by decide) (fun c8 => ?_) (fun c8 => ?_)
    · refine g_bipush (v := (-4)) dX12_noTold_32 (by decide) ?_
      exact g_iret rfl dX12_noTold_34
    · refine g_iconst (v := 0) dX12_noTold_35 (by decide) ?_
      refine g_istore (lv' := [(5, .int 0), (4, .int v1), (0, .ref a0), (1, .int a1), (2, .int a2), (3, .int a3)]) dX12_noTold_36 (by decide) rfl ?_
      refine G_lv [2, 3, 4, 5, 0] rfl ?_
      exact T_X12_noTold_38 F F a0 a1 a2 a3 0 h7
  · refine g_iload 0 dX12_noTold_12 rfl ?_
    exact g_iret rfl dX12_noTold_14
set_option maxRecDepth 100000 in
noncomputable def f_X12_surely_144 (F : Nat) (K64 : Nat → Int32 → Int32 → Int32 → Int32 → Int32 → Int32 → Int32 → Hp → Option (Int32 × Hp)) (l0 : Nat) (l1 : Int32) (l2 : Int32) (l3 : Int32) (l4 : Int32) (l6 : Int32) (l7 : Int32) (l8 : Int32) (h : Hp) : Option (Int32 × Hp) :=
  K64 l0 l1 l2 l3 l4 l6 l7 (l8 + 1) h
set_option maxRecDepth 100000 in
set_option maxHeartbeats 4000000 in
theorem T_X12_surely_144 (F : Nat) {K64 : Nat → Int32 → Int32 → Int32 → Int32 → Int32 → Int32 → Int32 → Hp → Option (Int32 × Hp)} (hK64 : ∀ (l0 : Nat) (l1 : Int32) (l2 : Int32) (l3 : Int32) (l4 : Int32) (l6 : Int32) (l7 : Int32) (l8 : Int32) (h : Hp), G rvI I_X12_surely 7 64 [(0, .ref l0), (1, .int l1), (2, .int l2), (3, .int l3), (4, .int l4), (6, .int l6), (7, .int l7), (8, .int l8)] [] h (K64 l0 l1 l2 l3 l4 l6 l7 l8 h)) (l0 : Nat) (l1 : Int32) (l2 : Int32) (l3 : Int32) (l4 : Int32) (l6 : Int32) (l7 : Int32) (l8 : Int32) (h : Hp) : G rvI I_X12_surely 7 144 [(0, .ref l0), (1, .int l1), (2, .int l2), (3, .int l3), (4, .int l4), (6, .int l6), (7, .int l7), (8, .int l8)] [] h (f_X12_surely_144 F K64 l0 l1 l2 l3 l4 l6 l7 l8 h) := by
  delta f_X12_surely_144
  refine g_iinc (v' := l8 + 1) (lv' := [(8, .int (l8 + 1)), (0, .ref l0), (1, .int l1), (2, .int l2), (3, .int l3), (4, .int l4), (6, .int l6), (7, .int l7)]) 7 dX12_surely_144 rfl rfl (by decide) rfl ?_
  refine g_goto (tgt := 64) dX12_surely_147 (by decide) ?_
  refine G_lv [1, 2, 3, 4, 5, 6, 7, 0] rfl ?_
  exact hK64 l0 l1 l2 l3 l4 l6 l7 (l8 + 1) h
set_option maxRecDepth 100000 in
noncomputable def f_X12_surely_138 (F : Nat) (K64 : Nat → Int32 → Int32 → Int32 → Int32 → Int32 → Int32 → Int32 → Hp → Option (Int32 × Hp)) (K98 : Nat → Int32 → Int32 → Int32 → Int32 → Int32 → Int32 → Int32 → Int32 → Hp → Option (Int32 × Hp)) (l0 : Nat) (l1 : Int32) (l2 : Int32) (l3 : Int32) (l4 : Int32) (l6 : Int32) (l7 : Int32) (l8 : Int32) (l9 : Int32) (h : Hp) : Option (Int32 × Hp) :=
  K98 l0 l1 l2 l3 l4 l6 l7 l8 (l9 + 1) h
set_option maxRecDepth 100000 in
set_option maxHeartbeats 4000000 in
theorem T_X12_surely_138 (F : Nat) {K64 : Nat → Int32 → Int32 → Int32 → Int32 → Int32 → Int32 → Int32 → Hp → Option (Int32 × Hp)} (hK64 : ∀ (l0 : Nat) (l1 : Int32) (l2 : Int32) (l3 : Int32) (l4 : Int32) (l6 : Int32) (l7 : Int32) (l8 : Int32) (h : Hp), G rvI I_X12_surely 7 64 [(0, .ref l0), (1, .int l1), (2, .int l2), (3, .int l3), (4, .int l4), (6, .int l6), (7, .int l7), (8, .int l8)] [] h (K64 l0 l1 l2 l3 l4 l6 l7 l8 h)) {K98 : Nat → Int32 → Int32 → Int32 → Int32 → Int32 → Int32 → Int32 → Int32 → Hp → Option (Int32 × Hp)} (hK98 : ∀ (l0 : Nat) (l1 : Int32) (l2 : Int32) (l3 : Int32) (l4 : Int32) (l6 : Int32) (l7 : Int32) (l8 : Int32) (l9 : Int32) (h : Hp), G rvI I_X12_surely 7 98 [(0, .ref l0), (1, .int l1), (2, .int l2), (3, .int l3), (4, .int l4), (6, .int l6), (7, .int l7), (8, .int l8), (9, .int l9)] [] h (K98 l0 l1 l2 l3 l4 l6 l7 l8 l9 h)) (l0 : Nat) (l1 : Int32) (l2 : Int32) (l3 : Int32) (l4 : Int32) (l6 : Int32) (l7 : Int32) (l8 : Int32) (l9 : Int32) (h : Hp) : G rvI I_X12_surely 7 138 [(0, .ref l0), (1, .int l1), (2, .int l2), (3, .int l3), (4, .int l4), (6, .int l6), (7, .int l7), (8, .int l8), (9, .int l9)] [] h (f_X12_surely_138 F K64 K98 l0 l1 l2 l3 l4 l6 l7 l8 l9 h) := by
  delta f_X12_surely_138
  refine g_iinc (v' := l9 + 1) (lv' := [(9, .int (l9 + 1)), (0, .ref l0), (1, .int l1), (2, .int l2), (3, .int l3), (4, .int l4), (6, .int l6), (7, .int l7), (8, .int l8)]) 8 dX12_surely_138 rfl rfl (by decide) rfl ?_
  refine g_goto (tgt := 98) dX12_surely_141 (by decide) ?_
  refine G_lv [1, 2, 3, 4, 5, 6, 7, 8, 0] rfl ?_
  exact hK98 l0 l1 l2 l3 l4 l6 l7 l8 (l9 + 1) h
set_option maxRecDepth 100000 in
noncomputable def f_X12_surely_98_b (F : Nat) (K64 : Nat → Int32 → Int32 → Int32 → Int32 → Int32 → Int32 → Int32 → Hp → Option (Int32 × Hp)) (K98 : Nat → Int32 → Int32 → Int32 → Int32 → Int32 → Int32 → Int32 → Int32 → Hp → Option (Int32 × Hp)) (l0 : Nat) (l1 : Int32) (l2 : Int32) (l3 : Int32) (l4 : Int32) (l6 : Int32) (l7 : Int32) (l8 : Int32) (l9 : Int32) (h : Hp) : Option (Int32 × Hp) :=
  gR 13 h l0 33 fun v21 => aI 20 h v21 l1 fun v22 => if v22 ≤ l9 then (f_X12_surely_144 F K64 l0 l1 l2 l3 l4 l6 l7 l8 h) else (gR 13 h l0 33 fun v24 => aI 20 h v24 l1 fun v25 => bd (f_X12_twinAt F l8 v25 l9 h) fun v26 h27 => if v26 = l4 then (f_X12_surely_138 F K64 K98 l0 l1 l2 l3 l4 l6 l7 l8 l9 h27) else (lt (l6 &&& (((1 : Int32) <<< (l9 &&& 31)) ^^^ (-1))) fun x29 => f_X12_surely_138 F K64 K98 l0 l1 l2 l3 l4 x29 l7 l8 l9 h27))
set_option maxRecDepth 100000 in
set_option maxHeartbeats 4000000 in
theorem T_X12_surely_98_b (F : Nat) {K64 : Nat → Int32 → Int32 → Int32 → Int32 → Int32 → Int32 → Int32 → Hp → Option (Int32 × Hp)} (hK64 : ∀ (l0 : Nat) (l1 : Int32) (l2 : Int32) (l3 : Int32) (l4 : Int32) (l6 : Int32) (l7 : Int32) (l8 : Int32) (h : Hp), G rvI I_X12_surely 7 64 [(0, .ref l0), (1, .int l1), (2, .int l2), (3, .int l3), (4, .int l4), (6, .int l6), (7, .int l7), (8, .int l8)] [] h (K64 l0 l1 l2 l3 l4 l6 l7 l8 h)) {K98 : Nat → Int32 → Int32 → Int32 → Int32 → Int32 → Int32 → Int32 → Int32 → Hp → Option (Int32 × Hp)} (hK98 : ∀ (l0 : Nat) (l1 : Int32) (l2 : Int32) (l3 : Int32) (l4 : Int32) (l6 : Int32) (l7 : Int32) (l8 : Int32) (l9 : Int32) (h : Hp), G rvI I_X12_surely 7 98 [(0, .ref l0), (1, .int l1), (2, .int l2), (3, .int l3), (4, .int l4), (6, .int l6), (7, .int l7), (8, .int l8), (9, .int l9)] [] h (K98 l0 l1 l2 l3 l4 l6 l7 l8 l9 h)) (l0 : Nat) (l1 : Int32) (l2 : Int32) (l3 : Int32) (l4 : Int32) (l6 : Int32) (l7 : Int32) (l8 : Int32) (l9 : Int32) (h : Hp) : G rvI I_X12_surely 7 98 [(0, .ref l0), (1, .int l1), (2, .int l2), (3, .int l3), (4, .int l4), (6, .int l6), (7, .int l7), (8, .int l8), (9, .int l9)] [] h (f_X12_surely_98_b F K64 K98 l0 l1 l2 l3 l4 l6 l7 l8 l9 h) := by
  delta f_X12_surely_98_b
  refine g_iload 8 dX12_surely_98 rfl ?_
  refine g_aload_n 0 dX12_surely_100 rfl ?_
  refine g_getR fl_RX12_66 rfl dX12_surely_101 (fun v21 => ?_)
  refine g_iload_n 1 dX12_surely_104 rfl ?_
  refine g_iald dX12_surely_105 (fun v22 => ?_)
  refine g_icmp_ge (tgt := 144) dX12_surely_106 (by decide) (fun c23 => ?_) (fun c23 => ?_)
  · refine G_lv [0, 1, 2, 3, 4, 5, 6, 7] rfl ?_
    exact T_X12_surely_144 F hK64 l0 l1 l2 l3 l4 l6 l7 l8 h
  · refine g_iload 7 dX12_surely_109 rfl ?_
    refine g_aload_n 0 dX12_surely_111 rfl ?_
    refine g_getR fl_RX12_66 rfl dX12_surely_112 (fun v24 => ?_)
    refine g_iload_n 1 dX12_surely_115 rfl ?_
    refine g_iald dX12_surely_116 (fun v25 => ?_)
    refine g_iload 8 dX12_surely_117 rfl ?_
    refine g_callSi (J := I_X12_twinAt) (As := [.int l8, .int v25, .int l9]) (rest := []) mjs_X12_twinAt ml_RX12_403 (by decide) rfl rfl (Nat.le_of_ble_eq_true rfl) dX12_surely_119 (T_X12_twinAt F l8 v25 l9 h) (fun v26 h27 => ?_)
    refine g_iload 4 dX12_surely_122 rfl ?_
    refine g_icmp_eq (tgt := 138) dX12_surely_124 (by decide) (fun c28 => ?_) (fun c28 => ?_)
    · refine G_lv [0, 1, 2, 3, 4, 5, 6, 7, 8] rfl ?_
      exact T_X12_surely_138 F hK64 hK98 l0 l1 l2 l3 l4 l6 l7 l8 l9 h27
    · refine g_iload 5 dX12_surely_127 rfl ?_
      refine g_iconst (v := 1) dX12_surely_129 (by decide) ?_
      refine g_iload 8 dX12_surely_130 rfl ?_
      refine g_ishl dX12_surely_132 ?_
      refine g_iconst (v := (-1)) dX12_surely_133 (by decide) ?_
      refine g_ixor dX12_surely_134 ?_
      refine g_iand dX12_surely_135 ?_
      refine G_lti (fun x29 => ?_)
      refine g_istore (lv' := [(6, .int x29), (0, .ref l0), (1, .int l1), (2, .int l2), (3, .int l3), (4, .int l4), (7, .int l7), (8, .int l8), (9, .int l9)]) dX12_surely_136 (by decide) rfl ?_
      refine G_lv [1, 2, 3, 4, 5, 0, 6, 7, 8] rfl ?_
      exact T_X12_surely_138 F hK64 hK98 l0 l1 l2 l3 l4 x29 l7 l8 l9 h27
set_option maxRecDepth 100000 in
noncomputable def f_X12_surely_98 (F : Nat) (K64 : Nat → Int32 → Int32 → Int32 → Int32 → Int32 → Int32 → Int32 → Hp → Option (Int32 × Hp)) : Nat → Nat → Int32 → Int32 → Int32 → Int32 → Int32 → Int32 → Int32 → Int32 → Hp → Option (Int32 × Hp)
  | 0, _, _, _, _, _, _, _, _, _, _ => none
  | n + 1, l0, l1, l2, l3, l4, l6, l7, l8, l9, h => f_X12_surely_98_b F K64 (f_X12_surely_98 F K64 n) l0 l1 l2 l3 l4 l6 l7 l8 l9 h
set_option maxRecDepth 100000 in
set_option maxHeartbeats 4000000 in
theorem T_X12_surely_98 (F : Nat) {K64 : Nat → Int32 → Int32 → Int32 → Int32 → Int32 → Int32 → Int32 → Hp → Option (Int32 × Hp)} (hK64 : ∀ (l0 : Nat) (l1 : Int32) (l2 : Int32) (l3 : Int32) (l4 : Int32) (l6 : Int32) (l7 : Int32) (l8 : Int32) (h : Hp), G rvI I_X12_surely 7 64 [(0, .ref l0), (1, .int l1), (2, .int l2), (3, .int l3), (4, .int l4), (6, .int l6), (7, .int l7), (8, .int l8)] [] h (K64 l0 l1 l2 l3 l4 l6 l7 l8 h)) : ∀ (n : Nat) (l0 : Nat) (l1 : Int32) (l2 : Int32) (l3 : Int32) (l4 : Int32) (l6 : Int32) (l7 : Int32) (l8 : Int32) (l9 : Int32) (h : Hp), G rvI I_X12_surely 7 98 [(0, .ref l0), (1, .int l1), (2, .int l2), (3, .int l3), (4, .int l4), (6, .int l6), (7, .int l7), (8, .int l8), (9, .int l9)] [] h (f_X12_surely_98 F K64 n l0 l1 l2 l3 l4 l6 l7 l8 l9 h) := by
  intro n
  induction n with
  | zero => intros; exact G_none
  | succ n ih => intro l0 l1 l2 l3 l4 l6 l7 l8 l9 h; exact T_X12_surely_98_b F hK64 ih l0 l1 l2 l3 l4 l6 l7 l8 l9 h
set_option maxRecDepth 100000 in
noncomputable def f_X12_surely_64_b (F : Nat) (K64 : Nat → Int32 → Int32 → Int32 → Int32 → Int32 → Int32 → Int32 → Hp → Option (Int32 × Hp)) (l0 : Nat) (l1 : Int32) (l2 : Int32) (l3 : Int32) (l4 : Int32) (l6 : Int32) (l7 : Int32) (l8 : Int32) (h : Hp) : Option (Int32 × Hp) :=
  gR 13 h l0 33 fun v14 => aI 20 h v14 l1 fun v15 => if ((1 : Int32) <<< (v15 &&& 31)) ≤ l8 then (if l7 = 0 then (some (0, h)) else (some (l6, h))) else (cV 13 h l0 (f_X12_isTold F l0 l1 l8 l2 l3 h) fun v18 h19 => if v18 = 0 then (f_X12_surely_144 F K64 l0 l1 l2 l3 l4 l6 l7 l8 h19) else (f_X12_surely_98 F K64 F l0 l1 l2 l3 l4 l6 1 l8 0 h19))
set_option maxRecDepth 100000 in
set_option maxHeartbeats 4000000 in
theorem T_X12_surely_64_b (F : Nat) {K64 : Nat → Int32 → Int32 → Int32 → Int32 → Int32 → Int32 → Int32 → Hp → Option (Int32 × Hp)} (hK64 : ∀ (l0 : Nat) (l1 : Int32) (l2 : Int32) (l3 : Int32) (l4 : Int32) (l6 : Int32) (l7 : Int32) (l8 : Int32) (h : Hp), G rvI I_X12_surely 7 64 [(0, .ref l0), (1, .int l1), (2, .int l2), (3, .int l3), (4, .int l4), (6, .int l6), (7, .int l7), (8, .int l8)] [] h (K64 l0 l1 l2 l3 l4 l6 l7 l8 h)) (l0 : Nat) (l1 : Int32) (l2 : Int32) (l3 : Int32) (l4 : Int32) (l6 : Int32) (l7 : Int32) (l8 : Int32) (h : Hp) : G rvI I_X12_surely 7 64 [(0, .ref l0), (1, .int l1), (2, .int l2), (3, .int l3), (4, .int l4), (6, .int l6), (7, .int l7), (8, .int l8)] [] h (f_X12_surely_64_b F K64 l0 l1 l2 l3 l4 l6 l7 l8 h) := by
  delta f_X12_surely_64_b
  refine g_iload 7 dX12_surely_64 rfl ?_
  refine g_iconst (v := 1) dX12_surely_66 (by decide) ?_
  refine g_aload_n 0 dX12_surely_67 rfl ?_
  refine g_getR fl_RX12_66 rfl dX12_surely_68 (fun v14 => ?_)
  refine g_iload_n 1 dX12_surely_71 rfl ?_
  refine g_iald dX12_surely_72 (fun v15 => ?_)
  refine g_ishl dX12_surely_73 ?_
  refine g_icmp_ge (tgt := 150) dX12_surely_74 (by decide) (fun c16 => ?_) (fun c16 => ?_)
  · refine g_iload 6 dX12_surely_150 rfl ?_
    refine g_if_eq (tgt := 160) dX12_surely_152 (by decide) (fun c17 => ?_) (fun c17 => ?_)
    · refine g_iconst (v := 0) dX12_surely_160 (by decide) ?_
      exact g_iret rfl dX12_surely_161
    · refine g_iload 5 dX12_surely_155 rfl ?_
      refine g_goto (tgt := 161) dX12_surely_157 (by decide) ?_
      exact g_iret rfl dX12_surely_161
  · refine g_aload_n 0 dX12_surely_77 rfl ?_
    refine g_iload_n 1 dX12_surely_78 rfl ?_
    refine g_iload 7 dX12_surely_79 rfl ?_
    refine g_iload_n 2 dX12_surely_81 rfl ?_
    refine g_iload_n 3 dX12_surely_82 rfl ?_
    refine g_callVi (J := I_X12_isTold) (t := 13) (As := [.int l1, .int l8, .int l2, .int l3]) (rest := []) mjv_X12_isTold ml_RX12_409 ⟨rfl, by decide, by decide⟩ (by decide) rfl rfl (Nat.le_of_ble_eq_true rfl) dX12_surely_83 (T_X12_isTold F l0 l1 l8 l2 l3 h) (fun v18 h19 => ?_)
    refine g_if_ne (tgt := 92) dX12_surely_86 (by decide) (fun c20 => ?_) (fun c20 => ?_)
    · refine g_goto (tgt := 144) dX12_surely_89 (by decide) ?_
      refine G_lv [0, 1, 2, 3, 4, 5, 6, 7] rfl ?_
      exact T_X12_surely_144 F hK64 l0 l1 l2 l3 l4 l6 l7 l8 h19
    · refine g_iconst (v := 1) dX12_surely_92 (by decide) ?_
      refine g_istore (lv' := [(7, .int 1), (0, .ref l0), (1, .int l1), (2, .int l2), (3, .int l3), (4, .int l4), (6, .int l6), (8, .int l8)]) dX12_surely_93 (by decide) rfl ?_
      refine g_iconst (v := 0) dX12_surely_95 (by decide) ?_
      refine g_istore (lv' := [(9, .int 0), (7, .int 1), (0, .ref l0), (1, .int l1), (2, .int l2), (3, .int l3), (4, .int l4), (6, .int l6), (8, .int l8)]) dX12_surely_96 (by decide) rfl ?_
      refine G_lv [2, 3, 4, 5, 6, 7, 1, 8, 0] rfl ?_
      exact T_X12_surely_98 F hK64 F l0 l1 l2 l3 l4 l6 1 l8 0 h19
set_option maxRecDepth 100000 in
noncomputable def f_X12_surely_64 (F : Nat) : Nat → Nat → Int32 → Int32 → Int32 → Int32 → Int32 → Int32 → Int32 → Hp → Option (Int32 × Hp)
  | 0, _, _, _, _, _, _, _, _, _ => none
  | n + 1, l0, l1, l2, l3, l4, l6, l7, l8, h => f_X12_surely_64_b F (f_X12_surely_64 F n) l0 l1 l2 l3 l4 l6 l7 l8 h
set_option maxRecDepth 100000 in
set_option maxHeartbeats 4000000 in
theorem T_X12_surely_64 (F : Nat) : ∀ (n : Nat) (l0 : Nat) (l1 : Int32) (l2 : Int32) (l3 : Int32) (l4 : Int32) (l6 : Int32) (l7 : Int32) (l8 : Int32) (h : Hp), G rvI I_X12_surely 7 64 [(0, .ref l0), (1, .int l1), (2, .int l2), (3, .int l3), (4, .int l4), (6, .int l6), (7, .int l7), (8, .int l8)] [] h (f_X12_surely_64 F n l0 l1 l2 l3 l4 l6 l7 l8 h) := by
  intro n
  induction n with
  | zero => intros; exact G_none
  | succ n ih => intro l0 l1 l2 l3 l4 l6 l7 l8 h; exact T_X12_surely_64_b F ih l0 l1 l2 l3 l4 l6 l7 l8 h
set_option maxRecDepth 100000 in
noncomputable def f_X12_surely (F : Nat) (a0 : Nat) (a1 : Int32) (a2 : Int32) (a3 : Int32) (a4 : Int32) (h : Hp) : Option (Int32 × Hp) :=
  pI 13 h a0 0 0 fun h1 => bd (f_X12_within F (a1.toInt64) 0 3 h1) fun v2 h3 => if v2 = 0 then (some ((-2), h3)) else (bd (f_X12_isTwin F (a4.toInt64) h3) fun v5 h6 => if v5 = 0 then (some ((-2), h6)) else (cV 13 h6 a0 (f_X12_noTold F a0 a1 a2 a3 h6) fun v8 h9 => if v8 = 0 then (gR 13 h9 a0 33 fun v11 => aI 20 h9 v11 a1 fun v12 => lt (((1 : Int32) <<< (v12 &&& 31)) - 1) fun x13 => f_X12_surely_64 F F a0 a1 a2 a3 a4 x13 0 0 h9) else (some (v8, h9))))
set_option maxRecDepth 100000 in
set_option maxHeartbeats 4000000 in
theorem T_X12_surely (F : Nat) (a0 : Nat) (a1 : Int32) (a2 : Int32) (a3 : Int32) (a4 : Int32) (h : Hp) : GM rvI I_X12_surely 7 [.ref a0, .int a1, .int a2, .int a3, .int a4] h (f_X12_surely F a0 a1 a2 a3 a4 h) := by
  delta f_X12_surely
  refine GM_of (lv := [(0, .ref a0), (1, .int a1), (2, .int a2), (3, .int a3), (4, .int a4)]) (by decide +kernel) (Nat.le_of_ble_eq_true rfl) rfl ?_
  refine g_aload_n 0 dX12_surely_0 rfl ?_
  refine g_iconst (v := 0) dX12_surely_1 (by decide) ?_
  refine g_putI fl_RX12_1 (Or.inl rfl) dX12_surely_2 (fun h1 => ?_)
  refine g_iload_n 1 dX12_surely_5 rfl ?_
  refine g_i2l dX12_surely_6 ?_
  refine g_lconst (v := 0) dX12_surely_7 (by decide) ?_
  refine g_ldc2 (v := 3) dX12_surely_8 cl_RX12_319 ?_
  refine g_callSi (J := I_X12_within) (As := [.long (a1.toInt64), .long 0, .long 3]) (rest := []) mjs_X12_within ml_RX12_138 (by decide) rfl rfl (Nat.le_of_ble_eq_true rfl) dX12_surely_11 (T_X12_within F (a1.toInt64) 0 3 h1) (fun v2 h3 => ?_)
  refine g_if_eq (tgt := 26) dX12_surely_14 (by decide) (fun c4 => ?_) (fun c4 => ?_)
  · refine g_bipush (v := (-2)) dX12_surely_26 (by decide) ?_
    exact g_iret rfl dX12_surely_28
  · refine g_iload 4 dX12_surely_17 rfl ?_
    refine g_i2l dX12_surely_19 ?_
    refine g_callSi (J := I_X12_isTwin) (As := [.long (a4.toInt64)]) (rest := []) mjs_X12_isTwin ml_RX12_250 (by decide) rfl rfl (Nat.le_of_ble_eq_true rfl) dX12_surely_20 (T_X12_isTwin F (a4.toInt64) h3) (fun v5 h6 => ?_)
    refine g_if_ne (tgt := 29) dX12_surely_23 (by decide) (fun c7 => ?_) (fun c7 => ?_)
    · refine g_bipush (v := (-2)) dX12_surely_26 (by decide) ?_
      exact g_iret rfl dX12_surely_28
    · refine g_aload_n 0 dX12_surely_29 rfl ?_
      refine g_iload_n 1 dX12_surely_30 rfl ?_
      refine g_iload_n 2 dX12_surely_31 rfl ?_
      refine g_iload_n 3 dX12_surely_32 rfl ?_
      refine g_callVi (J := I_X12_noTold) (t := 13) (As := [.int a1, .int a2, .int a3]) (rest := []) mjv_X12_noTold ml_RX12_406 ⟨rfl, by decide, by decide⟩ (by decide) rfl rfl (Nat.le_of_ble_eq_true rfl) dX12_surely_33 (T_X12_noTold F a0 a1 a2 a3 h6) (fun v8 h9 => ?_)
      refine g_istore (lv' := [(5, .int v8), (0, .ref a0), (1, .int a1), (2, .int a2), (3, .int a3), (4, .int a4)]) dX12_surely_36 (by decide) rfl ?_
      refine g_iload 0 dX12_surely_38 rfl ?_
      refine g_if_eq (tgt := 46) dX12_surely_40 (by decide) (fun c10 => ?_) (fun c10 => ?_)
      · refine g_iconst (v := 1) dX12_surely_46 (by decide) ?_
        refine g_aload_n 1 dX12_surely_47 rfl ?_
        refine g_getR fl_RX12_66 rfl dX12_surely_48 (fun v11 => ?_)
        refine g_iload_n 2 dX12_surely_51 rfl ?_
        refine g_iald dX12_surely_52 (fun v12 => ?_)
        refine g_ishl dX12_surely_53 ?_
        refine g_iconst (v := 1) dX12_surely_54 (by decide) ?_
        refine g_isub dX12_surely_55 ?_
        refine G_lti (fun x13 => ?_)
        refine g_istore (lv' := [(6, .int x13), (5, .int v8), (0, .ref a0), (1, .int a1), (2, .int a2), (3, .int a3), (4, .int a4)]) dX12_surely_56 (by decide) rfl ?_
        refine g_iconst (v := 0) dX12_surely_58 (by decide) ?_
        refine g_istore (lv' := [(7, .int 0), (6, .int x13), (5, .int v8), (0, .ref a0), (1, .int a1), (2, .int a2), (3, .int a3), (4, .int a4)]) dX12_surely_59 (by decide) rfl ?_
        refine g_iconst (v := 0) dX12_surely_61 (by decide) ?_
        refine g_istore (lv' := [(8, .int 0), (7, .int 0), (6, .int x13), (5, .int v8), (0, .ref a0), (1, .int a1), (2, .int a2), (3, .int a3), (4, .int a4)]) dX12_surely_62 (by decide) rfl ?_
        refine G_lv [4, 5, 6, 7, 8, 2, 1, 0] rfl ?_
        exact T_X12_surely_64 F F a0 a1 a2 a3 a4 x13 0 0 h9
      · refine g_iload 0 dX12_surely_43 rfl ?_
        exact g_iret rfl dX12_surely_45
set_option maxRecDepth 100000 in
noncomputable def f_X12_tell (F : Nat) (a0 : Nat) (a1 : Int32) (a2 : Int32) (h : Hp) : Option (Int32 × Hp) :=
  pI 13 h a0 0 0 fun h1 => cV 13 h1 a0 (f_X12_whyTell F a0 (a1.toInt64) (a2.toInt64) h1) fun v2 h3 => if v2 = 0 then (cV 13 h3 a0 (f_X12_keeps F a0 h3) fun v5 h6 => cV 13 h6 a0 (f_X12_standNow F a0 h6) fun v7 h8 => cV 13 h8 a0 (f_X12_toldTo F a0 v7 a1 a2 h8) fun v9 h10 => cV 13 h10 a0 (f_X12_isStand F a0 v9 h10) fun v11 h12 => cV 13 h12 a0 (f_X12_notes F a0 h12) fun v13 h14 => gR 13 h14 a0 1 fun v15 => aI 20 h14 v15 ((43 + (4 * (1 - a1))) + a2) fun v16 => some (v16, h14)) else (some (((-10) - v2), h3))
set_option maxRecDepth 100000 in
set_option maxHeartbeats 4000000 in
theorem T_X12_tell (F : Nat) (a0 : Nat) (a1 : Int32) (a2 : Int32) (h : Hp) : GM rvI I_X12_tell 6 [.ref a0, .int a1, .int a2] h (f_X12_tell F a0 a1 a2 h) := by
  delta f_X12_tell
  refine GM_of (lv := [(0, .ref a0), (1, .int a1), (2, .int a2)]) (by decide +kernel) (Nat.le_of_ble_eq_true rfl) rfl ?_
  refine g_aload_n 0 dX12_tell_0 rfl ?_
  refine g_iconst (v := 0) dX12_tell_1 (by decide) ?_
  refine g_putI fl_RX12_1 (Or.inl rfl) dX12_tell_2 (fun h1 => ?_)
  refine g_aload_n 0 dX12_tell_5 rfl ?_
  refine g_iload_n 1 dX12_tell_6 rfl ?_
  refine g_i2l dX12_tell_7 ?_
  refine g_iload_n 2 dX12_tell_8 rfl ?_
  refine g_i2l dX12_tell_9 ?_
  refine g_callVi (J := I_X12_whyTell) (t := 13) (As := [.long (a1.toInt64), .long (a2.toInt64)]) (rest := []) mjv_X12_whyTell ml_RX12_269 ⟨rfl, by decide, by decide⟩ (by decide) rfl rfl (Nat.le_of_ble_eq_true rfl) dX12_tell_10 (T_X12_whyTell F a0 (a1.toInt64) (a2.toInt64) h1) (fun v2 h3 => ?_)
  refine g_istore_n (lv' := [(3, .int v2), (0, .ref a0), (1, .int a1), (2, .int a2)]) dX12_tell_13 (by decide) rfl ?_
  refine g_iload_n 0 dX12_tell_14 rfl ?_
  refine g_if_eq (tgt := 23) dX12_tell_15 (by decide) (fun c4 => ?_) (fun c4 => ?_)
  · refine g_aload_n 1 dX12_tell_23 rfl ?_
    refine g_callVv (J := I_X12_keeps) (t := 13) (As := []) (rest := []) mjv_X12_keeps ml_RX12_273 ⟨rfl, by decide, by decide⟩ (by decide) rfl rfl (Nat.le_of_ble_eq_true rfl) dX12_tell_24 (T_X12_keeps F a0 h3) (fun v5 h6 => ?_)
    refine g_aload_n 1 dX12_tell_27 rfl ?_
    refine g_aload_n 1 dX12_tell_28 rfl ?_
    refine g_aload_n 1 dX12_tell_29 rfl ?_
    refine g_callVi (J := I_X12_standNow) (t := 13) (As := []) (rest := [.ref a0, .ref a0]) mjv_X12_standNow ml_RX12_260 ⟨rfl, by decide, by decide⟩ (by decide) rfl rfl (Nat.le_of_ble_eq_true rfl) dX12_tell_30 (T_X12_standNow F a0 h6) (fun v7 h8 => ?_)
    refine g_iload_n 2 dX12_tell_33 rfl ?_
    refine g_iload_n 3 dX12_tell_34 rfl ?_
    refine g_callVi (J := I_X12_toldTo) (t := 13) (As := [.int v7, .int a1, .int a2]) (rest := [.ref a0]) mjv_X12_toldTo ml_RX12_266 ⟨rfl, by decide, by decide⟩ (by decide) rfl rfl (Nat.le_of_ble_eq_true rfl) dX12_tell_35 (T_X12_toldTo F a0 v7 a1 a2 h8) (fun v9 h10 => ?_)
    refine g_callVv (J := I_X12_isStand) (t := 13) (As := [.int v9]) (rest := []) mjv_X12_isStand ml_RX12_276 ⟨rfl, by decide, by decide⟩ (by decide) rfl rfl (Nat.le_of_ble_eq_true rfl) dX12_tell_38 (T_X12_isStand F a0 v9 h10) (fun v11 h12 => ?_)
    refine g_aload_n 1 dX12_tell_41 rfl ?_
    refine g_callVv (J := I_X12_notes) (t := 13) (As := []) (rest := []) mjv_X12_notes ml_RX12_279 ⟨rfl, by decide, by decide⟩ (by decide) rfl rfl (Nat.le_of_ble_eq_true rfl) dX12_tell_42 (T_X12_notes F a0 h12) (fun v13 h14 => ?_)
    refine g_aload_n 1 dX12_tell_45 rfl ?_
    refine g_getR fl_RX12_13 rfl dX12_tell_46 (fun v15 => ?_)
    refine g_bipush (v := 43) dX12_tell_49 (by decide) ?_
    refine g_iconst (v := 4) dX12_tell_51 (by decide) ?_
    refine g_iconst (v := 1) dX12_tell_52 (by decide) ?_
    refine g_iload_n 2 dX12_tell_53 rfl ?_
    refine g_isub dX12_tell_54 ?_
    refine g_imul dX12_tell_55 ?_
    refine g_iadd dX12_tell_56 ?_
    refine g_iload_n 3 dX12_tell_57 rfl ?_
    refine g_iadd dX12_tell_58 ?_
    refine g_iald dX12_tell_59 (fun v16 => ?_)
    exact g_iret rfl dX12_tell_60
  · refine g_bipush (v := (-10)) dX12_tell_18 (by decide) ?_
    refine g_iload_n 0 dX12_tell_20 rfl ?_
    refine g_isub dX12_tell_21 ?_
    exact g_iret rfl dX12_tell_22
set_option maxRecDepth 100000 in
noncomputable def f_X12_tellings (F : Nat) (a0 : Nat) (a1 : Int32) (a2 : Int32) (h : Hp) : Option (Int32 × Hp) :=
  pI 13 h a0 0 0 fun h1 => cV 13 h1 a0 (f_X12_areSets F a0 a1 a2 h1) fun v2 h3 => if v2 = 0 then (some ((-3), h3)) else (cV 13 h3 a0 (f_X12_goals F a0 a1 a2 h3) fun v5 h6 => cV 13 h6 a0 (f_X12_laysStill F a0 511 1 h6) fun v7 h8 => bd (f_X12_toldFar F v7 h8) fun v9 h10 => some (v9, h10))
set_option maxRecDepth 100000 in
set_option maxHeartbeats 4000000 in
theorem T_X12_tellings (F : Nat) (a0 : Nat) (a1 : Int32) (a2 : Int32) (h : Hp) : GM rvI I_X12_tellings 9 [.ref a0, .int a1, .int a2] h (f_X12_tellings F a0 a1 a2 h) := by
  delta f_X12_tellings
  refine GM_of (lv := [(0, .ref a0), (1, .int a1), (2, .int a2)]) (by decide +kernel) (Nat.le_of_ble_eq_true rfl) rfl ?_
  refine g_aload_n 0 dX12_tellings_0 rfl ?_
  refine g_iconst (v := 0) dX12_tellings_1 (by decide) ?_
  refine g_putI fl_RX12_1 (Or.inl rfl) dX12_tellings_2 (fun h1 => ?_)
  refine g_aload_n 0 dX12_tellings_5 rfl ?_
  refine g_iload_n 1 dX12_tellings_6 rfl ?_
  refine g_iload_n 2 dX12_tellings_7 rfl ?_
  refine g_callVi (J := I_X12_areSets) (t := 13) (As := [.int a1, .int a2]) (rest := []) mjv_X12_areSets ml_RX12_375 ⟨rfl, by decide, by decide⟩ (by decide) rfl rfl (Nat.le_of_ble_eq_true rfl) dX12_tellings_8 (T_X12_areSets F a0 a1 a2 h1) (fun v2 h3 => ?_)
  refine g_if_ne (tgt := 17) dX12_tellings_11 (by decide) (fun c4 => ?_) (fun c4 => ?_)
  · refine g_bipush (v := (-3)) dX12_tellings_14 (by decide) ?_
    exact g_iret rfl dX12_tellings_16
  · refine g_aload_n 0 dX12_tellings_17 rfl ?_
    refine g_iload_n 1 dX12_tellings_18 rfl ?_
    refine g_iload_n 2 dX12_tellings_19 rfl ?_
    refine g_callVv (J := I_X12_goals) (t := 13) (As := [.int a1, .int a2]) (rest := []) mjv_X12_goals ml_RX12_379 ⟨rfl, by decide, by decide⟩ (by decide) rfl rfl (Nat.le_of_ble_eq_true rfl) dX12_tellings_20 (T_X12_goals F a0 a1 a2 h3) (fun v5 h6 => ?_)
    refine g_aload_n 0 dX12_tellings_23 rfl ?_
    refine g_sipush (v := 511) dX12_tellings_24 (by decide) ?_
    refine g_iconst (v := 1) dX12_tellings_27 (by decide) ?_
    refine g_callVi (J := I_X12_laysStill) (t := 13) (As := [.int 511, .int 1]) (rest := []) mjv_X12_laysStill ml_RX12_383 ⟨rfl, by decide, by decide⟩ (by decide) rfl rfl (Nat.le_of_ble_eq_true rfl) dX12_tellings_28 (T_X12_laysStill F a0 511 1 h6) (fun v7 h8 => ?_)
    refine g_callSi (J := I_X12_toldFar) (As := [.int v7]) (rest := []) mjs_X12_toldFar ml_RX12_387 (by decide) rfl rfl (Nat.le_of_ble_eq_true rfl) dX12_tellings_31 (T_X12_toldFar F v7 h8) (fun v9 h10 => ?_)
    exact g_iret rfl dX12_tellings_34
