/-! L2, by program (wip/whole/gen/gen.py) -/
set_option maxRecDepth 100000 in
noncomputable def f_X11_days_27_b (F : Nat) (K27 : Nat → Int32 → Int32 → Hp → Option (Int32 × Hp)) (l0 : Nat) (l1 : Int32) (l2 : Int32) (h : Hp) : Option (Int32 × Hp) :=
  if l1 ≤ l2 then (cV 12 h l0 (f_X11_takeTrial F l0 h) fun v8 h9 => gR 12 h9 l0 3 fun v10 => gR 12 h9 l0 5 fun v11 => gI 9 h9 v11 0 fun v12 => cV 3 h9 v10 (f_X2_doneByBoth F v10 v12 h9) fun v13 h14 => some (v13, h14)) else (gR 12 h l0 6 fun v15 => gR 12 h l0 6 fun v16 => gI 9 h v16 0 fun v17 => bd (f_X2_afterDay F v17 h) fun v18 h19 => pI 9 h19 v15 0 v18 fun h20 => K27 l0 l1 (l2 + 1) h20)
set_option maxRecDepth 100000 in
set_option maxHeartbeats 4000000 in
theorem T_X11_days_27_b (F : Nat) {K27 : Nat → Int32 → Int32 → Hp → Option (Int32 × Hp)} (hK27 : ∀ (l0 : Nat) (l1 : Int32) (l2 : Int32) (h : Hp), G rvI I_X11_days 3 27 [(0, .ref l0), (1, .int l1), (2, .int l2)] [] h (K27 l0 l1 l2 h)) (l0 : Nat) (l1 : Int32) (l2 : Int32) (h : Hp) : G rvI I_X11_days 3 27 [(0, .ref l0), (1, .int l1), (2, .int l2)] [] h (f_X11_days_27_b F K27 l0 l1 l2 h) := by
  delta f_X11_days_27_b
  refine g_iload_n 2 dX11_days_27 rfl ?_
  refine g_iload_n 1 dX11_days_28 rfl ?_
  refine g_icmp_ge (tgt := 55) dX11_days_29 (by decide) (fun c7 => ?_) (fun c7 => ?_)
  · refine g_aload_n 0 dX11_days_55 rfl ?_
    refine g_callVv (J := I_X11_takeTrial) (t := 12) (As := []) (rest := []) mjv_X11_takeTrial ml_RX11_195 ⟨rfl, by decide, by decide⟩ (by decide) rfl rfl (Nat.le_of_ble_eq_true rfl) dX11_days_56 (T_X11_takeTrial F l0 h) (fun v8 h9 => ?_)
    refine g_aload_n 0 dX11_days_59 rfl ?_
    refine g_getR fl_RX11_20 rfl dX11_days_60 (fun v10 => ?_)
    refine g_aload_n 0 dX11_days_63 rfl ?_
    refine g_getR fl_RX11_36 rfl dX11_days_64 (fun v11 => ?_)
    refine g_getI fl_RX11_127 rfl dX11_days_67 (fun v12 => ?_)
    refine g_callVi (J := I_X2_doneByBoth) (t := 3) (As := [.int v12]) (rest := []) mjv_X2_doneByBoth ml_RX11_201 ⟨rfl, by decide, by decide⟩ (by decide) rfl rfl (Nat.le_of_ble_eq_true rfl) dX11_days_70 (T_X2_doneByBoth F v10 v12 h9) (fun v13 h14 => ?_)
    exact g_iret rfl dX11_days_73
  · refine g_aload_n 0 dX11_days_32 rfl ?_
    refine g_getR fl_RX11_40 rfl dX11_days_33 (fun v15 => ?_)
    refine g_aload_n 0 dX11_days_36 rfl ?_
    refine g_getR fl_RX11_40 rfl dX11_days_37 (fun v16 => ?_)
    refine g_getI fl_RX11_127 rfl dX11_days_40 (fun v17 => ?_)
    refine g_callSi (J := I_X2_afterDay) (As := [.int v17]) (rest := [.ref v15]) mjs_X2_afterDay ml_RX11_198 (by decide) rfl rfl (Nat.le_of_ble_eq_true rfl) dX11_days_43 (T_X2_afterDay F v17 h) (fun v18 h19 => ?_)
    refine g_putI fl_RX11_127 (Or.inl rfl) dX11_days_46 (fun h20 => ?_)
    refine g_iinc (v' := l2 + 1) (lv' := [(2, .int (l2 + 1)), (0, .ref l0), (1, .int l1)]) 2 dX11_days_49 rfl rfl (by decide) rfl ?_
    refine g_goto (tgt := 27) dX11_days_52 (by decide) ?_
    refine G_lv [1, 2, 0] rfl ?_
    exact hK27 l0 l1 (l2 + 1) h20
set_option maxRecDepth 100000 in
noncomputable def f_X11_days_27 (F : Nat) : Nat → Nat → Int32 → Int32 → Hp → Option (Int32 × Hp)
  | 0, _, _, _, _ => none
  | n + 1, l0, l1, l2, h => f_X11_days_27_b F (f_X11_days_27 F n) l0 l1 l2 h
set_option maxRecDepth 100000 in
set_option maxHeartbeats 4000000 in
theorem T_X11_days_27 (F : Nat) : ∀ (n : Nat) (l0 : Nat) (l1 : Int32) (l2 : Int32) (h : Hp), G rvI I_X11_days 3 27 [(0, .ref l0), (1, .int l1), (2, .int l2)] [] h (f_X11_days_27 F n l0 l1 l2 h) := by
  intro n
  induction n with
  | zero => intros; exact G_none
  | succ n ih => intro l0 l1 l2 h; exact T_X11_days_27_b F ih l0 l1 l2 h
set_option maxRecDepth 100000 in
noncomputable def f_X11_days (F : Nat) (a0 : Nat) (a1 : Int32) (h : Hp) : Option (Int32 × Hp) :=
  if a1 < 1 then (some ((-3), h)) else (if a1 ≤ 99 then (gR 12 h a0 6 fun v3 => gR 12 h a0 5 fun v4 => cV 9 h v3 (f_X8_copy F v3 v4 h) fun v5 h6 => f_X11_days_27 F F a0 a1 0 h6) else (some ((-3), h)))
set_option maxRecDepth 100000 in
set_option maxHeartbeats 4000000 in
theorem T_X11_days (F : Nat) (a0 : Nat) (a1 : Int32) (h : Hp) : GM rvI I_X11_days 3 [.ref a0, .int a1] h (f_X11_days F a0 a1 h) := by
  delta f_X11_days
  refine GM_of (lv := [(0, .ref a0), (1, .int a1)]) (by decide +kernel) (Nat.le_of_ble_eq_true rfl) rfl ?_
  refine g_iload_n 1 dX11_days_0 rfl ?_
  refine g_iconst (v := 1) dX11_days_1 (by decide) ?_
  refine g_icmp_lt (tgt := 11) dX11_days_2 (by decide) (fun c1 => ?_) (fun c1 => ?_)
  · refine g_bipush (v := (-3)) dX11_days_11 (by decide) ?_
    exact g_iret rfl dX11_days_13
  · refine g_iload_n 1 dX11_days_5 rfl ?_
    refine g_bipush (v := 99) dX11_days_6 (by decide) ?_
    refine g_icmp_le (tgt := 14) dX11_days_8 (by decide) (fun c2 => ?_) (fun c2 => ?_)
    · refine g_aload_n 0 dX11_days_14 rfl ?_
      refine g_getR fl_RX11_40 rfl dX11_days_15 (fun v3 => ?_)
      refine g_aload_n 0 dX11_days_18 rfl ?_
      refine g_getR fl_RX11_36 rfl dX11_days_19 (fun v4 => ?_)
      refine g_callVv (J := I_X8_copy) (t := 9) (As := [.ref v4]) (rest := []) mjv_X8_copy ml_RX11_187 ⟨rfl, by decide, by decide⟩ (by decide) rfl rfl (Nat.le_of_ble_eq_true rfl) dX11_days_22 (T_X8_copy F v3 v4 h) (fun v5 h6 => ?_)
      refine g_iconst (v := 0) dX11_days_25 (by decide) ?_
      refine g_istore_n (lv' := [(2, .int 0), (0, .ref a0), (1, .int a1)]) dX11_days_26 (by decide) rfl ?_
      refine G_lv [1, 2, 0] rfl ?_
      exact T_X11_days_27 F F a0 a1 0 h6
    · refine g_bipush (v := (-3)) dX11_days_11 (by decide) ?_
      exact g_iret rfl dX11_days_13
set_option maxRecDepth 100000 in
noncomputable def f_X11_does (F : Nat) (a0 : Nat) (a1 : Int32) (h : Hp) : Option (Int32 × Hp) :=
  cV 12 h a0 (f_X11_noTwin F a0 a1 h) fun v1 h2 => if v1 = 0 then (gR 12 h2 a0 3 fun v4 => gR 12 h2 a0 5 fun v5 => gI 9 h2 v5 0 fun v6 => cV 3 h2 v4 (f_X2_doneBy F v4 v6 a1 h2) fun v7 h8 => some (v7, h8)) else (some ((-2), h2))
set_option maxRecDepth 100000 in
set_option maxHeartbeats 4000000 in
theorem T_X11_does (F : Nat) (a0 : Nat) (a1 : Int32) (h : Hp) : GM rvI I_X11_does 2 [.ref a0, .int a1] h (f_X11_does F a0 a1 h) := by
  delta f_X11_does
  refine GM_of (lv := [(0, .ref a0), (1, .int a1)]) (by decide +kernel) (Nat.le_of_ble_eq_true rfl) rfl ?_
  refine g_aload_n 0 dX11_does_0 rfl ?_
  refine g_iload_n 1 dX11_does_1 rfl ?_
  refine g_callVi (J := I_X11_noTwin) (t := 12) (As := [.int a1]) (rest := []) mjv_X11_noTwin ml_RX11_149 ⟨rfl, by decide, by decide⟩ (by decide) rfl rfl (Nat.le_of_ble_eq_true rfl) dX11_does_2 (T_X11_noTwin F a0 a1 h) (fun v1 h2 => ?_)
  refine g_if_eq (tgt := 13) dX11_does_5 (by decide) (fun c3 => ?_) (fun c3 => ?_)
  · refine g_aload_n 0 dX11_does_13 rfl ?_
    refine g_getR fl_RX11_20 rfl dX11_does_14 (fun v4 => ?_)
    refine g_aload_n 0 dX11_does_17 rfl ?_
    refine g_getR fl_RX11_36 rfl dX11_does_18 (fun v5 => ?_)
    refine g_getI fl_RX11_127 rfl dX11_does_21 (fun v6 => ?_)
    refine g_iload_n 1 dX11_does_24 rfl ?_
    refine g_callVi (J := I_X2_doneBy) (t := 3) (As := [.int v6, .int a1]) (rest := []) mjv_X2_doneBy ml_RX11_170 ⟨rfl, by decide, by decide⟩ (by decide) rfl rfl (Nat.le_of_ble_eq_true rfl) dX11_does_25 (T_X2_doneBy F v4 v6 a1 h2) (fun v7 h8 => ?_)
    exact g_iret rfl dX11_does_28
  · refine g_bipush (v := (-2)) dX11_does_8 (by decide) ?_
    refine g_goto (tgt := 28) dX11_does_10 (by decide) ?_
    exact g_iret rfl dX11_does_28
set_option maxRecDepth 100000 in
noncomputable def f_X2_butBits (F : Nat) (a0 : Nat) (a1 : Int32) (h : Hp) : Option (Int32 × Hp) :=
  if a1 < 0 then (some (0, h)) else (if 6 ≤ a1 then (some (0, h)) else (gR 3 h a0 7 fun v3 => aI 20 h v3 a1 fun v4 => some (v4, h)))
set_option maxRecDepth 100000 in
set_option maxHeartbeats 4000000 in
theorem T_X2_butBits (F : Nat) (a0 : Nat) (a1 : Int32) (h : Hp) : GM rvI I_X2_butBits 1 [.ref a0, .int a1] h (f_X2_butBits F a0 a1 h) := by
  delta f_X2_butBits
  refine GM_of (lv := [(0, .ref a0), (1, .int a1)]) (by decide +kernel) (Nat.le_of_ble_eq_true rfl) rfl ?_
  refine g_iload_n 1 dX2_butBits_0 rfl ?_
  refine g_if_lt (tgt := 19) dX2_butBits_1 (by decide) (fun c1 => ?_) (fun c1 => ?_)
  · refine g_iconst (v := 0) dX2_butBits_19 (by decide) ?_
    exact g_iret rfl dX2_butBits_20
  · refine g_iload_n 1 dX2_butBits_4 rfl ?_
    refine g_bipush (v := 6) dX2_butBits_5 (by decide) ?_
    refine g_icmp_ge (tgt := 19) dX2_butBits_7 (by decide) (fun c2 => ?_) (fun c2 => ?_)
    · refine g_iconst (v := 0) dX2_butBits_19 (by decide) ?_
      exact g_iret rfl dX2_butBits_20
    · refine g_aload_n 0 dX2_butBits_10 rfl ?_
      refine g_getR fl_RX2_18 rfl dX2_butBits_11 (fun v3 => ?_)
      refine g_iload_n 1 dX2_butBits_14 rfl ?_
      refine g_iald dX2_butBits_15 (fun v4 => ?_)
      refine g_goto (tgt := 20) dX2_butBits_16 (by decide) ?_
      exact g_iret rfl dX2_butBits_20
set_option maxRecDepth 100000 in
noncomputable def f_X2_isPlace (F : Nat) (a0 : Int32) (a1 : Int32) (h : Hp) : Option (Int32 × Hp) :=
  if a0 < 0 then (some (0, h)) else (if 6 ≤ a0 then (some (0, h)) else (if a1 < 0 then (some (0, h)) else (if 4 ≤ a1 then (some (0, h)) else (some (1, h)))))
set_option maxRecDepth 100000 in
set_option maxHeartbeats 4000000 in
theorem T_X2_isPlace (F : Nat) (a0 : Int32) (a1 : Int32) (h : Hp) : GM rvI I_X2_isPlace 1 [.int a0, .int a1] h (f_X2_isPlace F a0 a1 h) := by
  delta f_X2_isPlace
  refine GM_of (lv := [(0, .int a0), (1, .int a1)]) (by decide +kernel) (Nat.le_of_ble_eq_true rfl) rfl ?_
  refine g_iload_n 0 dX2_isPlace_0 rfl ?_
  refine g_if_lt (tgt := 23) dX2_isPlace_1 (by decide) (fun c1 => ?_) (fun c1 => ?_)
  · refine g_iconst (v := 0) dX2_isPlace_23 (by decide) ?_
    exact g_zret (ty := .boolean) rfl rfl dX2_isPlace_24
  · refine g_iload_n 0 dX2_isPlace_4 rfl ?_
    refine g_bipush (v := 6) dX2_isPlace_5 (by decide) ?_
    refine g_icmp_ge (tgt := 23) dX2_isPlace_7 (by decide) (fun c2 => ?_) (fun c2 => ?_)
    · refine g_iconst (v := 0) dX2_isPlace_23 (by decide) ?_
      exact g_zret (ty := .boolean) rfl rfl dX2_isPlace_24
    · refine g_iload_n 1 dX2_isPlace_10 rfl ?_
      refine g_if_lt (tgt := 23) dX2_isPlace_11 (by decide) (fun c3 => ?_) (fun c3 => ?_)
      · refine g_iconst (v := 0) dX2_isPlace_23 (by decide) ?_
        exact g_zret (ty := .boolean) rfl rfl dX2_isPlace_24
      · refine g_iload_n 1 dX2_isPlace_14 rfl ?_
        refine g_iconst (v := 4) dX2_isPlace_15 (by decide) ?_
        refine g_icmp_ge (tgt := 23) dX2_isPlace_16 (by decide) (fun c4 => ?_) (fun c4 => ?_)
        · refine g_iconst (v := 0) dX2_isPlace_23 (by decide) ?_
          exact g_zret (ty := .boolean) rfl rfl dX2_isPlace_24
        · refine g_iconst (v := 1) dX2_isPlace_19 (by decide) ?_
          refine g_goto (tgt := 24) dX2_isPlace_20 (by decide) ?_
          exact g_zret (ty := .boolean) rfl rfl dX2_isPlace_24
set_option maxRecDepth 100000 in
noncomputable def f_X2_needOf (F : Nat) (a0 : Nat) (a1 : Int32) (a2 : Int32) (h : Hp) : Option (Int32 × Hp) :=
  bd (f_X2_isPlace F a1 a2 h) fun v1 h2 => if v1 = 0 then (some (0, h2)) else (gR 3 h2 a0 6 fun v4 => aI 20 h2 v4 ((a1 * 4) + a2) fun v5 => some (v5, h2))
set_option maxRecDepth 100000 in
set_option maxHeartbeats 4000000 in
theorem T_X2_needOf (F : Nat) (a0 : Nat) (a1 : Int32) (a2 : Int32) (h : Hp) : GM rvI I_X2_needOf 2 [.ref a0, .int a1, .int a2] h (f_X2_needOf F a0 a1 a2 h) := by
  delta f_X2_needOf
  refine GM_of (lv := [(0, .ref a0), (1, .int a1), (2, .int a2)]) (by decide +kernel) (Nat.le_of_ble_eq_true rfl) rfl ?_
  refine g_iload_n 1 dX2_needOf_0 rfl ?_
  refine g_iload_n 2 dX2_needOf_1 rfl ?_
  refine g_callSi (J := I_X2_isPlace) (As := [.int a1, .int a2]) (rest := []) mjs_X2_isPlace ml_RX2_49 (by decide) rfl rfl (Nat.le_of_ble_eq_true rfl) dX2_needOf_2 (T_X2_isPlace F a1 a2 h) (fun v1 h2 => ?_)
  refine g_if_eq (tgt := 21) dX2_needOf_5 (by decide) (fun c3 => ?_) (fun c3 => ?_)
  · refine g_iconst (v := 0) dX2_needOf_21 (by decide) ?_
    exact g_iret rfl dX2_needOf_22
  · refine g_aload_n 0 dX2_needOf_8 rfl ?_
    refine g_getR fl_RX2_15 rfl dX2_needOf_9 (fun v4 => ?_)
    refine g_iload_n 1 dX2_needOf_12 rfl ?_
    refine g_iconst (v := 4) dX2_needOf_13 (by decide) ?_
    refine g_imul dX2_needOf_14 ?_
    refine g_iload_n 2 dX2_needOf_15 rfl ?_
    refine g_iadd dX2_needOf_16 ?_
    refine g_iald dX2_needOf_17 (fun v5 => ?_)
    refine g_goto (tgt := 22) dX2_needOf_18 (by decide) ?_
    exact g_iret rfl dX2_needOf_22
set_option maxRecDepth 100000 in
noncomputable def f_X2_needBits_27 (F : Nat) (K4 : Nat → Int32 → Int32 → Int32 → Hp → Option (Int32 × Hp)) (l0 : Nat) (l1 : Int32) (l2 : Int32) (l3 : Int32) (h : Hp) : Option (Int32 × Hp) :=
  K4 l0 l1 l2 (l3 + 1) h
set_option maxRecDepth 100000 in
set_option maxHeartbeats 4000000 in
theorem T_X2_needBits_27 (F : Nat) {K4 : Nat → Int32 → Int32 → Int32 → Hp → Option (Int32 × Hp)} (hK4 : ∀ (l0 : Nat) (l1 : Int32) (l2 : Int32) (l3 : Int32) (h : Hp), G rvI I_X2_needBits 3 4 [(0, .ref l0), (1, .int l1), (2, .int l2), (3, .int l3)] [] h (K4 l0 l1 l2 l3 h)) (l0 : Nat) (l1 : Int32) (l2 : Int32) (l3 : Int32) (h : Hp) : G rvI I_X2_needBits 3 27 [(0, .ref l0), (1, .int l1), (2, .int l2), (3, .int l3)] [] h (f_X2_needBits_27 F K4 l0 l1 l2 l3 h) := by
  delta f_X2_needBits_27
  refine g_iinc (v' := l3 + 1) (lv' := [(3, .int (l3 + 1)), (0, .ref l0), (1, .int l1), (2, .int l2)]) 3 dX2_needBits_27 rfl rfl (by decide) rfl ?_
  refine g_goto (tgt := 4) dX2_needBits_30 (by decide) ?_
  refine G_lv [1, 2, 3, 0] rfl ?_
  exact hK4 l0 l1 l2 (l3 + 1) h
set_option maxRecDepth 100000 in
noncomputable def f_X2_needBits_4_b (F : Nat) (K4 : Nat → Int32 → Int32 → Int32 → Hp → Option (Int32 × Hp)) (l0 : Nat) (l1 : Int32) (l2 : Int32) (l3 : Int32) (h : Hp) : Option (Int32 × Hp) :=
  gI 3 h l0 0 fun v1 => if v1 ≤ l3 then (some (l2, h)) else (cV 3 h l0 (f_X2_needOf F l0 l1 l3 h) fun v3 h4 => if v3 ≤ 0 then (f_X2_needBits_27 F K4 l0 l1 l2 l3 h4) else (lt (l2 ||| ((1 : Int32) <<< (l3 &&& 31))) fun x6 => f_X2_needBits_27 F K4 l0 l1 x6 l3 h4))
set_option maxRecDepth 100000 in
set_option maxHeartbeats 4000000 in
theorem T_X2_needBits_4_b (F : Nat) {K4 : Nat → Int32 → Int32 → Int32 → Hp → Option (Int32 × Hp)} (hK4 : ∀ (l0 : Nat) (l1 : Int32) (l2 : Int32) (l3 : Int32) (h : Hp), G rvI I_X2_needBits 3 4 [(0, .ref l0), (1, .int l1), (2, .int l2), (3, .int l3)] [] h (K4 l0 l1 l2 l3 h)) (l0 : Nat) (l1 : Int32) (l2 : Int32) (l3 : Int32) (h : Hp) : G rvI I_X2_needBits 3 4 [(0, .ref l0), (1, .int l1), (2, .int l2), (3, .int l3)] [] h (f_X2_needBits_4_b F K4 l0 l1 l2 l3 h) := by
  delta f_X2_needBits_4_b
  refine g_iload_n 3 dX2_needBits_4 rfl ?_
  refine g_aload_n 0 dX2_needBits_5 rfl ?_
  refine g_getI fl_RX2_27 rfl dX2_needBits_6 (fun v1 => ?_)
  refine g_icmp_ge (tgt := 33) dX2_needBits_9 (by decide) (fun c2 => ?_) (fun c2 => ?_)
  · refine g_iload_n 2 dX2_needBits_33 rfl ?_
    exact g_iret rfl dX2_needBits_34
  · refine g_aload_n 0 dX2_needBits_12 rfl ?_
    refine g_iload_n 1 dX2_needBits_13 rfl ?_
    refine g_iload_n 3 dX2_needBits_14 rfl ?_
    refine g_callVi (J := I_X2_needOf) (t := 3) (As := [.int l1, .int l3]) (rest := []) mjv_X2_needOf ml_RX2_53 ⟨rfl, by decide, by decide⟩ (by decide) rfl rfl (Nat.le_of_ble_eq_true rfl) dX2_needBits_15 (T_X2_needOf F l0 l1 l3 h) (fun v3 h4 => ?_)
    refine g_if_le (tgt := 27) dX2_needBits_18 (by decide) (fun c5 => ?_) (fun c5 => ?_)
    · refine G_lv [0, 1, 2, 3] rfl ?_
      exact T_X2_needBits_27 F hK4 l0 l1 l2 l3 h4
    · refine g_iload_n 2 dX2_needBits_21 rfl ?_
      refine g_iconst (v := 1) dX2_needBits_22 (by decide) ?_
      refine g_iload_n 3 dX2_needBits_23 rfl ?_
      refine g_ishl dX2_needBits_24 ?_
      refine g_ior dX2_needBits_25 ?_
      refine G_lti (fun x6 => ?_)
      refine g_istore_n (lv' := [(2, .int x6), (0, .ref l0), (1, .int l1), (3, .int l3)]) dX2_needBits_26 (by decide) rfl ?_
      refine G_lv [1, 2, 0, 3] rfl ?_
      exact T_X2_needBits_27 F hK4 l0 l1 x6 l3 h4
set_option maxRecDepth 100000 in
noncomputable def f_X2_needBits_4 (F : Nat) : Nat → Nat → Int32 → Int32 → Int32 → Hp → Option (Int32 × Hp)
  | 0, _, _, _, _, _ => none
  | n + 1, l0, l1, l2, l3, h => f_X2_needBits_4_b F (f_X2_needBits_4 F n) l0 l1 l2 l3 h
set_option maxRecDepth 100000 in
set_option maxHeartbeats 4000000 in
theorem T_X2_needBits_4 (F : Nat) : ∀ (n : Nat) (l0 : Nat) (l1 : Int32) (l2 : Int32) (l3 : Int32) (h : Hp), G rvI I_X2_needBits 3 4 [(0, .ref l0), (1, .int l1), (2, .int l2), (3, .int l3)] [] h (f_X2_needBits_4 F n l0 l1 l2 l3 h) := by
  intro n
  induction n with
  | zero => intros; exact G_none
  | succ n ih => intro l0 l1 l2 l3 h; exact T_X2_needBits_4_b F ih l0 l1 l2 l3 h
set_option maxRecDepth 100000 in
noncomputable def f_X2_needBits (F : Nat) (a0 : Nat) (a1 : Int32) (h : Hp) : Option (Int32 × Hp) :=
  f_X2_needBits_4 F F a0 a1 0 0 h
set_option maxRecDepth 100000 in
set_option maxHeartbeats 4000000 in
theorem T_X2_needBits (F : Nat) (a0 : Nat) (a1 : Int32) (h : Hp) : GM rvI I_X2_needBits 3 [.ref a0, .int a1] h (f_X2_needBits F a0 a1 h) := by
  delta f_X2_needBits
  refine GM_of (lv := [(0, .ref a0), (1, .int a1)]) (by decide +kernel) (Nat.le_of_ble_eq_true rfl) rfl ?_
  refine g_iconst (v := 0) dX2_needBits_0 (by decide) ?_
  refine g_istore_n (lv' := [(2, .int 0), (0, .ref a0), (1, .int a1)]) dX2_needBits_1 (by decide) rfl ?_
  refine g_iconst (v := 0) dX2_needBits_2 (by decide) ?_
  refine g_istore_n (lv' := [(3, .int 0), (2, .int 0), (0, .ref a0), (1, .int a1)]) dX2_needBits_3 (by decide) rfl ?_
  refine G_lv [2, 3, 1, 0] rfl ?_
  exact T_X2_needBits_4 F F a0 a1 0 0 h
set_option maxRecDepth 100000 in
noncomputable def f_X11_doing (F : Nat) (a0 : Nat) (a1 : Int32) (a2 : Int32) (h : Hp) : Option (Int32 × Hp) :=
  cV 12 h a0 (f_X11_noDoing F a0 a1 h) fun v1 h2 => if v1 = 0 then (if a2 = 0 then (gR 12 h2 a0 3 fun v5 => cV 3 h2 v5 (f_X2_needBits F v5 a1 h2) fun v6 h7 => some (v6, h7)) else (if a2 = 1 then (gR 12 h2 a0 3 fun v9 => cV 3 h2 v9 (f_X2_butBits F v9 a1 h2) fun v10 h11 => some (v10, h11)) else (if a2 = 2 then (gR 12 h2 a0 3 fun v13 => gR 12 h2 a0 5 fun v14 => gI 9 h2 v14 0 fun v15 => cV 3 h2 v13 (f_X2_doneBy F v13 v15 0 h2) fun v16 h17 => gR 12 h17 a0 3 fun v18 => gR 12 h17 a0 5 fun v19 => gI 9 h17 v19 0 fun v20 => cV 3 h17 v18 (f_X2_doneBy F v18 v20 1 h17) fun v21 h22 => some ((((v16 >>> (a1 &&& 31)) &&& 1) ||| (((v21 >>> (a1 &&& 31)) &&& 1) <<< ((1 : Int32) &&& 31))), h22)) else (if a2 < 10 then (some ((-2), h2)) else (cV 12 h2 a0 (f_X11_noFact F a0 (a2 - 10) h2) fun v24 h25 => if v24 = 0 then (gR 12 h25 a0 3 fun v27 => cV 3 h25 v27 (f_X2_needOf F v27 a1 (a2 - 10) h25) fun v28 h29 => some (v28, h29)) else (some ((-2), h25))))))) else (some ((-2), h2))
set_option maxRecDepth 100000 in
set_option maxHeartbeats 4000000 in
theorem T_X11_doing (F : Nat) (a0 : Nat) (a1 : Int32) (a2 : Int32) (h : Hp) : GM rvI I_X11_doing 4 [.ref a0, .int a1, .int a2] h (f_X11_doing F a0 a1 a2 h) := by
  delta f_X11_doing
  refine GM_of (lv := [(0, .ref a0), (1, .int a1), (2, .int a2)]) (by decide +kernel) (Nat.le_of_ble_eq_true rfl) rfl ?_
  refine g_aload_n 0 dX11_doing_0 rfl ?_
  refine g_iload_n 1 dX11_doing_1 rfl ?_
  refine g_callVi (J := I_X11_noDoing) (t := 12) (As := [.int a1]) (rest := []) mjv_X11_noDoing ml_RX11_160 ⟨rfl, by decide, by decide⟩ (by decide) rfl rfl (Nat.le_of_ble_eq_true rfl) dX11_doing_2 (T_X11_noDoing F a0 a1 h) (fun v1 h2 => ?_)
  refine g_if_eq (tgt := 11) dX11_doing_5 (by decide) (fun c3 => ?_) (fun c3 => ?_)
  · refine g_iload_n 2 dX11_doing_11 rfl ?_
    refine g_if_ne (tgt := 24) dX11_doing_12 (by decide) (fun c4 => ?_) (fun c4 => ?_)
    · refine g_aload_n 0 dX11_doing_15 rfl ?_
      refine g_getR fl_RX11_20 rfl dX11_doing_16 (fun v5 => ?_)
      refine g_iload_n 1 dX11_doing_19 rfl ?_
      refine g_callVi (J := I_X2_needBits) (t := 3) (As := [.int a1]) (rest := []) mjv_X2_needBits ml_RX11_163 ⟨rfl, by decide, by decide⟩ (by decide) rfl rfl (Nat.le_of_ble_eq_true rfl) dX11_doing_20 (T_X2_needBits F v5 a1 h2) (fun v6 h7 => ?_)
      exact g_iret rfl dX11_doing_23
    · refine g_iload_n 2 dX11_doing_24 rfl ?_
      refine g_iconst (v := 1) dX11_doing_25 (by decide) ?_
      refine g_icmp_ne (tgt := 38) dX11_doing_26 (by decide) (fun c8 => ?_) (fun c8 => ?_)
      · refine g_aload_n 0 dX11_doing_29 rfl ?_
        refine g_getR fl_RX11_20 rfl dX11_doing_30 (fun v9 => ?_)
        refine g_iload_n 1 dX11_doing_33 rfl ?_
        refine g_callVi (J := I_X2_butBits) (t := 3) (As := [.int a1]) (rest := []) mjv_X2_butBits ml_RX11_167 ⟨rfl, by decide, by decide⟩ (by decide) rfl rfl (Nat.le_of_ble_eq_true rfl) dX11_doing_34 (T_X2_butBits F v9 a1 h2) (fun v10 h11 => ?_)
        exact g_iret rfl dX11_doing_37
      · refine g_iload_n 2 dX11_doing_38 rfl ?_
        refine g_iconst (v := 2) dX11_doing_39 (by decide) ?_
        refine g_icmp_ne (tgt := 85) dX11_doing_40 (by decide) (fun c12 => ?_) (fun c12 => ?_)
        · refine g_aload_n 0 dX11_doing_43 rfl ?_
          refine g_getR fl_RX11_20 rfl dX11_doing_44 (fun v13 => ?_)
          refine g_aload_n 0 dX11_doing_47 rfl ?_
          refine g_getR fl_RX11_36 rfl dX11_doing_48 (fun v14 => ?_)
          refine g_getI fl_RX11_127 rfl dX11_doing_51 (fun v15 => ?_)
          refine g_iconst (v := 0) dX11_doing_54 (by decide) ?_
          refine g_callVi (J := I_X2_doneBy) (t := 3) (As := [.int v15, .int 0]) (rest := []) mjv_X2_doneBy ml_RX11_170 ⟨rfl, by decide, by decide⟩ (by decide) rfl rfl (Nat.le_of_ble_eq_true rfl) dX11_doing_55 (T_X2_doneBy F v13 v15 0 h2) (fun v16 h17 => ?_)
          refine g_iload_n 1 dX11_doing_58 rfl ?_
          refine g_ishr dX11_doing_59 ?_
          refine g_iconst (v := 1) dX11_doing_60 (by decide) ?_
          refine g_iand dX11_doing_61 ?_
          refine g_aload_n 0 dX11_doing_62 rfl ?_
          refine g_getR fl_RX11_20 rfl dX11_doing_63 (fun v18 => ?_)
          refine g_aload_n 0 dX11_doing_66 rfl ?_
          refine g_getR fl_RX11_36 rfl dX11_doing_67 (fun v19 => ?_)
          refine g_getI fl_RX11_127 rfl dX11_doing_70 (fun v20 => ?_)
          refine g_iconst (v := 1) dX11_doing_73 (by decide) ?_
          refine g_callVi (J := I_X2_doneBy) (t := 3) (As := [.int v20, .int 1]) (rest := [.int ((v16 >>> (a1 &&& 31)) &&& 1)]) mjv_X2_doneBy ml_RX11_170 ⟨rfl, by decide, by decide⟩ (by decide) rfl rfl (Nat.le_of_ble_eq_true rfl) dX11_doing_74 (T_X2_doneBy F v18 v20 1 h17) (fun v21 h22 => ?_)
          refine g_iload_n 1 dX11_doing_77 rfl ?_
          refine g_ishr dX11_doing_78 ?_
          refine g_iconst (v := 1) dX11_doing_79 (by decide) ?_
          refine g_iand dX11_doing_80 ?_
          refine g_iconst (v := 1) dX11_doing_81 (by decide) ?_
          refine g_ishl dX11_doing_82 ?_
          refine g_ior dX11_doing_83 ?_
          exact g_iret rfl dX11_doing_84
        · refine g_iload_n 2 dX11_doing_85 rfl ?_
          refine g_bipush (v := 10) dX11_doing_86 (by decide) ?_
          refine g_icmp_lt (tgt := 102) dX11_doing_88 (by decide) (fun c23 => ?_) (fun c23 => ?_)
          · refine g_bipush (v := (-2)) dX11_doing_102 (by decide) ?_
            exact g_iret rfl dX11_doing_104
          · refine g_aload_n 0 dX11_doing_91 rfl ?_
            refine g_iload_n 2 dX11_doing_92 rfl ?_
            refine g_bipush (v := 10) dX11_doing_93 (by decide) ?_
            refine g_isub dX11_doing_95 ?_
            refine g_callVi (J := I_X11_noFact) (t := 12) (As := [.int (a2 - 10)]) (rest := []) mjv_X11_noFact ml_RX11_153 ⟨rfl, by decide, by decide⟩ (by decide) rfl rfl (Nat.le_of_ble_eq_true rfl) dX11_doing_96 (T_X11_noFact F a0 (a2 - 10) h2) (fun v24 h25 => ?_)
            refine g_if_eq (tgt := 105) dX11_doing_99 (by decide) (fun c26 => ?_) (fun c26 => ?_)
            · refine g_aload_n 0 dX11_doing_105 rfl ?_
              refine g_getR fl_RX11_20 rfl dX11_doing_106 (fun v27 => ?_)
              refine g_iload_n 1 dX11_doing_109 rfl ?_
              refine g_iload_n 2 dX11_doing_110 rfl ?_
              refine g_bipush (v := 10) dX11_doing_111 (by decide) ?_
              refine g_isub dX11_doing_113 ?_
              refine g_callVi (J := I_X2_needOf) (t := 3) (As := [.int a1, .int (a2 - 10)]) (rest := []) mjv_X2_needOf ml_RX11_174 ⟨rfl, by decide, by decide⟩ (by decide) rfl rfl (Nat.le_of_ble_eq_true rfl) dX11_doing_114 (T_X2_needOf F v27 a1 (a2 - 10) h25) (fun v28 h29 => ?_)
              exact g_iret rfl dX11_doing_117
            · refine g_bipush (v := (-2)) dX11_doing_102 (by decide) ?_
              exact g_iret rfl dX11_doing_104
  · refine g_bipush (v := (-2)) dX11_doing_8 (by decide) ?_
    exact g_iret rfl dX11_doing_10
set_option maxRecDepth 100000 in
noncomputable def f_X11_fault (F : Nat) (a0 : Nat) (a1 : Int32) (h : Hp) : Option (Int32 × Hp) :=
  if a1 = 0 then (gR 12 h a0 4 fun v2 => gI 6 h v2 0 fun v3 => some (v3, h)) else (if a1 = 1 then (gR 12 h a0 4 fun v5 => gI 6 h v5 1 fun v6 => some (v6, h)) else (some ((-1), h)))
set_option maxRecDepth 100000 in
set_option maxHeartbeats 4000000 in
theorem T_X11_fault (F : Nat) (a0 : Nat) (a1 : Int32) (h : Hp) : GM rvI I_X11_fault 1 [.ref a0, .int a1] h (f_X11_fault F a0 a1 h) := by
  delta f_X11_fault
  refine GM_of (lv := [(0, .ref a0), (1, .int a1)]) (by decide +kernel) (Nat.le_of_ble_eq_true rfl) rfl ?_
  refine g_iload_n 1 dX11_fault_0 rfl ?_
  refine g_if_ne (tgt := 12) dX11_fault_1 (by decide) (fun c1 => ?_) (fun c1 => ?_)
  · refine g_aload_n 0 dX11_fault_4 rfl ?_
    refine g_getR fl_RX11_29 rfl dX11_fault_5 (fun v2 => ?_)
    refine g_getI fl_RX11_121 rfl dX11_fault_8 (fun v3 => ?_)
    exact g_iret rfl dX11_fault_11
  · refine g_iload_n 1 dX11_fault_12 rfl ?_
    refine g_iconst (v := 1) dX11_fault_13 (by decide) ?_
    refine g_icmp_ne (tgt := 27) dX11_fault_14 (by decide) (fun c4 => ?_) (fun c4 => ?_)
    · refine g_aload_n 0 dX11_fault_17 rfl ?_
      refine g_getR fl_RX11_29 rfl dX11_fault_18 (fun v5 => ?_)
      refine g_getI fl_RX11_146 rfl dX11_fault_21 (fun v6 => ?_)
      refine g_goto (tgt := 28) dX11_fault_24 (by decide) ?_
      exact g_iret rfl dX11_fault_28
    · refine g_iconst (v := (-1)) dX11_fault_27 (by decide) ?_
      exact g_iret rfl dX11_fault_28
set_option maxRecDepth 100000 in
noncomputable def f_X11_tapeInt_3_b (F : Nat) (K3 : Nat → Int32 → Int32 → Hp → Option (Unit × Hp)) (l0 : Nat) (l1 : Int32) (l2 : Int32) (h : Hp) : Option (Unit × Hp) :=
  if l2 < 0 then (some ((), h)) else (gI 12 h l0 1 fun v2 => if 900 ≤ v2 then (some ((), h)) else (gR 12 h l0 0 fun v4 => gI 12 h l0 1 fun v5 => wB h v4 v5 (((l1 >>> (l2 &&& 31)) : Int32).toInt8.toInt32) fun h6 => gI 12 h6 l0 1 fun v7 => pI 12 h6 l0 1 (v7 + 1) fun h8 => K3 l0 l1 (l2 + (-8)) h8))
set_option maxRecDepth 100000 in
set_option maxHeartbeats 4000000 in
theorem T_X11_tapeInt_3_b (F : Nat) {K3 : Nat → Int32 → Int32 → Hp → Option (Unit × Hp)} (hK3 : ∀ (l0 : Nat) (l1 : Int32) (l2 : Int32) (h : Hp), G rvV I_X11_tapeInt 1 3 [(0, .ref l0), (1, .int l1), (2, .int l2)] [] h (K3 l0 l1 l2 h)) (l0 : Nat) (l1 : Int32) (l2 : Int32) (h : Hp) : G rvV I_X11_tapeInt 1 3 [(0, .ref l0), (1, .int l1), (2, .int l2)] [] h (f_X11_tapeInt_3_b F K3 l0 l1 l2 h) := by
  delta f_X11_tapeInt_3_b
  refine g_iload_n 2 dX11_tapeInt_3 rfl ?_
  refine g_if_lt (tgt := 46) dX11_tapeInt_4 (by decide) (fun c1 => ?_) (fun c1 => ?_)
  · exact g_vret rfl dX11_tapeInt_46
  · refine g_aload_n 0 dX11_tapeInt_7 rfl ?_
    refine g_getI fl_RX11_102 rfl dX11_tapeInt_8 (fun v2 => ?_)
    refine g_sipush (v := 900) dX11_tapeInt_11 (by decide) ?_
    refine g_icmp_ge (tgt := 46) dX11_tapeInt_14 (by decide) (fun c3 => ?_) (fun c3 => ?_)
    · exact g_vret rfl dX11_tapeInt_46
    · refine g_aload_n 0 dX11_tapeInt_17 rfl ?_
      refine g_getR fl_RX11_9 rfl dX11_tapeInt_18 (fun v4 => ?_)
      refine g_aload_n 0 dX11_tapeInt_21 rfl ?_
      refine g_getI fl_RX11_102 rfl dX11_tapeInt_22 (fun v5 => ?_)
      refine g_iload_n 1 dX11_tapeInt_25 rfl ?_
      refine g_iload_n 2 dX11_tapeInt_26 rfl ?_
      refine g_ishr dX11_tapeInt_27 ?_
      refine g_i2b dX11_tapeInt_28 ?_
      refine g_bast dX11_tapeInt_29 (fun h6 => ?_)
      refine g_aload_n 0 dX11_tapeInt_30 rfl ?_
      refine g_dup dX11_tapeInt_31 rfl ?_
      refine g_getI fl_RX11_102 rfl dX11_tapeInt_32 (fun v7 => ?_)
      refine g_iconst (v := 1) dX11_tapeInt_35 (by decide) ?_
      refine g_iadd dX11_tapeInt_36 ?_
      refine g_putI fl_RX11_102 (Or.inl rfl) dX11_tapeInt_37 (fun h8 => ?_)
      refine g_iinc (v' := l2 + (-8)) (lv' := [(2, .int (l2 + (-8))), (0, .ref l0), (1, .int l1)]) 2 dX11_tapeInt_40 rfl rfl (by decide) rfl ?_
      refine g_goto (tgt := 3) dX11_tapeInt_43 (by decide) ?_
      refine G_lv [1, 2, 0] rfl ?_
      exact hK3 l0 l1 (l2 + (-8)) h8
set_option maxRecDepth 100000 in
noncomputable def f_X11_tapeInt_3 (F : Nat) : Nat → Nat → Int32 → Int32 → Hp → Option (Unit × Hp)
  | 0, _, _, _, _ => none
  | n + 1, l0, l1, l2, h => f_X11_tapeInt_3_b F (f_X11_tapeInt_3 F n) l0 l1 l2 h
set_option maxRecDepth 100000 in
set_option maxHeartbeats 4000000 in
theorem T_X11_tapeInt_3 (F : Nat) : ∀ (n : Nat) (l0 : Nat) (l1 : Int32) (l2 : Int32) (h : Hp), G rvV I_X11_tapeInt 1 3 [(0, .ref l0), (1, .int l1), (2, .int l2)] [] h (f_X11_tapeInt_3 F n l0 l1 l2 h) := by
  intro n
  induction n with
  | zero => intros; exact G_none
  | succ n ih => intro l0 l1 l2 h; exact T_X11_tapeInt_3_b F ih l0 l1 l2 h
set_option maxRecDepth 100000 in
noncomputable def f_X11_tapeInt (F : Nat) (a0 : Nat) (a1 : Int32) (h : Hp) : Option (Unit × Hp) :=
  f_X11_tapeInt_3 F F a0 a1 24 h
set_option maxRecDepth 100000 in
set_option maxHeartbeats 4000000 in
theorem T_X11_tapeInt (F : Nat) (a0 : Nat) (a1 : Int32) (h : Hp) : GM rvV I_X11_tapeInt 1 [.ref a0, .int a1] h (f_X11_tapeInt F a0 a1 h) := by
  delta f_X11_tapeInt
  refine GM_of (lv := [(0, .ref a0), (1, .int a1)]) (by decide +kernel) (Nat.le_of_ble_eq_true rfl) rfl ?_
  refine g_bipush (v := 24) dX11_tapeInt_0 (by decide) ?_
  refine g_istore_n (lv' := [(2, .int 24), (0, .ref a0), (1, .int a1)]) dX11_tapeInt_2 (by decide) rfl ?_
  refine G_lv [1, 2, 0] rfl ?_
  exact T_X11_tapeInt_3 F F a0 a1 24 h
set_option maxRecDepth 100000 in
noncomputable def f_X11_feed (F : Nat) (a0 : Nat) (a1 : Int32) (a2 : Int32) (a3 : Int32) (a4 : Int32) (a5 : Int32) (h : Hp) : Option (Int32 × Hp) :=
  gI 12 h a0 1 fun v1 => if (v1 + 20) ≤ 900 then (cV 12 h a0 (f_X11_tapeInt F a0 a1 h) fun v3 h4 => cV 12 h4 a0 (f_X11_tapeInt F a0 a2 h4) fun v5 h6 => cV 12 h6 a0 (f_X11_tapeInt F a0 a3 h6) fun v7 h8 => cV 12 h8 a0 (f_X11_tapeInt F a0 a4 h8) fun v9 h10 => cV 12 h10 a0 (f_X11_tapeInt F a0 a5 h10) fun v11 h12 => gI 12 h12 a0 1 fun v13 => some (v13, h12)) else (some ((-5), h))
set_option maxRecDepth 100000 in
set_option maxHeartbeats 4000000 in
theorem T_X11_feed (F : Nat) (a0 : Nat) (a1 : Int32) (a2 : Int32) (a3 : Int32) (a4 : Int32) (a5 : Int32) (h : Hp) : GM rvI I_X11_feed 2 [.ref a0, .int a1, .int a2, .int a3, .int a4, .int a5] h (f_X11_feed F a0 a1 a2 a3 a4 a5 h) := by
  delta f_X11_feed
  refine GM_of (lv := [(0, .ref a0), (1, .int a1), (2, .int a2), (3, .int a3), (4, .int a4), (5, .int a5)]) (by decide +kernel) (Nat.le_of_ble_eq_true rfl) rfl ?_
  refine g_aload_n 0 dX11_feed_0 rfl ?_
  refine g_getI fl_RX11_102 rfl dX11_feed_1 (fun v1 => ?_)
  refine g_bipush (v := 20) dX11_feed_4 (by decide) ?_
  refine g_iadd dX11_feed_6 ?_
  refine g_sipush (v := 900) dX11_feed_7 (by decide) ?_
  refine g_icmp_le (tgt := 16) dX11_feed_10 (by decide) (fun c2 => ?_) (fun c2 => ?_)
  · refine g_aload_n 0 dX11_feed_16 rfl ?_
    refine g_iload_n 1 dX11_feed_17 rfl ?_
    refine g_callVv (J := I_X11_tapeInt) (t := 12) (As := [.int a1]) (rest := []) mjv_X11_tapeInt ml_RX11_106 ⟨rfl, by decide, by decide⟩ (by decide) rfl rfl (Nat.le_of_ble_eq_true rfl) dX11_feed_18 (T_X11_tapeInt F a0 a1 h) (fun v3 h4 => ?_)
    refine g_aload_n 0 dX11_feed_21 rfl ?_
    refine g_iload_n 2 dX11_feed_22 rfl ?_
    refine g_callVv (J := I_X11_tapeInt) (t := 12) (As := [.int a2]) (rest := []) mjv_X11_tapeInt ml_RX11_106 ⟨rfl, by decide, by decide⟩ (by decide) rfl rfl (Nat.le_of_ble_eq_true rfl) dX11_feed_23 (T_X11_tapeInt F a0 a2 h4) (fun v5 h6 => ?_)
    refine g_aload_n 0 dX11_feed_26 rfl ?_
    refine g_iload_n 3 dX11_feed_27 rfl ?_
    refine g_callVv (J := I_X11_tapeInt) (t := 12) (As := [.int a3]) (rest := []) mjv_X11_tapeInt ml_RX11_106 ⟨rfl, by decide, by decide⟩ (by decide) rfl rfl (Nat.le_of_ble_eq_true rfl) dX11_feed_28 (T_X11_tapeInt F a0 a3 h6) (fun v7 h8 => ?_)
    refine g_aload_n 0 dX11_feed_31 rfl ?_
    refine g_iload 4 dX11_feed_32 rfl ?_
    refine g_callVv (J := I_X11_tapeInt) (t := 12) (As := [.int a4]) (rest := []) mjv_X11_tapeInt ml_RX11_106 ⟨rfl, by decide, by decide⟩ (by decide) rfl rfl (Nat.le_of_ble_eq_true rfl) dX11_feed_34 (T_X11_tapeInt F a0 a4 h8) (fun v9 h10 => ?_)
    refine g_aload_n 0 dX11_feed_37 rfl ?_
    refine g_iload 5 dX11_feed_38 rfl ?_
    refine g_callVv (J := I_X11_tapeInt) (t := 12) (As := [.int a5]) (rest := []) mjv_X11_tapeInt ml_RX11_106 ⟨rfl, by decide, by decide⟩ (by decide) rfl rfl (Nat.le_of_ble_eq_true rfl) dX11_feed_40 (T_X11_tapeInt F a0 a5 h10) (fun v11 h12 => ?_)
    refine g_aload_n 0 dX11_feed_43 rfl ?_
    refine g_getI fl_RX11_102 rfl dX11_feed_44 (fun v13 => ?_)
    exact g_iret rfl dX11_feed_47
  · refine g_bipush (v := (-5)) dX11_feed_13 (by decide) ?_
    exact g_iret rfl dX11_feed_15
set_option maxRecDepth 100000 in
noncomputable def f_X11_forces (F : Nat) (a0 : Nat) (a1 : Int32) (a2 : Int32) (h : Hp) : Option (Int32 × Hp) :=
  cV 12 h a0 (f_X11_noTwin F a0 a1 h) fun v1 h2 => if v1 = 0 then (cV 12 h2 a0 (f_X11_noDoing F a0 a2 h2) fun v4 h5 => if v4 = 0 then (gR 12 h5 a0 14 fun v7 => gR 12 h5 a0 3 fun v8 => gR 12 h5 a0 5 fun v9 => gI 9 h5 v9 1 fun v10 => cV 2 h5 v7 (f_X1_begin F v7 v8 v10 a1 a2 h5) fun v11 h12 => gR 12 h12 a0 14 fun v13 => gR 12 h12 a0 5 fun v14 => gI 9 h12 v14 0 fun v15 => cV 2 h12 v13 (f_X1_fewestTurns F v13 v15 h12) fun v16 h17 => some (v16, h17)) else (some ((-2), h5))) else (some ((-2), h2))
set_option maxRecDepth 100000 in
set_option maxHeartbeats 4000000 in
theorem T_X11_forces (F : Nat) (a0 : Nat) (a1 : Int32) (a2 : Int32) (h : Hp) : GM rvI I_X11_forces 22 [.ref a0, .int a1, .int a2] h (f_X11_forces F a0 a1 a2 h) := by
  delta f_X11_forces
  refine GM_of (lv := [(0, .ref a0), (1, .int a1), (2, .int a2)]) (by decide +kernel) (Nat.le_of_ble_eq_true rfl) rfl ?_
  refine g_aload_n 0 dX11_forces_0 rfl ?_
  refine g_iload_n 1 dX11_forces_1 rfl ?_
  refine g_callVi (J := I_X11_noTwin) (t := 12) (As := [.int a1]) (rest := []) mjv_X11_noTwin ml_RX11_149 ⟨rfl, by decide, by decide⟩ (by decide) rfl rfl (Nat.le_of_ble_eq_true rfl) dX11_forces_2 (T_X11_noTwin F a0 a1 h) (fun v1 h2 => ?_)
  refine g_if_ne (tgt := 16) dX11_forces_5 (by decide) (fun c3 => ?_) (fun c3 => ?_)
  · refine g_aload_n 0 dX11_forces_8 rfl ?_
    refine g_iload_n 2 dX11_forces_9 rfl ?_
    refine g_callVi (J := I_X11_noDoing) (t := 12) (As := [.int a2]) (rest := []) mjv_X11_noDoing ml_RX11_160 ⟨rfl, by decide, by decide⟩ (by decide) rfl rfl (Nat.le_of_ble_eq_true rfl) dX11_forces_10 (T_X11_noDoing F a0 a2 h2) (fun v4 h5 => ?_)
    refine g_if_eq (tgt := 19) dX11_forces_13 (by decide) (fun c6 => ?_) (fun c6 => ?_)
    · refine g_aload_n 0 dX11_forces_19 rfl ?_
      refine g_getR fl_RX11_83 rfl dX11_forces_20 (fun v7 => ?_)
      refine g_aload_n 0 dX11_forces_23 rfl ?_
      refine g_getR fl_RX11_20 rfl dX11_forces_24 (fun v8 => ?_)
      refine g_aload_n 0 dX11_forces_27 rfl ?_
      refine g_getR fl_RX11_36 rfl dX11_forces_28 (fun v9 => ?_)
      refine g_getI fl_RX11_133 rfl dX11_forces_31 (fun v10 => ?_)
      refine g_iload_n 1 dX11_forces_34 rfl ?_
      refine g_iload_n 2 dX11_forces_35 rfl ?_
      refine g_callVv (J := I_X1_begin) (t := 2) (As := [.ref v8, .int v10, .int a1, .int a2]) (rest := []) mjv_X1_begin ml_RX11_349 ⟨rfl, by decide, by decide⟩ (by decide) rfl rfl (Nat.le_of_ble_eq_true rfl) dX11_forces_36 (T_X1_begin F v7 v8 v10 a1 a2 h5) (fun v11 h12 => ?_)
      refine g_aload_n 0 dX11_forces_39 rfl ?_
      refine g_getR fl_RX11_83 rfl dX11_forces_40 (fun v13 => ?_)
      refine g_aload_n 0 dX11_forces_43 rfl ?_
      refine g_getR fl_RX11_36 rfl dX11_forces_44 (fun v14 => ?_)
      refine g_getI fl_RX11_127 rfl dX11_forces_47 (fun v15 => ?_)
      refine g_callVi (J := I_X1_fewestTurns) (t := 2) (As := [.int v15]) (rest := []) mjv_X1_fewestTurns ml_RX11_352 ⟨rfl, by decide, by decide⟩ (by decide) rfl rfl (Nat.le_of_ble_eq_true rfl) dX11_forces_50 (T_X1_fewestTurns F v13 v15 h12) (fun v16 h17 => ?_)
      exact g_iret rfl dX11_forces_53
    · refine g_bipush (v := (-2)) dX11_forces_16 (by decide) ?_
      exact g_iret rfl dX11_forces_18
  · refine g_bipush (v := (-2)) dX11_forces_16 (by decide) ?_
    exact g_iret rfl dX11_forces_18
set_option maxRecDepth 100000 in
noncomputable def f_X11_forget (F : Nat) (a0 : Nat) (a1 : Int32) (a2 : Int32) (h : Hp) : Option (Int32 × Hp) :=
  gR 12 h a0 6 fun v1 => gR 12 h a0 5 fun v2 => cV 9 h v1 (f_X8_copy F v1 v2 h) fun v3 h4 => gR 12 h4 a0 6 fun v5 => gR 12 h4 a0 3 fun v6 => cV 9 h4 v5 (f_X8_forgetting F v5 v6 a1 a2 h4) fun v7 h8 => if v7 = 0 then (gR 12 h8 a0 5 fun v10 => gI 9 h8 v10 0 fun v11 => bd (f_X2_ageIn F v11 a1 a2 h8) fun v12 h13 => cV 12 h13 a0 (f_X11_takeTrial F a0 h13) fun v14 h15 => some (v12, h15)) else (some (((-10) - v7), h8))
set_option maxRecDepth 100000 in
set_option maxHeartbeats 4000000 in
theorem T_X11_forget (F : Nat) (a0 : Nat) (a1 : Int32) (a2 : Int32) (h : Hp) : GM rvI I_X11_forget 3 [.ref a0, .int a1, .int a2] h (f_X11_forget F a0 a1 a2 h) := by
  delta f_X11_forget
  refine GM_of (lv := [(0, .ref a0), (1, .int a1), (2, .int a2)]) (by decide +kernel) (Nat.le_of_ble_eq_true rfl) rfl ?_
  refine g_aload_n 0 dX11_forget_0 rfl ?_
  refine g_getR fl_RX11_40 rfl dX11_forget_1 (fun v1 => ?_)
  refine g_aload_n 0 dX11_forget_4 rfl ?_
  refine g_getR fl_RX11_36 rfl dX11_forget_5 (fun v2 => ?_)
  refine g_callVv (J := I_X8_copy) (t := 9) (As := [.ref v2]) (rest := []) mjv_X8_copy ml_RX11_187 ⟨rfl, by decide, by decide⟩ (by decide) rfl rfl (Nat.le_of_ble_eq_true rfl) dX11_forget_8 (T_X8_copy F v1 v2 h) (fun v3 h4 => ?_)
  refine g_aload_n 0 dX11_forget_11 rfl ?_
  refine g_getR fl_RX11_40 rfl dX11_forget_12 (fun v5 => ?_)
  refine g_aload_n 0 dX11_forget_15 rfl ?_
  refine g_getR fl_RX11_20 rfl dX11_forget_16 (fun v6 => ?_)
  refine g_iload_n 1 dX11_forget_19 rfl ?_
  refine g_iload_n 2 dX11_forget_20 rfl ?_
  refine g_callVi (J := I_X8_forgetting) (t := 9) (As := [.ref v6, .int a1, .int a2]) (rest := []) mjv_X8_forgetting ml_RX11_204 ⟨rfl, by decide, by decide⟩ (by decide) rfl rfl (Nat.le_of_ble_eq_true rfl) dX11_forget_21 (T_X8_forgetting F v5 v6 a1 a2 h4) (fun v7 h8 => ?_)
  refine g_istore_n (lv' := [(3, .int v7), (0, .ref a0), (1, .int a1), (2, .int a2)]) dX11_forget_24 (by decide) rfl ?_
  refine g_iload_n 0 dX11_forget_25 rfl ?_
  refine g_if_eq (tgt := 34) dX11_forget_26 (by decide) (fun c9 => ?_) (fun c9 => ?_)
  · refine g_aload_n 1 dX11_forget_34 rfl ?_
    refine g_getR fl_RX11_36 rfl dX11_forget_35 (fun v10 => ?_)
    refine g_getI fl_RX11_127 rfl dX11_forget_38 (fun v11 => ?_)
    refine g_iload_n 2 dX11_forget_41 rfl ?_
    refine g_iload_n 3 dX11_forget_42 rfl ?_
    refine g_callSi (J := I_X2_ageIn) (As := [.int v11, .int a1, .int a2]) (rest := []) mjs_X2_ageIn ml_RX11_156 (by decide) rfl rfl (Nat.le_of_ble_eq_true rfl) dX11_forget_43 (T_X2_ageIn F v11 a1 a2 h8) (fun v12 h13 => ?_)
    refine g_istore (lv' := [(4, .int v12), (3, .int v7), (0, .ref a0), (1, .int a1), (2, .int a2)]) dX11_forget_46 (by decide) rfl ?_
    refine g_aload_n 2 dX11_forget_48 rfl ?_
    refine g_callVv (J := I_X11_takeTrial) (t := 12) (As := []) (rest := []) mjv_X11_takeTrial ml_RX11_195 ⟨rfl, by decide, by decide⟩ (by decide) rfl rfl (Nat.le_of_ble_eq_true rfl) dX11_forget_49 (T_X11_takeTrial F a0 h13) (fun v14 h15 => ?_)
    refine g_iload 0 dX11_forget_52 rfl ?_
    exact g_iret rfl dX11_forget_54
  · refine g_bipush (v := (-10)) dX11_forget_29 (by decide) ?_
    refine g_iload_n 0 dX11_forget_31 rfl ?_
    refine g_isub dX11_forget_32 ?_
    exact g_iret rfl dX11_forget_33
set_option maxRecDepth 100000 in
noncomputable def f_X11_isInUse_2_b (F : Nat) (K2 : Nat → Nat → Int32 → Hp → Option (Int32 × Hp)) (l0 : Nat) (l1 : Nat) (l2 : Int32) (h : Hp) : Option (Int32 × Hp) :=
  gR 12 h l0 9 fun v1 => al 24 h v1 fun v2 => if v2 ≤ l2 then (gR 12 h l0 3 fun v4 => if v4 = l1 then (some (1, h)) else (some (0, h))) else (gR 12 h l0 9 fun v6 => aO 24 h v6 l2 (K2 l0 l1 (l2 + 1) h) (fun v7 => if v7 = l1 then (some (1, h)) else (K2 l0 l1 (l2 + 1) h)))
set_option maxRecDepth 100000 in
set_option maxHeartbeats 4000000 in
theorem T_X11_isInUse_2_b (F : Nat) {K2 : Nat → Nat → Int32 → Hp → Option (Int32 × Hp)} (hK2 : ∀ (l0 : Nat) (l1 : Nat) (l2 : Int32) (h : Hp), G rvI I_X11_isInUse 1 2 [(0, .ref l0), (1, .ref l1), (2, .int l2)] [] h (K2 l0 l1 l2 h)) (l0 : Nat) (l1 : Nat) (l2 : Int32) (h : Hp) : G rvI I_X11_isInUse 1 2 [(0, .ref l0), (1, .ref l1), (2, .int l2)] [] h (f_X11_isInUse_2_b F K2 l0 l1 l2 h) := by
  delta f_X11_isInUse_2_b
  refine g_iload_n 2 dX11_isInUse_2 rfl ?_
  refine g_aload_n 0 dX11_isInUse_3 rfl ?_
  refine g_getR fl_RX11_56 rfl dX11_isInUse_4 (fun v1 => ?_)
  refine g_alen (by decide) (by decide) dX11_isInUse_7 (fun v2 => ?_)
  refine g_icmp_ge (tgt := 29) dX11_isInUse_8 (by decide) (fun c3 => ?_) (fun c3 => ?_)
  · refine g_aload_n 0 dX11_isInUse_29 rfl ?_
    refine g_getR fl_RX11_20 rfl dX11_isInUse_30 (fun v4 => ?_)
    refine g_aload_n 1 dX11_isInUse_33 rfl ?_
    refine g_acmp_ne (tgt := 41) dX11_isInUse_34 (by decide) (fun c5 => ?_) (fun c5 => ?_)
    · refine g_iconst (v := 1) dX11_isInUse_37 (by decide) ?_
      refine g_goto (tgt := 42) dX11_isInUse_38 (by decide) ?_
      exact g_zret (ty := .boolean) rfl rfl dX11_isInUse_42
    · refine g_iconst (v := 0) dX11_isInUse_41 (by decide) ?_
      exact g_zret (ty := .boolean) rfl rfl dX11_isInUse_42
  · refine g_aload_n 0 dX11_isInUse_11 rfl ?_
    refine g_getR fl_RX11_56 rfl dX11_isInUse_12 (fun v6 => ?_)
    refine g_iload_n 2 dX11_isInUse_15 rfl ?_
    refine g_aaldO (by decide) (by decide) dX11_isInUse_16 ?_ (fun v7 => ?_)
    · refine g_aload_n 1 dX11_isInUse_17 rfl ?_
      refine g_acmp_neN (tgt := 23) dX11_isInUse_18 (by decide) ?_
      refine g_iinc (v' := l2 + 1) (lv' := [(2, .int (l2 + 1)), (0, .ref l0), (1, .ref l1)]) 2 dX11_isInUse_23 rfl rfl (by decide) rfl ?_
      refine g_goto (tgt := 2) dX11_isInUse_26 (by decide) ?_
      refine G_lv [1, 2, 0] rfl ?_
      exact hK2 l0 l1 (l2 + 1) h
    · refine g_aload_n 1 dX11_isInUse_17 rfl ?_
      refine g_acmp_ne (tgt := 23) dX11_isInUse_18 (by decide) (fun c8 => ?_) (fun c8 => ?_)
      · refine g_iconst (v := 1) dX11_isInUse_21 (by decide) ?_
        exact g_zret (ty := .boolean) rfl rfl dX11_isInUse_22
      · refine g_iinc (v' := l2 + 1) (lv' := [(2, .int (l2 + 1)), (0, .ref l0), (1, .ref l1)]) 2 dX11_isInUse_23 rfl rfl (by decide) rfl ?_
        refine g_goto (tgt := 2) dX11_isInUse_26 (by decide) ?_
        refine G_lv [1, 2, 0] rfl ?_
        exact hK2 l0 l1 (l2 + 1) h
set_option maxRecDepth 100000 in
noncomputable def f_X11_isInUse_2 (F : Nat) : Nat → Nat → Nat → Int32 → Hp → Option (Int32 × Hp)
  | 0, _, _, _, _ => none
  | n + 1, l0, l1, l2, h => f_X11_isInUse_2_b F (f_X11_isInUse_2 F n) l0 l1 l2 h
set_option maxRecDepth 100000 in
set_option maxHeartbeats 4000000 in
theorem T_X11_isInUse_2 (F : Nat) : ∀ (n : Nat) (l0 : Nat) (l1 : Nat) (l2 : Int32) (h : Hp), G rvI I_X11_isInUse 1 2 [(0, .ref l0), (1, .ref l1), (2, .int l2)] [] h (f_X11_isInUse_2 F n l0 l1 l2 h) := by
  intro n
  induction n with
  | zero => intros; exact G_none
  | succ n ih => intro l0 l1 l2 h; exact T_X11_isInUse_2_b F ih l0 l1 l2 h
set_option maxRecDepth 100000 in
noncomputable def f_X11_isInUse (F : Nat) (a0 : Nat) (a1 : Nat) (h : Hp) : Option (Int32 × Hp) :=
  f_X11_isInUse_2 F F a0 a1 0 h
set_option maxRecDepth 100000 in
set_option maxHeartbeats 4000000 in
theorem T_X11_isInUse (F : Nat) (a0 : Nat) (a1 : Nat) (h : Hp) : GM rvI I_X11_isInUse 1 [.ref a0, .ref a1] h (f_X11_isInUse F a0 a1 h) := by
  delta f_X11_isInUse
  refine GM_of (lv := [(0, .ref a0), (1, .ref a1)]) (by decide +kernel) (Nat.le_of_ble_eq_true rfl) rfl ?_
  refine g_iconst (v := 0) dX11_isInUse_0 (by decide) ?_
  refine g_istore_n (lv' := [(2, .int 0), (0, .ref a0), (1, .ref a1)]) dX11_isInUse_1 (by decide) rfl ?_
  refine G_lv [1, 2, 0] rfl ?_
  exact T_X11_isInUse_2 F F a0 a1 0 h
set_option maxRecDepth 100000 in
noncomputable def f_X2_init (F : Nat) (a0 : Nat) (h : Hp) : Option (Unit × Hp) :=
  nA 20 h 4 fun b1 h2 => pR 3 h2 a0 5 b1 fun h3 => nA 20 h3 24 fun b4 h5 => pR 3 h5 a0 6 b4 fun h6 => nA 20 h6 6 fun b7 h8 => pR 3 h8 a0 7 b7 fun h9 => nA 20 h9 256 fun b10 h11 => pR 3 h11 a0 8 b10 fun h12 => nA 20 h12 2000 fun b13 h14 => pR 3 h14 a0 9 b13 fun h15 => some ((), h15)
set_option maxRecDepth 100000 in
set_option maxHeartbeats 4000000 in
theorem T_X2_init (F : Nat) (a0 : Nat) (h : Hp) : GM rvV I_X2_init 1 [.ref a0] h (f_X2_init F a0 h) := by
  delta f_X2_init
  refine GM_of (lv := [(0, .ref a0)]) (by decide +kernel) (Nat.le_of_ble_eq_true rfl) rfl ?_
  refine g_aload_n 0 dX2_init_0 rfl ?_
  refine g_objInit oi_RX2_5 (by decide) (Nat.le_of_ble_eq_true rfl) dX2_init_1 ?_
  refine g_aload_n 0 dX2_init_4 rfl ?_
  refine g_iconst (v := 4) dX2_init_5 (by decide) ?_
  refine g_newa (t := 20) (by decide) (by decide) rfl ac_int dX2_init_6 (fun b1 h2 => ?_)
  refine g_putR fl_RX2_11 rfl (Or.inr ⟨rfl, rfl, rfl⟩) dX2_init_8 (fun h3 => ?_)
  refine g_aload_n 0 dX2_init_11 rfl ?_
  refine g_bipush (v := 24) dX2_init_12 (by decide) ?_
  refine g_newa (t := 20) (by decide) (by decide) rfl ac_int dX2_init_14 (fun b4 h5 => ?_)
  refine g_putR fl_RX2_15 rfl (Or.inr ⟨rfl, rfl, rfl⟩) dX2_init_16 (fun h6 => ?_)
  refine g_aload_n 0 dX2_init_19 rfl ?_
  refine g_bipush (v := 6) dX2_init_20 (by decide) ?_
  refine g_newa (t := 20) (by decide) (by decide) rfl ac_int dX2_init_22 (fun b7 h8 => ?_)
  refine g_putR fl_RX2_18 rfl (Or.inr ⟨rfl, rfl, rfl⟩) dX2_init_24 (fun h9 => ?_)
  refine g_aload_n 0 dX2_init_27 rfl ?_
  refine g_sipush (v := 256) dX2_init_28 (by decide) ?_
  refine g_newa (t := 20) (by decide) (by decide) rfl ac_int dX2_init_31 (fun b10 h11 => ?_)
  refine g_putR fl_RX2_21 rfl (Or.inr ⟨rfl, rfl, rfl⟩) dX2_init_33 (fun h12 => ?_)
  refine g_aload_n 0 dX2_init_36 rfl ?_
  refine g_sipush (v := 2000) dX2_init_37 (by decide) ?_
  refine g_newa (t := 20) (by decide) (by decide) rfl ac_int dX2_init_40 (fun b13 h14 => ?_)
  refine g_putR fl_RX2_24 rfl (Or.inr ⟨rfl, rfl, rfl⟩) dX2_init_42 (fun h15 => ?_)
  exact g_vret rfl dX2_init_45
set_option maxRecDepth 100000 in
noncomputable def f_X11_spareHouse_33 (F : Nat) (K2 : Nat → Int32 → Hp → Option (Nat × Hp)) (l0 : Nat) (l1 : Int32) (h : Hp) : Option (Nat × Hp) :=
  gR 12 h l0 2 fun v16 => aR 24 h v16 l1 fun v17 => cV 12 h l0 (f_X11_isInUse F l0 v17 h) fun v18 h19 => if v18 = 0 then (gR 12 h19 l0 2 fun v21 => aR 24 h19 v21 l1 fun v22 => some (v22, h19)) else (K2 l0 (l1 + 1) h19)
set_option maxRecDepth 100000 in
set_option maxHeartbeats 4000000 in
theorem T_X11_spareHouse_33 (F : Nat) {K2 : Nat → Int32 → Hp → Option (Nat × Hp)} (hK2 : ∀ (l0 : Nat) (l1 : Int32) (h : Hp), G rvR I_X11_spareHouse 2 2 [(0, .ref l0), (1, .int l1)] [] h (K2 l0 l1 h)) (l0 : Nat) (l1 : Int32) (h : Hp) : G rvR I_X11_spareHouse 2 33 [(0, .ref l0), (1, .int l1)] [] h (f_X11_spareHouse_33 F K2 l0 l1 h) := by
  delta f_X11_spareHouse_33
  refine g_aload_n 0 dX11_spareHouse_33 rfl ?_
  refine g_aload_n 0 dX11_spareHouse_34 rfl ?_
  refine g_getR fl_RX11_15 rfl dX11_spareHouse_35 (fun v16 => ?_)
  refine g_iload_n 1 dX11_spareHouse_38 rfl ?_
  refine g_aald (by decide) (by decide) dX11_spareHouse_39 (fun v17 => ?_)
  refine g_callVi (J := I_X11_isInUse) (t := 12) (As := [.ref v17]) (rest := []) mjv_X11_isInUse ml_RX11_142 ⟨rfl, by decide, by decide⟩ (by decide) rfl rfl (Nat.le_of_ble_eq_true rfl) dX11_spareHouse_40 (T_X11_isInUse F l0 v17 h) (fun v18 h19 => ?_)
  refine g_if_ne (tgt := 53) dX11_spareHouse_43 (by decide) (fun c20 => ?_) (fun c20 => ?_)
  · refine g_aload_n 0 dX11_spareHouse_46 rfl ?_
    refine g_getR fl_RX11_15 rfl dX11_spareHouse_47 (fun v21 => ?_)
    refine g_iload_n 1 dX11_spareHouse_50 rfl ?_
    refine g_aald (by decide) (by decide) dX11_spareHouse_51 (fun v22 => ?_)
    exact g_aret rfl dX11_spareHouse_52
  · refine g_iinc (v' := l1 + 1) (lv' := [(1, .int (l1 + 1)), (0, .ref l0)]) 1 dX11_spareHouse_53 rfl rfl (by decide) rfl ?_
    refine g_goto (tgt := 2) dX11_spareHouse_56 (by decide) ?_
    refine G_lv [1, 0] rfl ?_
    exact hK2 l0 (l1 + 1) h19
set_option maxRecDepth 100000 in
noncomputable def f_X11_spareHouse_2_b (F : Nat) (K2 : Nat → Int32 → Hp → Option (Nat × Hp)) (l0 : Nat) (l1 : Int32) (h : Hp) : Option (Nat × Hp) :=
  gR 12 h l0 2 fun v1 => al 24 h v1 fun v2 => if v2 ≤ l1 then (nO 3 h fun b4 h5 => bd (f_X2_init F b4 h5) fun _ h7 => some (b4, h7)) else (gR 12 h l0 2 fun v8 => aO 24 h v8 l1 (gR 12 h l0 2 fun v10 => nO 3 h fun b11 h12 => bd (f_X2_init F b11 h12) fun _ h14 => wR 24 h14 v10 l1 b11 fun h15 => f_X11_spareHouse_33 F K2 l0 l1 h15) (fun v9 => f_X11_spareHouse_33 F K2 l0 l1 h))
set_option maxRecDepth 100000 in
set_option maxHeartbeats 4000000 in
theorem T_X11_spareHouse_2_b (F : Nat) {K2 : Nat → Int32 → Hp → Option (Nat × Hp)} (hK2 : ∀ (l0 : Nat) (l1 : Int32) (h : Hp), G rvR I_X11_spareHouse 2 2 [(0, .ref l0), (1, .int l1)] [] h (K2 l0 l1 h)) (l0 : Nat) (l1 : Int32) (h : Hp) : G rvR I_X11_spareHouse 2 2 [(0, .ref l0), (1, .int l1)] [] h (f_X11_spareHouse_2_b F K2 l0 l1 h) := by
  delta f_X11_spareHouse_2_b
  refine g_iload_n 1 dX11_spareHouse_2 rfl ?_
  refine g_aload_n 0 dX11_spareHouse_3 rfl ?_
  refine g_getR fl_RX11_15 rfl dX11_spareHouse_4 (fun v1 => ?_)
  refine g_alen (by decide) (by decide) dX11_spareHouse_7 (fun v2 => ?_)
  refine g_icmp_ge (tgt := 59) dX11_spareHouse_8 (by decide) (fun c3 => ?_) (fun c3 => ?_)
  · refine g_new (by decide) (by decide) nl_RX11_13 dX11_spareHouse_59 (fun b4 h5 => ?_)
    refine g_dup dX11_spareHouse_62 rfl ?_
    refine g_callIN (J := I_X2_init) (As := []) (rest := [.ref b4]) mji_X2_init rfl (by decide +kernel) (by decide) rfl rfl (Nat.le_of_ble_eq_true rfl) dX11_spareHouse_63 (T_X2_init F b4 h5) (fun h7 => ?_)
    exact g_aret rfl dX11_spareHouse_66
  · refine g_aload_n 0 dX11_spareHouse_11 rfl ?_
    refine g_getR fl_RX11_15 rfl dX11_spareHouse_12 (fun v8 => ?_)
    refine g_iload_n 1 dX11_spareHouse_15 rfl ?_
    refine g_aaldO (by decide) (by decide) dX11_spareHouse_16 ?_ (fun v9 => ?_)
    · refine g_ifnonnullN dX11_spareHouse_17 ?_
      refine g_aload_n 0 dX11_spareHouse_20 rfl ?_
      refine g_getR fl_RX11_15 rfl dX11_spareHouse_21 (fun v10 => ?_)
      refine g_iload_n 1 dX11_spareHouse_24 rfl ?_
      refine g_new (by decide) (by decide) nl_RX11_13 dX11_spareHouse_25 (fun b11 h12 => ?_)
      refine g_dup dX11_spareHouse_28 rfl ?_
      refine g_callIN (J := I_X2_init) (As := []) (rest := [.ref b11, .int l1, .ref v10]) mji_X2_init rfl (by decide +kernel) (by decide) rfl rfl (Nat.le_of_ble_eq_true rfl) dX11_spareHouse_29 (T_X2_init F b11 h12) (fun h14 => ?_)
      refine g_aast (by decide) (by decide) dX11_spareHouse_32 (fun h15 => ?_)
      refine G_lv [0, 1] rfl ?_
      exact T_X11_spareHouse_33 F hK2 l0 l1 h15
    · refine g_ifnonnull (tgt := 33) dX11_spareHouse_17 (by decide) ?_
      refine G_lv [0, 1] rfl ?_
      exact T_X11_spareHouse_33 F hK2 l0 l1 h
set_option maxRecDepth 100000 in
noncomputable def f_X11_spareHouse_2 (F : Nat) : Nat → Nat → Int32 → Hp → Option (Nat × Hp)
  | 0, _, _, _ => none
  | n + 1, l0, l1, h => f_X11_spareHouse_2_b F (f_X11_spareHouse_2 F n) l0 l1 h
set_option maxRecDepth 100000 in
set_option maxHeartbeats 4000000 in
theorem T_X11_spareHouse_2 (F : Nat) : ∀ (n : Nat) (l0 : Nat) (l1 : Int32) (h : Hp), G rvR I_X11_spareHouse 2 2 [(0, .ref l0), (1, .int l1)] [] h (f_X11_spareHouse_2 F n l0 l1 h) := by
  intro n
  induction n with
  | zero => intros; exact G_none
  | succ n ih => intro l0 l1 h; exact T_X11_spareHouse_2_b F ih l0 l1 h
set_option maxRecDepth 100000 in
noncomputable def f_X11_spareHouse (F : Nat) (a0 : Nat) (h : Hp) : Option (Nat × Hp) :=
  f_X11_spareHouse_2 F F a0 0 h
set_option maxRecDepth 100000 in
set_option maxHeartbeats 4000000 in
theorem T_X11_spareHouse (F : Nat) (a0 : Nat) (h : Hp) : GM rvR I_X11_spareHouse 2 [.ref a0] h (f_X11_spareHouse F a0 h) := by
  delta f_X11_spareHouse
  refine GM_of (lv := [(0, .ref a0)]) (by decide +kernel) (Nat.le_of_ble_eq_true rfl) rfl ?_
  refine g_iconst (v := 0) dX11_spareHouse_0 (by decide) ?_
  refine g_istore_n (lv' := [(1, .int 0), (0, .ref a0)]) dX11_spareHouse_1 (by decide) rfl ?_
  refine G_lv [1, 0] rfl ?_
  exact T_X11_spareHouse_2 F F a0 0 h
set_option maxRecDepth 100000 in
noncomputable def f_X4_clear (F : Nat) (a0 : Nat) (h : Hp) : Option (Unit × Hp) :=
  pI 5 h a0 0 0 fun h1 => some ((), h1)
set_option maxRecDepth 100000 in
set_option maxHeartbeats 4000000 in
theorem T_X4_clear (F : Nat) (a0 : Nat) (h : Hp) : GM rvV I_X4_clear 1 [.ref a0] h (f_X4_clear F a0 h) := by
  delta f_X4_clear
  refine GM_of (lv := [(0, .ref a0)]) (by decide +kernel) (Nat.le_of_ble_eq_true rfl) rfl ?_
  refine g_aload_n 0 dX4_clear_0 rfl ?_
  refine g_iconst (v := 0) dX4_clear_1 (by decide) ?_
  refine g_putI fl_RX4_18 (Or.inl rfl) dX4_clear_2 (fun h1 => ?_)
  exact g_vret rfl dX4_clear_5
set_option maxRecDepth 100000 in
noncomputable def f_J9_min_7cf53 (F : Nat) (a0 : Int32) (a1 : Int32) (h : Hp) : Option (Int32 × Hp) :=
  if a1 < a0 then (some (a1, h)) else (some (a0, h))
set_option maxRecDepth 100000 in
set_option maxHeartbeats 4000000 in
theorem T_J9_min_7cf53 (F : Nat) (a0 : Int32) (a1 : Int32) (h : Hp) : GM rvI I_J9_min_7cf53 1 [.int a0, .int a1] h (f_J9_min_7cf53 F a0 a1 h) := by
  delta f_J9_min_7cf53
  refine GM_of (lv := [(0, .int a0), (1, .int a1)]) (by decide +kernel) (Nat.le_of_ble_eq_true rfl) rfl ?_
  refine g_iload_n 0 dJ9_min_7cf53_0 rfl ?_
  refine g_iload_n 1 dJ9_min_7cf53_1 rfl ?_
  refine g_icmp_gt (tgt := 9) dJ9_min_7cf53_2 (by decide) (fun c1 => ?_) (fun c1 => ?_)
  · refine g_iload_n 1 dJ9_min_7cf53_9 rfl ?_
    exact g_iret rfl dJ9_min_7cf53_10
  · refine g_iload_n 0 dJ9_min_7cf53_5 rfl ?_
    refine g_goto (tgt := 10) dJ9_min_7cf53_6 (by decide) ?_
    exact g_iret rfl dJ9_min_7cf53_10
set_option maxRecDepth 100000 in
noncomputable def f_X2_clear (F : Nat) (a0 : Nat) (h : Hp) : Option (Unit × Hp) :=
  pI 3 h a0 0 0 fun h1 => pI 3 h1 a0 1 0 fun h2 => pI 3 h2 a0 2 0 fun h3 => pI 3 h3 a0 3 0 fun h4 => pI 3 h4 a0 4 0 fun h5 => gR 3 h5 a0 5 fun v6 => bd (f_J7_fill_53178 F v6 0 h5) fun v7 h8 => gR 3 h8 a0 6 fun v9 => bd (f_J7_fill_53178 F v9 0 h8) fun v10 h11 => gR 3 h11 a0 7 fun v12 => bd (f_J7_fill_53178 F v12 0 h11) fun v13 h14 => some ((), h14)
set_option maxRecDepth 100000 in
set_option maxHeartbeats 4000000 in
theorem T_X2_clear (F : Nat) (a0 : Nat) (h : Hp) : GM rvV I_X2_clear 2 [.ref a0] h (f_X2_clear F a0 h) := by
  delta f_X2_clear
  refine GM_of (lv := [(0, .ref a0)]) (by decide +kernel) (Nat.le_of_ble_eq_true rfl) rfl ?_
  refine g_aload_n 0 dX2_clear_0 rfl ?_
  refine g_iconst (v := 0) dX2_clear_1 (by decide) ?_
  refine g_putI fl_RX2_27 (Or.inl rfl) dX2_clear_2 (fun h1 => ?_)
  refine g_aload_n 0 dX2_clear_5 rfl ?_
  refine g_iconst (v := 0) dX2_clear_6 (by decide) ?_
  refine g_putI fl_RX2_31 (Or.inl rfl) dX2_clear_7 (fun h2 => ?_)
  refine g_aload_n 0 dX2_clear_10 rfl ?_
  refine g_iconst (v := 0) dX2_clear_11 (by decide) ?_
  refine g_putI fl_RX2_34 (Or.inl rfl) dX2_clear_12 (fun h3 => ?_)
  refine g_aload_n 0 dX2_clear_15 rfl ?_
  refine g_iconst (v := 0) dX2_clear_16 (by decide) ?_
  refine g_putI fl_RX2_37 (Or.inl rfl) dX2_clear_17 (fun h4 => ?_)
  refine g_aload_n 0 dX2_clear_20 rfl ?_
  refine g_iconst (v := 0) dX2_clear_21 (by decide) ?_
  refine g_putI fl_RX2_40 (Or.inl rfl) dX2_clear_22 (fun h5 => ?_)
  refine g_aload_n 0 dX2_clear_25 rfl ?_
  refine g_getR fl_RX2_11 rfl dX2_clear_26 (fun v6 => ?_)
  refine g_iconst (v := 0) dX2_clear_29 (by decide) ?_
  refine g_callSv (J := I_J7_fill_53178) (As := [.ref v6, .int 0]) (rest := []) mjs_J7_fill_53178 ml_RX2_43 (by decide) rfl rfl (Nat.le_of_ble_eq_true rfl) dX2_clear_30 (T_J7_fill_53178 F v6 0 h5) (fun v7 h8 => ?_)
  refine g_aload_n 0 dX2_clear_33 rfl ?_
  refine g_getR fl_RX2_15 rfl dX2_clear_34 (fun v9 => ?_)
  refine g_iconst (v := 0) dX2_clear_37 (by decide) ?_
  refine g_callSv (J := I_J7_fill_53178) (As := [.ref v9, .int 0]) (rest := []) mjs_J7_fill_53178 ml_RX2_43 (by decide) rfl rfl (Nat.le_of_ble_eq_true rfl) dX2_clear_38 (T_J7_fill_53178 F v9 0 h8) (fun v10 h11 => ?_)
  refine g_aload_n 0 dX2_clear_41 rfl ?_
  refine g_getR fl_RX2_18 rfl dX2_clear_42 (fun v12 => ?_)
  refine g_iconst (v := 0) dX2_clear_45 (by decide) ?_
  refine g_callSv (J := I_J7_fill_53178) (As := [.ref v12, .int 0]) (rest := []) mjs_J7_fill_53178 ml_RX2_43 (by decide) rfl rfl (Nat.le_of_ble_eq_true rfl) dX2_clear_46 (T_J7_fill_53178 F v12 0 h11) (fun v13 h14 => ?_)
  exact g_vret rfl dX2_clear_49
set_option maxRecDepth 100000 in
noncomputable def f_X2_isDone_49 (F : Nat) (K2 : Nat → Int32 → Int32 → Int32 → Hp → Option (Int32 × Hp)) (l0 : Nat) (l1 : Int32) (l2 : Int32) (l3 : Int32) (h : Hp) : Option (Int32 × Hp) :=
  K2 l0 l1 l2 (l3 + 1) h
set_option maxRecDepth 100000 in
set_option maxHeartbeats 4000000 in
theorem T_X2_isDone_49 (F : Nat) {K2 : Nat → Int32 → Int32 → Int32 → Hp → Option (Int32 × Hp)} (hK2 : ∀ (l0 : Nat) (l1 : Int32) (l2 : Int32) (l3 : Int32) (h : Hp), G rvI I_X2_isDone 3 2 [(0, .ref l0), (1, .int l1), (2, .int l2), (3, .int l3)] [] h (K2 l0 l1 l2 l3 h)) (l0 : Nat) (l1 : Int32) (l2 : Int32) (l3 : Int32) (h : Hp) : G rvI I_X2_isDone 3 49 [(0, .ref l0), (1, .int l1), (2, .int l2), (3, .int l3)] [] h (f_X2_isDone_49 F K2 l0 l1 l2 l3 h) := by
  delta f_X2_isDone_49
  refine g_iinc (v' := l3 + 1) (lv' := [(3, .int (l3 + 1)), (0, .ref l0), (1, .int l1), (2, .int l2)]) 3 dX2_isDone_49 rfl rfl (by decide) rfl ?_
  refine g_goto (tgt := 2) dX2_isDone_52 (by decide) ?_
  refine G_lv [1, 2, 3, 0] rfl ?_
  exact hK2 l0 l1 l2 (l3 + 1) h
set_option maxRecDepth 100000 in
noncomputable def f_X2_isDone_2_b (F : Nat) (K2 : Nat → Int32 → Int32 → Int32 → Hp → Option (Int32 × Hp)) (l0 : Nat) (l1 : Int32) (l2 : Int32) (l3 : Int32) (h : Hp) : Option (Int32 × Hp) :=
  gI 3 h l0 0 fun v1 => if v1 ≤ l3 then (some (1, h)) else (lt ((l2 >>> ((2 * l3) &&& 31)) &&& 3) fun x3 => cV 3 h l0 (f_X2_needOf F l0 l1 l3 h) fun v4 h5 => if x3 < v4 then (some (0, h5)) else (if x3 ≤ 0 then (f_X2_isDone_49 F K2 l0 l1 l2 l3 h5) else (cV 3 h5 l0 (f_X2_butBits F l0 l1 h5) fun v8 h9 => if ((v8 >>> (l3 &&& 31)) &&& 1) = 0 then (f_X2_isDone_49 F K2 l0 l1 l2 l3 h9) else (some (0, h9)))))
set_option maxRecDepth 100000 in
set_option maxHeartbeats 4000000 in
theorem T_X2_isDone_2_b (F : Nat) {K2 : Nat → Int32 → Int32 → Int32 → Hp → Option (Int32 × Hp)} (hK2 : ∀ (l0 : Nat) (l1 : Int32) (l2 : Int32) (l3 : Int32) (h : Hp), G rvI I_X2_isDone 3 2 [(0, .ref l0), (1, .int l1), (2, .int l2), (3, .int l3)] [] h (K2 l0 l1 l2 l3 h)) (l0 : Nat) (l1 : Int32) (l2 : Int32) (l3 : Int32) (h : Hp) : G rvI I_X2_isDone 3 2 [(0, .ref l0), (1, .int l1), (2, .int l2), (3, .int l3)] [] h (f_X2_isDone_2_b F K2 l0 l1 l2 l3 h) := by
  delta f_X2_isDone_2_b
  refine g_iload_n 3 dX2_isDone_2 rfl ?_
  refine g_aload_n 0 dX2_isDone_3 rfl ?_
  refine g_getI fl_RX2_27 rfl dX2_isDone_4 (fun v1 => ?_)
  refine g_icmp_ge (tgt := 55) dX2_isDone_7 (by decide) (fun c2 => ?_) (fun c2 => ?_)
  · refine g_iconst (v := 1) dX2_isDone_55 (by decide) ?_
    exact g_zret (ty := .boolean) rfl rfl dX2_isDone_56
  · refine g_iload_n 2 dX2_isDone_10 rfl ?_
    refine g_iconst (v := 2) dX2_isDone_11 (by decide) ?_
    refine g_iload_n 3 dX2_isDone_12 rfl ?_
    refine g_imul dX2_isDone_13 ?_
    refine g_ishr dX2_isDone_14 ?_
    refine g_iconst (v := 3) dX2_isDone_15 (by decide) ?_
    refine g_iand dX2_isDone_16 ?_
    refine G_lti (fun x3 => ?_)
    refine g_istore (lv' := [(4, .int x3), (0, .ref l0), (1, .int l1), (2, .int l2), (3, .int l3)]) dX2_isDone_17 (by decide) rfl ?_
    refine g_iload 0 dX2_isDone_19 rfl ?_
    refine g_aload_n 1 dX2_isDone_21 rfl ?_
    refine g_iload_n 2 dX2_isDone_22 rfl ?_
    refine g_iload_n 4 dX2_isDone_23 rfl ?_
    refine g_callVi (J := I_X2_needOf) (t := 3) (As := [.int l1, .int l3]) (rest := [.int x3]) mjv_X2_needOf ml_RX2_53 ⟨rfl, by decide, by decide⟩ (by decide) rfl rfl (Nat.le_of_ble_eq_true rfl) dX2_isDone_24 (T_X2_needOf F l0 l1 l3 h) (fun v4 h5 => ?_)
    refine g_icmp_lt (tgt := 47) dX2_isDone_27 (by decide) (fun c6 => ?_) (fun c6 => ?_)
    · refine g_iconst (v := 0) dX2_isDone_47 (by decide) ?_
      exact g_zret (ty := .boolean) rfl rfl dX2_isDone_48
    · refine g_iload 0 dX2_isDone_30 rfl ?_
      refine g_if_le (tgt := 49) dX2_isDone_32 (by decide) (fun c7 => ?_) (fun c7 => ?_)
      · refine G_lv [1, 2, 3, 4] rfl ?_
        exact T_X2_isDone_49 F hK2 l0 l1 l2 l3 h5
      · refine g_aload_n 1 dX2_isDone_35 rfl ?_
        refine g_iload_n 2 dX2_isDone_36 rfl ?_
        refine g_callVi (J := I_X2_butBits) (t := 3) (As := [.int l1]) (rest := []) mjv_X2_butBits ml_RX2_67 ⟨rfl, by decide, by decide⟩ (by decide) rfl rfl (Nat.le_of_ble_eq_true rfl) dX2_isDone_37 (T_X2_butBits F l0 l1 h5) (fun v8 h9 => ?_)
        refine g_iload_n 4 dX2_isDone_40 rfl ?_
        refine g_ishr dX2_isDone_41 ?_
        refine g_iconst (v := 1) dX2_isDone_42 (by decide) ?_
        refine g_iand dX2_isDone_43 ?_
        refine g_if_eq (tgt := 49) dX2_isDone_44 (by decide) (fun c10 => ?_) (fun c10 => ?_)
        · refine G_lv [1, 2, 3, 4] rfl ?_
          exact T_X2_isDone_49 F hK2 l0 l1 l2 l3 h9
        · refine g_iconst (v := 0) dX2_isDone_47 (by decide) ?_
          exact g_zret (ty := .boolean) rfl rfl dX2_isDone_48
set_option maxRecDepth 100000 in
noncomputable def f_X2_isDone_2 (F : Nat) : Nat → Nat → Int32 → Int32 → Int32 → Hp → Option (Int32 × Hp)
  | 0, _, _, _, _, _ => none
  | n + 1, l0, l1, l2, l3, h => f_X2_isDone_2_b F (f_X2_isDone_2 F n) l0 l1 l2 l3 h
set_option maxRecDepth 100000 in
set_option maxHeartbeats 4000000 in
theorem T_X2_isDone_2 (F : Nat) : ∀ (n : Nat) (l0 : Nat) (l1 : Int32) (l2 : Int32) (l3 : Int32) (h : Hp), G rvI I_X2_isDone 3 2 [(0, .ref l0), (1, .int l1), (2, .int l2), (3, .int l3)] [] h (f_X2_isDone_2 F n l0 l1 l2 l3 h) := by
  intro n
  induction n with
  | zero => intros; exact G_none
  | succ n ih => intro l0 l1 l2 l3 h; exact T_X2_isDone_2_b F ih l0 l1 l2 l3 h
set_option maxRecDepth 100000 in
noncomputable def f_X2_isDone (F : Nat) (a0 : Nat) (a1 : Int32) (a2 : Int32) (h : Hp) : Option (Int32 × Hp) :=
  f_X2_isDone_2 F F a0 a1 a2 0 h
set_option maxRecDepth 100000 in
set_option maxHeartbeats 4000000 in
theorem T_X2_isDone (F : Nat) (a0 : Nat) (a1 : Int32) (a2 : Int32) (h : Hp) : GM rvI I_X2_isDone 3 [.ref a0, .int a1, .int a2] h (f_X2_isDone F a0 a1 a2 h) := by
  delta f_X2_isDone
  refine GM_of (lv := [(0, .ref a0), (1, .int a1), (2, .int a2)]) (by decide +kernel) (Nat.le_of_ble_eq_true rfl) rfl ?_
  refine g_iconst (v := 0) dX2_isDone_0 (by decide) ?_
  refine g_istore_n (lv' := [(3, .int 0), (0, .ref a0), (1, .int a1), (2, .int a2)]) dX2_isDone_1 (by decide) rfl ?_
  refine G_lv [1, 2, 3, 0] rfl ?_
  exact T_X2_isDone_2 F F a0 a1 a2 0 h
