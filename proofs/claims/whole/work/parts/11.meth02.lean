/-! L2, by program (wip/whole/gen/gen.py) -/
set_option maxRecDepth 100000 in
noncomputable def f_X8_deeds_7_b (F : Nat) (K7 : Nat → Nat → Nat → Int32 → Hp → Option (Int32 × Hp)) (l0 : Nat) (l1 : Nat) (l2 : Nat) (l3 : Int32) (h : Hp) : Option (Int32 × Hp) :=
  gI 10 h l2 0 fun v2 => if v2 ≤ l3 then (gI 10 h l2 0 fun v4 => bd (f_J9_max_7cf53 F 0 v4 h) fun v5 h6 => some (v5, h6)) else (cV 10 h l2 (f_X9_at F l2 l3 h) fun v7 h8 => cV 9 h8 l0 (f_X8_deed F l0 l1 v7 h8) fun v9 h10 => pI 9 h10 l0 2 v9 fun h11 => gI 9 h11 l0 2 fun v12 => if v12 = 0 then (K7 l0 l1 l2 (l3 + 1) h11) else (some (l3, h11)))
set_option maxRecDepth 100000 in
set_option maxHeartbeats 4000000 in
theorem T_X8_deeds_7_b (F : Nat) {K7 : Nat → Nat → Nat → Int32 → Hp → Option (Int32 × Hp)} (hK7 : ∀ (l0 : Nat) (l1 : Nat) (l2 : Nat) (l3 : Int32) (h : Hp), G rvI I_X8_deeds 6 7 [(0, .ref l0), (1, .ref l1), (2, .ref l2), (3, .int l3)] [] h (K7 l0 l1 l2 l3 h)) (l0 : Nat) (l1 : Nat) (l2 : Nat) (l3 : Int32) (h : Hp) : G rvI I_X8_deeds 6 7 [(0, .ref l0), (1, .ref l1), (2, .ref l2), (3, .int l3)] [] h (f_X8_deeds_7_b F K7 l0 l1 l2 l3 h) := by
  delta f_X8_deeds_7_b
  refine g_iload_n 3 dX8_deeds_7 rfl ?_
  refine g_aload_n 2 dX8_deeds_8 rfl ?_
  refine g_getI fl_RX8_64 rfl dX8_deeds_9 (fun v2 => ?_)
  refine g_icmp_ge (tgt := 44) dX8_deeds_12 (by decide) (fun c3 => ?_) (fun c3 => ?_)
  · refine g_iconst (v := 0) dX8_deeds_44 (by decide) ?_
    refine g_aload_n 2 dX8_deeds_45 rfl ?_
    refine g_getI fl_RX8_64 rfl dX8_deeds_46 (fun v4 => ?_)
    refine g_callSi (J := I_J9_max_7cf53) (As := [.int 0, .int v4]) (rest := []) mjs_J9_max_7cf53 ml_RX8_77 (by decide) rfl rfl (Nat.le_of_ble_eq_true rfl) dX8_deeds_49 (T_J9_max_7cf53 F 0 v4 h) (fun v5 h6 => ?_)
    exact g_iret rfl dX8_deeds_52
  · refine g_aload_n 0 dX8_deeds_15 rfl ?_
    refine g_aload_n 0 dX8_deeds_16 rfl ?_
    refine g_aload_n 1 dX8_deeds_17 rfl ?_
    refine g_aload_n 2 dX8_deeds_18 rfl ?_
    refine g_iload_n 3 dX8_deeds_19 rfl ?_
    refine g_callVl (J := I_X9_at) (t := 10) (As := [.int l3]) (rest := [.ref l1, .ref l0, .ref l0]) mjv_X9_at ml_RX8_69 ⟨rfl, by decide, by decide⟩ (by decide) rfl rfl (Nat.le_of_ble_eq_true rfl) dX8_deeds_20 (T_X9_at F l2 l3 h) (fun v7 h8 => ?_)
    refine g_callVi (J := I_X8_deed) (t := 9) (As := [.ref l1, .long v7]) (rest := [.ref l0]) mjv_X8_deed ml_RX8_73 ⟨rfl, by decide, by decide⟩ (by decide) rfl rfl (Nat.le_of_ble_eq_true rfl) dX8_deeds_23 (T_X8_deed F l0 l1 v7 h8) (fun v9 h10 => ?_)
    refine g_putI fl_RX8_61 (Or.inl rfl) dX8_deeds_26 (fun h11 => ?_)
    refine g_aload_n 0 dX8_deeds_29 rfl ?_
    refine g_getI fl_RX8_61 rfl dX8_deeds_30 (fun v12 => ?_)
    refine g_if_eq (tgt := 38) dX8_deeds_33 (by decide) (fun c13 => ?_) (fun c13 => ?_)
    · refine g_iinc (v' := l3 + 1) (lv' := [(3, .int (l3 + 1)), (0, .ref l0), (1, .ref l1), (2, .ref l2)]) 3 dX8_deeds_38 rfl rfl (by decide) rfl ?_
      refine g_goto (tgt := 7) dX8_deeds_41 (by decide) ?_
      refine G_lv [1, 2, 3, 0] rfl ?_
      exact hK7 l0 l1 l2 (l3 + 1) h11
    · refine g_iload_n 3 dX8_deeds_36 rfl ?_
      exact g_iret rfl dX8_deeds_37
set_option maxRecDepth 100000 in
noncomputable def f_X8_deeds_7 (F : Nat) : Nat → Nat → Nat → Nat → Int32 → Hp → Option (Int32 × Hp)
  | 0, _, _, _, _, _ => none
  | n + 1, l0, l1, l2, l3, h => f_X8_deeds_7_b F (f_X8_deeds_7 F n) l0 l1 l2 l3 h
set_option maxRecDepth 100000 in
set_option maxHeartbeats 4000000 in
theorem T_X8_deeds_7 (F : Nat) : ∀ (n : Nat) (l0 : Nat) (l1 : Nat) (l2 : Nat) (l3 : Int32) (h : Hp), G rvI I_X8_deeds 6 7 [(0, .ref l0), (1, .ref l1), (2, .ref l2), (3, .int l3)] [] h (f_X8_deeds_7 F n l0 l1 l2 l3 h) := by
  intro n
  induction n with
  | zero => intros; exact G_none
  | succ n ih => intro l0 l1 l2 l3 h; exact T_X8_deeds_7_b F ih l0 l1 l2 l3 h
set_option maxRecDepth 100000 in
noncomputable def f_X8_deeds (F : Nat) (a0 : Nat) (a1 : Nat) (a2 : Nat) (h : Hp) : Option (Int32 × Hp) :=
  pI 9 h a0 2 0 fun h1 => f_X8_deeds_7 F F a0 a1 a2 0 h1
set_option maxRecDepth 100000 in
set_option maxHeartbeats 4000000 in
theorem T_X8_deeds (F : Nat) (a0 : Nat) (a1 : Nat) (a2 : Nat) (h : Hp) : GM rvI I_X8_deeds 6 [.ref a0, .ref a1, .ref a2] h (f_X8_deeds F a0 a1 a2 h) := by
  delta f_X8_deeds
  refine GM_of (lv := [(0, .ref a0), (1, .ref a1), (2, .ref a2)]) (by decide +kernel) (Nat.le_of_ble_eq_true rfl) rfl ?_
  refine g_aload_n 0 dX8_deeds_0 rfl ?_
  refine g_iconst (v := 0) dX8_deeds_1 (by decide) ?_
  refine g_putI fl_RX8_61 (Or.inl rfl) dX8_deeds_2 (fun h1 => ?_)
  refine g_iconst (v := 0) dX8_deeds_5 (by decide) ?_
  refine g_istore_n (lv' := [(3, .int 0), (0, .ref a0), (1, .ref a1), (2, .ref a2)]) dX8_deeds_6 (by decide) rfl ?_
  refine G_lv [1, 2, 3, 0] rfl ?_
  exact T_X8_deeds_7 F F a0 a1 a2 0 h1
set_option maxRecDepth 100000 in
noncomputable def f_X11_bondBits_84 (F : Nat) (K6 : Nat → Nat → Int32 → Int32 → Int32 → Int32 → Hp → Option (Int32 × Hp)) (l0 : Nat) (l1 : Nat) (l2 : Int32) (l3 : Int32) (l4 : Int32) (l5 : Int32) (h : Hp) : Option (Int32 × Hp) :=
  K6 l0 l1 l2 l3 l4 (l5 + 1) h
set_option maxRecDepth 100000 in
set_option maxHeartbeats 4000000 in
theorem T_X11_bondBits_84 (F : Nat) {K6 : Nat → Nat → Int32 → Int32 → Int32 → Int32 → Hp → Option (Int32 × Hp)} (hK6 : ∀ (l0 : Nat) (l1 : Nat) (l2 : Int32) (l3 : Int32) (l4 : Int32) (l5 : Int32) (h : Hp), G rvI I_X11_bondBits 7 6 [(0, .ref l0), (1, .ref l1), (2, .int l2), (3, .int l3), (4, .int l4), (5, .int l5)] [] h (K6 l0 l1 l2 l3 l4 l5 h)) (l0 : Nat) (l1 : Nat) (l2 : Int32) (l3 : Int32) (l4 : Int32) (l5 : Int32) (h : Hp) : G rvI I_X11_bondBits 7 84 [(0, .ref l0), (1, .ref l1), (2, .int l2), (3, .int l3), (4, .int l4), (5, .int l5)] [] h (f_X11_bondBits_84 F K6 l0 l1 l2 l3 l4 l5 h) := by
  delta f_X11_bondBits_84
  refine g_iinc (v' := l5 + 1) (lv' := [(5, .int (l5 + 1)), (0, .ref l0), (1, .ref l1), (2, .int l2), (3, .int l3), (4, .int l4)]) 5 dX11_bondBits_84 rfl rfl (by decide) rfl ?_
  refine g_goto (tgt := 6) dX11_bondBits_87 (by decide) ?_
  refine G_lv [1, 2, 3, 4, 5, 0] rfl ?_
  exact hK6 l0 l1 l2 l3 l4 (l5 + 1) h
set_option maxRecDepth 100000 in
noncomputable def f_X11_bondBits_6_b (F : Nat) (K6 : Nat → Nat → Int32 → Int32 → Int32 → Int32 → Hp → Option (Int32 × Hp)) (l0 : Nat) (l1 : Nat) (l2 : Int32) (l3 : Int32) (l4 : Int32) (l5 : Int32) (h : Hp) : Option (Int32 × Hp) :=
  if 10 ≤ l5 then (some (l4, h)) else (gR 12 h l0 6 fun v2 => gR 12 h l0 5 fun v3 => cV 9 h v2 (f_X8_copy F v2 v3 h) fun v4 h5 => gR 12 h5 l0 6 fun v6 => pI 9 h5 v6 1 l5 fun h7 => gR 12 h7 l0 6 fun v8 => gR 12 h7 l0 3 fun v9 => cV 9 h7 v8 (f_X8_deeds F v8 v9 l1 h7) fun v10 h11 => gR 12 h11 l0 6 fun v12 => gI 9 h11 v12 2 fun v13 => if v13 = 0 then (gR 12 h11 l0 3 fun v15 => gR 12 h11 l0 6 fun v16 => gI 9 h11 v16 0 fun v17 => cV 3 h11 v15 (f_X2_doJust F v15 v17 l2 l3 h11) fun v18 h19 => if v18 = 0 then (f_X11_bondBits_84 F K6 l0 l1 l2 l3 l4 l5 h19) else (lt (l4 ||| ((1 : Int32) <<< (l5 &&& 31))) fun x21 => f_X11_bondBits_84 F K6 l0 l1 l2 l3 x21 l5 h19)) else (f_X11_bondBits_84 F K6 l0 l1 l2 l3 l4 l5 h11))
set_option maxRecDepth 100000 in
set_option maxHeartbeats 4000000 in
theorem T_X11_bondBits_6_b (F : Nat) {K6 : Nat → Nat → Int32 → Int32 → Int32 → Int32 → Hp → Option (Int32 × Hp)} (hK6 : ∀ (l0 : Nat) (l1 : Nat) (l2 : Int32) (l3 : Int32) (l4 : Int32) (l5 : Int32) (h : Hp), G rvI I_X11_bondBits 7 6 [(0, .ref l0), (1, .ref l1), (2, .int l2), (3, .int l3), (4, .int l4), (5, .int l5)] [] h (K6 l0 l1 l2 l3 l4 l5 h)) (l0 : Nat) (l1 : Nat) (l2 : Int32) (l3 : Int32) (l4 : Int32) (l5 : Int32) (h : Hp) : G rvI I_X11_bondBits 7 6 [(0, .ref l0), (1, .ref l1), (2, .int l2), (3, .int l3), (4, .int l4), (5, .int l5)] [] h (f_X11_bondBits_6_b F K6 l0 l1 l2 l3 l4 l5 h) := by
  delta f_X11_bondBits_6_b
  refine g_iload 5 dX11_bondBits_6 rfl ?_
  refine g_bipush (v := 10) dX11_bondBits_8 (by decide) ?_
  refine g_icmp_ge (tgt := 90) dX11_bondBits_10 (by decide) (fun c1 => ?_) (fun c1 => ?_)
  · refine g_iload 4 dX11_bondBits_90 rfl ?_
    exact g_iret rfl dX11_bondBits_92
  · refine g_aload_n 0 dX11_bondBits_13 rfl ?_
    refine g_getR fl_RX11_40 rfl dX11_bondBits_14 (fun v2 => ?_)
    refine g_aload_n 0 dX11_bondBits_17 rfl ?_
    refine g_getR fl_RX11_36 rfl dX11_bondBits_18 (fun v3 => ?_)
    refine g_callVv (J := I_X8_copy) (t := 9) (As := [.ref v3]) (rest := []) mjv_X8_copy ml_RX11_187 ⟨rfl, by decide, by decide⟩ (by decide) rfl rfl (Nat.le_of_ble_eq_true rfl) dX11_bondBits_21 (T_X8_copy F v2 v3 h) (fun v4 h5 => ?_)
    refine g_aload_n 0 dX11_bondBits_24 rfl ?_
    refine g_getR fl_RX11_40 rfl dX11_bondBits_25 (fun v6 => ?_)
    refine g_iload 5 dX11_bondBits_28 rfl ?_
    refine g_putI fl_RX11_133 (Or.inl rfl) dX11_bondBits_30 (fun h7 => ?_)
    refine g_aload_n 0 dX11_bondBits_33 rfl ?_
    refine g_getR fl_RX11_40 rfl dX11_bondBits_34 (fun v8 => ?_)
    refine g_aload_n 0 dX11_bondBits_37 rfl ?_
    refine g_getR fl_RX11_20 rfl dX11_bondBits_38 (fun v9 => ?_)
    refine g_aload_n 1 dX11_bondBits_41 rfl ?_
    refine g_callVi (J := I_X8_deeds) (t := 9) (As := [.ref v9, .ref l1]) (rest := []) mjv_X8_deeds ml_RX11_227 ⟨rfl, by decide, by decide⟩ (by decide) rfl rfl (Nat.le_of_ble_eq_true rfl) dX11_bondBits_42 (T_X8_deeds F v8 v9 l1 h7) (fun v10 h11 => ?_)
    refine g_pop dX11_bondBits_45 rfl ?_
    refine g_aload_n 0 dX11_bondBits_46 rfl ?_
    refine g_getR fl_RX11_40 rfl dX11_bondBits_47 (fun v12 => ?_)
    refine g_getI fl_RX11_231 rfl dX11_bondBits_50 (fun v13 => ?_)
    refine g_if_ne (tgt := 84) dX11_bondBits_53 (by decide) (fun c14 => ?_) (fun c14 => ?_)
    · refine g_aload_n 0 dX11_bondBits_56 rfl ?_
      refine g_getR fl_RX11_20 rfl dX11_bondBits_57 (fun v15 => ?_)
      refine g_aload_n 0 dX11_bondBits_60 rfl ?_
      refine g_getR fl_RX11_40 rfl dX11_bondBits_61 (fun v16 => ?_)
      refine g_getI fl_RX11_127 rfl dX11_bondBits_64 (fun v17 => ?_)
      refine g_iload_n 2 dX11_bondBits_67 rfl ?_
      refine g_iload_n 3 dX11_bondBits_68 rfl ?_
      refine g_callVi (J := I_X2_doJust) (t := 3) (As := [.int v17, .int l2, .int l3]) (rest := []) mjv_X2_doJust ml_RX11_342 ⟨rfl, by decide, by decide⟩ (by decide) rfl rfl (Nat.le_of_ble_eq_true rfl) dX11_bondBits_69 (T_X2_doJust F v15 v17 l2 l3 h11) (fun v18 h19 => ?_)
      refine g_if_eq (tgt := 84) dX11_bondBits_72 (by decide) (fun c20 => ?_) (fun c20 => ?_)
      · refine G_lv [0, 1, 2, 3, 4, 5] rfl ?_
        exact T_X11_bondBits_84 F hK6 l0 l1 l2 l3 l4 l5 h19
      · refine g_iload 4 dX11_bondBits_75 rfl ?_
        refine g_iconst (v := 1) dX11_bondBits_77 (by decide) ?_
        refine g_iload 5 dX11_bondBits_78 rfl ?_
        refine g_ishl dX11_bondBits_80 ?_
        refine g_ior dX11_bondBits_81 ?_
        refine G_lti (fun x21 => ?_)
        refine g_istore (lv' := [(4, .int x21), (0, .ref l0), (1, .ref l1), (2, .int l2), (3, .int l3), (5, .int l5)]) dX11_bondBits_82 (by decide) rfl ?_
        refine G_lv [1, 2, 3, 4, 0, 5] rfl ?_
        exact T_X11_bondBits_84 F hK6 l0 l1 l2 l3 x21 l5 h19
    · refine G_lv [0, 1, 2, 3, 4, 5] rfl ?_
      exact T_X11_bondBits_84 F hK6 l0 l1 l2 l3 l4 l5 h11
set_option maxRecDepth 100000 in
noncomputable def f_X11_bondBits_6 (F : Nat) : Nat → Nat → Nat → Int32 → Int32 → Int32 → Int32 → Hp → Option (Int32 × Hp)
  | 0, _, _, _, _, _, _, _ => none
  | n + 1, l0, l1, l2, l3, l4, l5, h => f_X11_bondBits_6_b F (f_X11_bondBits_6 F n) l0 l1 l2 l3 l4 l5 h
set_option maxRecDepth 100000 in
set_option maxHeartbeats 4000000 in
theorem T_X11_bondBits_6 (F : Nat) : ∀ (n : Nat) (l0 : Nat) (l1 : Nat) (l2 : Int32) (l3 : Int32) (l4 : Int32) (l5 : Int32) (h : Hp), G rvI I_X11_bondBits 7 6 [(0, .ref l0), (1, .ref l1), (2, .int l2), (3, .int l3), (4, .int l4), (5, .int l5)] [] h (f_X11_bondBits_6 F n l0 l1 l2 l3 l4 l5 h) := by
  intro n
  induction n with
  | zero => intros; exact G_none
  | succ n ih => intro l0 l1 l2 l3 l4 l5 h; exact T_X11_bondBits_6_b F ih l0 l1 l2 l3 l4 l5 h
set_option maxRecDepth 100000 in
noncomputable def f_X11_bondBits (F : Nat) (a0 : Nat) (a1 : Nat) (a2 : Int32) (a3 : Int32) (h : Hp) : Option (Int32 × Hp) :=
  f_X11_bondBits_6 F F a0 a1 a2 a3 0 0 h
set_option maxRecDepth 100000 in
set_option maxHeartbeats 4000000 in
theorem T_X11_bondBits (F : Nat) (a0 : Nat) (a1 : Nat) (a2 : Int32) (a3 : Int32) (h : Hp) : GM rvI I_X11_bondBits 7 [.ref a0, .ref a1, .int a2, .int a3] h (f_X11_bondBits F a0 a1 a2 a3 h) := by
  delta f_X11_bondBits
  refine GM_of (lv := [(0, .ref a0), (1, .ref a1), (2, .int a2), (3, .int a3)]) (by decide +kernel) (Nat.le_of_ble_eq_true rfl) rfl ?_
  refine g_iconst (v := 0) dX11_bondBits_0 (by decide) ?_
  refine g_istore (lv' := [(4, .int 0), (0, .ref a0), (1, .ref a1), (2, .int a2), (3, .int a3)]) dX11_bondBits_1 (by decide) rfl ?_
  refine g_iconst (v := 0) dX11_bondBits_3 (by decide) ?_
  refine g_istore (lv' := [(5, .int 0), (4, .int 0), (0, .ref a0), (1, .ref a1), (2, .int a2), (3, .int a3)]) dX11_bondBits_4 (by decide) rfl ?_
  refine G_lv [2, 3, 4, 5, 1, 0] rfl ?_
  exact T_X11_bondBits_6 F F a0 a1 a2 a3 0 0 h
set_option maxRecDepth 100000 in
noncomputable def f_X11_isTellingOrDay (F : Nat) (a0 : Nat) (a1 : Int64) (h : Hp) : Option (Int32 × Hp) :=
  if ((a1 : Int64) = (-1) : Prop) then (some (1, h)) else (if ((a1 : Int64) < 0 : Prop) then (some (0, h)) else (if (20 ≤ (a1 : Int64) : Prop) then (some (0, h)) else (gR 12 h a0 3 fun v4 => gI 3 h v4 0 fun v5 => if ((v5.toInt64) ≤ ((a1 - a1 / 10 * 10) : Int64) : Prop) then (some (0, h)) else (some (1, h)))))
set_option maxRecDepth 100000 in
set_option maxHeartbeats 4000000 in
theorem T_X11_isTellingOrDay (F : Nat) (a0 : Nat) (a1 : Int64) (h : Hp) : GM rvI I_X11_isTellingOrDay 1 [.ref a0, .long a1] h (f_X11_isTellingOrDay F a0 a1 h) := by
  delta f_X11_isTellingOrDay
  refine GM_of (lv := [(0, .ref a0), (1, .long a1)]) (by decide +kernel) (Nat.le_of_ble_eq_true rfl) rfl ?_
  refine g_lload_n 1 dX11_isTellingOrDay_0 rfl ?_
  refine g_ldc2 (v := (-1)) dX11_isTellingOrDay_1 cl_RX11_336 ?_
  refine g_lc_eq (x := a1) (y := (-1)) (tgt := 39) dX11_isTellingOrDay_4 dX11_isTellingOrDay_5 (by decide) (fun c1 => ?_) (fun c1 => ?_)
  · refine g_iconst (v := 1) dX11_isTellingOrDay_39 (by decide) ?_
    refine g_goto (tgt := 44) dX11_isTellingOrDay_40 (by decide) ?_
    exact g_zret (ty := .boolean) rfl rfl dX11_isTellingOrDay_44
  · refine g_lload_n 1 dX11_isTellingOrDay_8 rfl ?_
    refine g_lconst (v := 0) dX11_isTellingOrDay_9 (by decide) ?_
    refine g_lc_lt (x := a1) (y := 0) (tgt := 43) dX11_isTellingOrDay_10 dX11_isTellingOrDay_11 (by decide) (fun c2 => ?_) (fun c2 => ?_)
    · refine g_iconst (v := 0) dX11_isTellingOrDay_43 (by decide) ?_
      exact g_zret (ty := .boolean) rfl rfl dX11_isTellingOrDay_44
    · refine g_lload_n 1 dX11_isTellingOrDay_14 rfl ?_
      refine g_ldc2 (v := 20) dX11_isTellingOrDay_15 cl_RX11_338 ?_
      refine g_lc_ge (x := a1) (y := 20) (tgt := 43) dX11_isTellingOrDay_18 dX11_isTellingOrDay_19 (by decide) (fun c3 => ?_) (fun c3 => ?_)
      · refine g_iconst (v := 0) dX11_isTellingOrDay_43 (by decide) ?_
        exact g_zret (ty := .boolean) rfl rfl dX11_isTellingOrDay_44
      · refine g_lload_n 1 dX11_isTellingOrDay_22 rfl ?_
        refine g_ldc2 (v := 10) dX11_isTellingOrDay_23 cl_RX11_340 ?_
        refine g_lrem (by decide) dX11_isTellingOrDay_26 ?_
        refine g_aload_n 0 dX11_isTellingOrDay_27 rfl ?_
        refine g_getR fl_RX11_20 rfl dX11_isTellingOrDay_28 (fun v4 => ?_)
        refine g_getI fl_RX11_181 rfl dX11_isTellingOrDay_31 (fun v5 => ?_)
        refine g_i2l dX11_isTellingOrDay_34 ?_
        refine g_lc_ge (x := (a1 - a1 / 10 * 10)) (y := (v5.toInt64)) (tgt := 43) dX11_isTellingOrDay_35 dX11_isTellingOrDay_36 (by decide) (fun c6 => ?_) (fun c6 => ?_)
        · refine g_iconst (v := 0) dX11_isTellingOrDay_43 (by decide) ?_
          exact g_zret (ty := .boolean) rfl rfl dX11_isTellingOrDay_44
        · refine g_iconst (v := 1) dX11_isTellingOrDay_39 (by decide) ?_
          refine g_goto (tgt := 44) dX11_isTellingOrDay_40 (by decide) ?_
          exact g_zret (ty := .boolean) rfl rfl dX11_isTellingOrDay_44
set_option maxRecDepth 100000 in
noncomputable def f_X11_noSet (F : Nat) (a0 : Nat) (a1 : Int32) (h : Hp) : Option (Int32 × Hp) :=
  gR 12 h a0 3 fun v1 => gI 3 h v1 1 fun v2 => if (a1 &&& (-((1 : Int32) <<< (v2 &&& 31)))) = 0 then (some (0, h)) else (some (1, h))
set_option maxRecDepth 100000 in
set_option maxHeartbeats 4000000 in
theorem T_X11_noSet (F : Nat) (a0 : Nat) (a1 : Int32) (h : Hp) : GM rvI I_X11_noSet 1 [.ref a0, .int a1] h (f_X11_noSet F a0 a1 h) := by
  delta f_X11_noSet
  refine GM_of (lv := [(0, .ref a0), (1, .int a1)]) (by decide +kernel) (Nat.le_of_ble_eq_true rfl) rfl ?_
  refine g_iload_n 1 dX11_noSet_0 rfl ?_
  refine g_iconst (v := 1) dX11_noSet_1 (by decide) ?_
  refine g_aload_n 0 dX11_noSet_2 rfl ?_
  refine g_getR fl_RX11_20 rfl dX11_noSet_3 (fun v1 => ?_)
  refine g_getI fl_RX11_184 rfl dX11_noSet_6 (fun v2 => ?_)
  refine g_ishl dX11_noSet_9 ?_
  refine g_ineg dX11_noSet_10 ?_
  refine g_iand dX11_noSet_11 ?_
  refine g_if_eq (tgt := 19) dX11_noSet_12 (by decide) (fun c3 => ?_) (fun c3 => ?_)
  · refine g_iconst (v := 0) dX11_noSet_19 (by decide) ?_
    exact g_zret (ty := .boolean) rfl rfl dX11_noSet_20
  · refine g_iconst (v := 1) dX11_noSet_15 (by decide) ?_
    refine g_goto (tgt := 20) dX11_noSet_16 (by decide) ?_
    exact g_zret (ty := .boolean) rfl rfl dX11_noSet_20
set_option maxRecDepth 100000 in
noncomputable def f_X11_noTray (F : Nat) (a0 : Nat) (a1 : Int32) (h : Hp) : Option (Int32 × Hp) :=
  if a1 < 0 then (some (1, h)) else (gR 12 h a0 8 fun v2 => al 26 h v2 fun v3 => if a1 < v3 then (some (0, h)) else (some (1, h)))
set_option maxRecDepth 100000 in
set_option maxHeartbeats 4000000 in
theorem T_X11_noTray (F : Nat) (a0 : Nat) (a1 : Int32) (h : Hp) : GM rvI I_X11_noTray 1 [.ref a0, .int a1] h (f_X11_noTray F a0 a1 h) := by
  delta f_X11_noTray
  refine GM_of (lv := [(0, .ref a0), (1, .int a1)]) (by decide +kernel) (Nat.le_of_ble_eq_true rfl) rfl ?_
  refine g_iload_n 1 dX11_noTray_0 rfl ?_
  refine g_if_lt (tgt := 13) dX11_noTray_1 (by decide) (fun c1 => ?_) (fun c1 => ?_)
  · refine g_iconst (v := 1) dX11_noTray_13 (by decide) ?_
    refine g_goto (tgt := 18) dX11_noTray_14 (by decide) ?_
    exact g_zret (ty := .boolean) rfl rfl dX11_noTray_18
  · refine g_iload_n 1 dX11_noTray_4 rfl ?_
    refine g_aload_n 0 dX11_noTray_5 rfl ?_
    refine g_getR fl_RX11_52 rfl dX11_noTray_6 (fun v2 => ?_)
    refine g_alen (by decide) (by decide) dX11_noTray_9 (fun v3 => ?_)
    refine g_icmp_lt (tgt := 17) dX11_noTray_10 (by decide) (fun c4 => ?_) (fun c4 => ?_)
    · refine g_iconst (v := 0) dX11_noTray_17 (by decide) ?_
      exact g_zret (ty := .boolean) rfl rfl dX11_noTray_18
    · refine g_iconst (v := 1) dX11_noTray_13 (by decide) ?_
      refine g_goto (tgt := 18) dX11_noTray_14 (by decide) ?_
      exact g_zret (ty := .boolean) rfl rfl dX11_noTray_18
set_option maxRecDepth 100000 in
noncomputable def f_X9_isMissing (F : Nat) (a0 : Nat) (h : Hp) : Option (Int32 × Hp) :=
  gI 10 h a0 0 fun v1 => if 0 ≤ v1 then (some (0, h)) else (some (1, h))
set_option maxRecDepth 100000 in
set_option maxHeartbeats 4000000 in
theorem T_X9_isMissing (F : Nat) (a0 : Nat) (h : Hp) : GM rvI I_X9_isMissing 1 [.ref a0] h (f_X9_isMissing F a0 h) := by
  delta f_X9_isMissing
  refine GM_of (lv := [(0, .ref a0)]) (by decide +kernel) (Nat.le_of_ble_eq_true rfl) rfl ?_
  refine g_aload_n 0 dX9_isMissing_0 rfl ?_
  refine g_getI fl_RX9_9 rfl dX9_isMissing_1 (fun v1 => ?_)
  refine g_if_ge (tgt := 11) dX9_isMissing_4 (by decide) (fun c2 => ?_) (fun c2 => ?_)
  · refine g_iconst (v := 0) dX9_isMissing_11 (by decide) ?_
    exact g_zret (ty := .boolean) rfl rfl dX9_isMissing_12
  · refine g_iconst (v := 1) dX9_isMissing_7 (by decide) ?_
    refine g_goto (tgt := 12) dX9_isMissing_8 (by decide) ?_
    exact g_zret (ty := .boolean) rfl rfl dX9_isMissing_12
set_option maxRecDepth 100000 in
noncomputable def f_X11_refusalOfBonds_55_b (F : Nat) (K55 : Nat → Int32 → Int32 → Nat → Int32 → Hp → Option (Int32 × Hp)) (l0 : Nat) (l2 : Int32) (l3 : Int32) (l4 : Nat) (l5 : Int32) (h : Hp) : Option (Int32 × Hp) :=
  gI 10 h l4 0 fun v13 => if v13 ≤ l5 then (cV 12 h l0 (f_X11_noSet F l0 l2 h) fun v15 h16 => if v15 = 0 then (cV 12 h16 l0 (f_X11_noSet F l0 l3 h16) fun v18 h19 => if v18 = 0 then (some (0, h19)) else (some ((-3), h19))) else (some ((-3), h16))) else (cV 10 h l4 (f_X9_at F l4 l5 h) fun v21 h22 => cV 12 h22 l0 (f_X11_isTellingOrDay F l0 v21 h22) fun v23 h24 => if v23 = 0 then (some ((-3), h24)) else (K55 l0 l2 l3 l4 (l5 + 1) h24))
set_option maxRecDepth 100000 in
set_option maxHeartbeats 4000000 in
theorem T_X11_refusalOfBonds_55_b (F : Nat) {K55 : Nat → Int32 → Int32 → Nat → Int32 → Hp → Option (Int32 × Hp)} (hK55 : ∀ (l0 : Nat) (l2 : Int32) (l3 : Int32) (l4 : Nat) (l5 : Int32) (h : Hp), G rvI I_X11_refusalOfBonds 2 55 [(0, .ref l0), (2, .int l2), (3, .int l3), (4, .ref l4), (5, .int l5)] [] h (K55 l0 l2 l3 l4 l5 h)) (l0 : Nat) (l2 : Int32) (l3 : Int32) (l4 : Nat) (l5 : Int32) (h : Hp) : G rvI I_X11_refusalOfBonds 2 55 [(0, .ref l0), (2, .int l2), (3, .int l3), (4, .ref l4), (5, .int l5)] [] h (f_X11_refusalOfBonds_55_b F K55 l0 l2 l3 l4 l5 h) := by
  delta f_X11_refusalOfBonds_55_b
  refine g_iload 4 dX11_refusalOfBonds_55 rfl ?_
  refine g_aload 3 dX11_refusalOfBonds_57 rfl ?_
  refine g_getI fl_RX11_306 rfl dX11_refusalOfBonds_59 (fun v13 => ?_)
  refine g_icmp_ge (tgt := 88) dX11_refusalOfBonds_62 (by decide) (fun c14 => ?_) (fun c14 => ?_)
  · refine g_aload_n 0 dX11_refusalOfBonds_88 rfl ?_
    refine g_iload_n 1 dX11_refusalOfBonds_89 rfl ?_
    refine g_callVi (J := I_X11_noSet) (t := 12) (As := [.int l2]) (rest := []) mjv_X11_noSet ml_RX11_237 ⟨rfl, by decide, by decide⟩ (by decide) rfl rfl (Nat.le_of_ble_eq_true rfl) dX11_refusalOfBonds_90 (T_X11_noSet F l0 l2 h) (fun v15 h16 => ?_)
    refine g_if_ne (tgt := 104) dX11_refusalOfBonds_93 (by decide) (fun c17 => ?_) (fun c17 => ?_)
    · refine g_aload_n 0 dX11_refusalOfBonds_96 rfl ?_
      refine g_iload_n 2 dX11_refusalOfBonds_97 rfl ?_
      refine g_callVi (J := I_X11_noSet) (t := 12) (As := [.int l3]) (rest := []) mjv_X11_noSet ml_RX11_237 ⟨rfl, by decide, by decide⟩ (by decide) rfl rfl (Nat.le_of_ble_eq_true rfl) dX11_refusalOfBonds_98 (T_X11_noSet F l0 l3 h16) (fun v18 h19 => ?_)
      refine g_if_eq (tgt := 109) dX11_refusalOfBonds_101 (by decide) (fun c20 => ?_) (fun c20 => ?_)
      · refine g_iconst (v := 0) dX11_refusalOfBonds_109 (by decide) ?_
        exact g_iret rfl dX11_refusalOfBonds_110
      · refine g_bipush (v := (-3)) dX11_refusalOfBonds_104 (by decide) ?_
        refine g_goto (tgt := 110) dX11_refusalOfBonds_106 (by decide) ?_
        exact g_iret rfl dX11_refusalOfBonds_110
    · refine g_bipush (v := (-3)) dX11_refusalOfBonds_104 (by decide) ?_
      refine g_goto (tgt := 110) dX11_refusalOfBonds_106 (by decide) ?_
      exact g_iret rfl dX11_refusalOfBonds_110
  · refine g_aload_n 0 dX11_refusalOfBonds_65 rfl ?_
    refine g_aload 3 dX11_refusalOfBonds_66 rfl ?_
    refine g_iload 4 dX11_refusalOfBonds_68 rfl ?_
    refine g_callVl (J := I_X9_at) (t := 10) (As := [.int l5]) (rest := [.ref l0]) mjv_X9_at ml_RX11_318 ⟨rfl, by decide, by decide⟩ (by decide) rfl rfl (Nat.le_of_ble_eq_true rfl) dX11_refusalOfBonds_70 (T_X9_at F l4 l5 h) (fun v21 h22 => ?_)
    refine g_callVi (J := I_X11_isTellingOrDay) (t := 12) (As := [.long v21]) (rest := []) mjv_X11_isTellingOrDay ml_RX11_332 ⟨rfl, by decide, by decide⟩ (by decide) rfl rfl (Nat.le_of_ble_eq_true rfl) dX11_refusalOfBonds_73 (T_X11_isTellingOrDay F l0 v21 h22) (fun v23 h24 => ?_)
    refine g_if_ne (tgt := 82) dX11_refusalOfBonds_76 (by decide) (fun c25 => ?_) (fun c25 => ?_)
    · refine g_bipush (v := (-3)) dX11_refusalOfBonds_79 (by decide) ?_
      exact g_iret rfl dX11_refusalOfBonds_81
    · refine g_iinc (v' := l5 + 1) (lv' := [(5, .int (l5 + 1)), (0, .ref l0), (2, .int l2), (3, .int l3), (4, .ref l4)]) 4 dX11_refusalOfBonds_82 rfl rfl (by decide) rfl ?_
      refine g_goto (tgt := 55) dX11_refusalOfBonds_85 (by decide) ?_
      refine G_lv [1, 2, 3, 4, 0] rfl ?_
      exact hK55 l0 l2 l3 l4 (l5 + 1) h24
set_option maxRecDepth 100000 in
noncomputable def f_X11_refusalOfBonds_55 (F : Nat) : Nat → Nat → Int32 → Int32 → Nat → Int32 → Hp → Option (Int32 × Hp)
  | 0, _, _, _, _, _, _ => none
  | n + 1, l0, l2, l3, l4, l5, h => f_X11_refusalOfBonds_55_b F (f_X11_refusalOfBonds_55 F n) l0 l2 l3 l4 l5 h
set_option maxRecDepth 100000 in
set_option maxHeartbeats 4000000 in
theorem T_X11_refusalOfBonds_55 (F : Nat) : ∀ (n : Nat) (l0 : Nat) (l2 : Int32) (l3 : Int32) (l4 : Nat) (l5 : Int32) (h : Hp), G rvI I_X11_refusalOfBonds 2 55 [(0, .ref l0), (2, .int l2), (3, .int l3), (4, .ref l4), (5, .int l5)] [] h (f_X11_refusalOfBonds_55 F n l0 l2 l3 l4 l5 h) := by
  intro n
  induction n with
  | zero => intros; exact G_none
  | succ n ih => intro l0 l2 l3 l4 l5 h; exact T_X11_refusalOfBonds_55_b F ih l0 l2 l3 l4 l5 h
set_option maxRecDepth 100000 in
noncomputable def f_X11_refusalOfBonds (F : Nat) (a0 : Nat) (a1 : Int32) (a2 : Int32) (a3 : Int32) (h : Hp) : Option (Int32 × Hp) :=
  cV 12 h a0 (f_X11_noTray F a0 a1 h) fun v1 h2 => if v1 = 0 then (gR 12 h2 a0 8 fun v4 => aR 26 h2 v4 a1 fun v5 => cV 10 h2 v5 (f_X9_isMissing F v5 h2) fun v6 h7 => if v6 = 0 then (gI 10 h7 v5 0 fun v9 => if v9 < 1 then (some ((-4), h7)) else (gI 10 h7 v5 0 fun v11 => if v11 ≤ 12 then (f_X11_refusalOfBonds_55 F F a0 a2 a3 v5 0 h7) else (some ((-4), h7)))) else (some ((-6), h7))) else (some ((-2), h2))
set_option maxRecDepth 100000 in
set_option maxHeartbeats 4000000 in
theorem T_X11_refusalOfBonds (F : Nat) (a0 : Nat) (a1 : Int32) (a2 : Int32) (a3 : Int32) (h : Hp) : GM rvI I_X11_refusalOfBonds 2 [.ref a0, .int a1, .int a2, .int a3] h (f_X11_refusalOfBonds F a0 a1 a2 a3 h) := by
  delta f_X11_refusalOfBonds
  refine GM_of (lv := [(0, .ref a0), (1, .int a1), (2, .int a2), (3, .int a3)]) (by decide +kernel) (Nat.le_of_ble_eq_true rfl) rfl ?_
  refine g_aload_n 0 dX11_refusalOfBonds_0 rfl ?_
  refine g_iload_n 1 dX11_refusalOfBonds_1 rfl ?_
  refine g_callVi (J := I_X11_noTray) (t := 12) (As := [.int a1]) (rest := []) mjv_X11_noTray ml_RX11_220 ⟨rfl, by decide, by decide⟩ (by decide) rfl rfl (Nat.le_of_ble_eq_true rfl) dX11_refusalOfBonds_2 (T_X11_noTray F a0 a1 h) (fun v1 h2 => ?_)
  refine g_if_eq (tgt := 11) dX11_refusalOfBonds_5 (by decide) (fun c3 => ?_) (fun c3 => ?_)
  · refine g_aload_n 0 dX11_refusalOfBonds_11 rfl ?_
    refine g_getR fl_RX11_52 rfl dX11_refusalOfBonds_12 (fun v4 => ?_)
    refine g_iload_n 1 dX11_refusalOfBonds_15 rfl ?_
    refine g_aald (by decide) (by decide) dX11_refusalOfBonds_16 (fun v5 => ?_)
    refine g_astore (lv' := [(4, .ref v5), (0, .ref a0), (1, .int a1), (2, .int a2), (3, .int a3)]) dX11_refusalOfBonds_17 (by decide) rfl ?_
    refine g_aload 0 dX11_refusalOfBonds_19 rfl ?_
    refine g_callVi (J := I_X9_isMissing) (t := 10) (As := []) (rest := []) mjv_X9_isMissing ml_RX11_223 ⟨rfl, by decide, by decide⟩ (by decide) rfl rfl (Nat.le_of_ble_eq_true rfl) dX11_refusalOfBonds_21 (T_X9_isMissing F v5 h2) (fun v6 h7 => ?_)
    refine g_if_eq (tgt := 30) dX11_refusalOfBonds_24 (by decide) (fun c8 => ?_) (fun c8 => ?_)
    · refine g_aload 0 dX11_refusalOfBonds_30 rfl ?_
      refine g_getI fl_RX11_306 rfl dX11_refusalOfBonds_32 (fun v9 => ?_)
      refine g_iconst (v := 1) dX11_refusalOfBonds_35 (by decide) ?_
      refine g_icmp_lt (tgt := 49) dX11_refusalOfBonds_36 (by decide) (fun c10 => ?_) (fun c10 => ?_)
      · refine g_bipush (v := (-4)) dX11_refusalOfBonds_49 (by decide) ?_
        exact g_iret rfl dX11_refusalOfBonds_51
      · refine g_aload 0 dX11_refusalOfBonds_39 rfl ?_
        refine g_getI fl_RX11_306 rfl dX11_refusalOfBonds_41 (fun v11 => ?_)
        refine g_bipush (v := 12) dX11_refusalOfBonds_44 (by decide) ?_
        refine g_icmp_le (tgt := 52) dX11_refusalOfBonds_46 (by decide) (fun c12 => ?_) (fun c12 => ?_)
        · refine g_iconst (v := 0) dX11_refusalOfBonds_52 (by decide) ?_
          refine g_istore (lv' := [(5, .int 0), (4, .ref v5), (0, .ref a0), (1, .int a1), (2, .int a2), (3, .int a3)]) dX11_refusalOfBonds_53 (by decide) rfl ?_
          refine G_lv [2, 4, 5, 1, 0] rfl ?_
          exact T_X11_refusalOfBonds_55 F F a0 a2 a3 v5 0 h7
        · refine g_bipush (v := (-4)) dX11_refusalOfBonds_49 (by decide) ?_
          exact g_iret rfl dX11_refusalOfBonds_51
    · refine g_bipush (v := (-6)) dX11_refusalOfBonds_27 (by decide) ?_
      exact g_iret rfl dX11_refusalOfBonds_29
  · refine g_bipush (v := (-2)) dX11_refusalOfBonds_8 (by decide) ?_
    exact g_iret rfl dX11_refusalOfBonds_10
set_option maxRecDepth 100000 in
noncomputable def f_X11_mostLeft_76 (F : Nat) (K6 : Nat → Int32 → Int32 → Int32 → Int32 → Int32 → Hp → Option (Int32 × Hp)) (K18 : Nat → Int32 → Int32 → Int32 → Int32 → Int32 → Int32 → Int32 → Hp → Option (Int32 × Hp)) (l0 : Nat) (l1 : Int32) (l2 : Int32) (l3 : Int32) (l4 : Int32) (l5 : Int32) (l6 : Int32) (l7 : Int32) (h : Hp) : Option (Int32 × Hp) :=
  K18 l0 l1 l2 l3 l4 l5 l6 (l7 + 1) h
set_option maxRecDepth 100000 in
set_option maxHeartbeats 4000000 in
theorem T_X11_mostLeft_76 (F : Nat) {K6 : Nat → Int32 → Int32 → Int32 → Int32 → Int32 → Hp → Option (Int32 × Hp)} (hK6 : ∀ (l0 : Nat) (l1 : Int32) (l2 : Int32) (l3 : Int32) (l4 : Int32) (l5 : Int32) (h : Hp), G rvI I_X11_mostLeft 4 6 [(0, .ref l0), (1, .int l1), (2, .int l2), (3, .int l3), (4, .int l4), (5, .int l5)] [] h (K6 l0 l1 l2 l3 l4 l5 h)) {K18 : Nat → Int32 → Int32 → Int32 → Int32 → Int32 → Int32 → Int32 → Hp → Option (Int32 × Hp)} (hK18 : ∀ (l0 : Nat) (l1 : Int32) (l2 : Int32) (l3 : Int32) (l4 : Int32) (l5 : Int32) (l6 : Int32) (l7 : Int32) (h : Hp), G rvI I_X11_mostLeft 4 18 [(0, .ref l0), (1, .int l1), (2, .int l2), (3, .int l3), (4, .int l4), (5, .int l5), (6, .int l6), (7, .int l7)] [] h (K18 l0 l1 l2 l3 l4 l5 l6 l7 h)) (l0 : Nat) (l1 : Int32) (l2 : Int32) (l3 : Int32) (l4 : Int32) (l5 : Int32) (l6 : Int32) (l7 : Int32) (h : Hp) : G rvI I_X11_mostLeft 4 76 [(0, .ref l0), (1, .int l1), (2, .int l2), (3, .int l3), (4, .int l4), (5, .int l5), (6, .int l6), (7, .int l7)] [] h (f_X11_mostLeft_76 F K6 K18 l0 l1 l2 l3 l4 l5 l6 l7 h) := by
  delta f_X11_mostLeft_76
  refine g_iinc (v' := l7 + 1) (lv' := [(7, .int (l7 + 1)), (0, .ref l0), (1, .int l1), (2, .int l2), (3, .int l3), (4, .int l4), (5, .int l5), (6, .int l6)]) 7 dX11_mostLeft_76 rfl rfl (by decide) rfl ?_
  refine g_goto (tgt := 18) dX11_mostLeft_79 (by decide) ?_
  refine G_lv [1, 2, 3, 4, 5, 6, 7, 0] rfl ?_
  exact hK18 l0 l1 l2 l3 l4 l5 l6 (l7 + 1) h
set_option maxRecDepth 100000 in
noncomputable def f_X11_mostLeft_18_b (F : Nat) (K6 : Nat → Int32 → Int32 → Int32 → Int32 → Int32 → Hp → Option (Int32 × Hp)) (K18 : Nat → Int32 → Int32 → Int32 → Int32 → Int32 → Int32 → Int32 → Hp → Option (Int32 × Hp)) (l0 : Nat) (l1 : Int32) (l2 : Int32) (l3 : Int32) (l4 : Int32) (l5 : Int32) (l6 : Int32) (l7 : Int32) (h : Hp) : Option (Int32 × Hp) :=
  if 10 ≤ l7 then (bd (f_J9_max_7cf53 F l4 l6 h) fun v3 h4 => K6 l0 l1 l2 l3 v3 (l5 + 1) h4) else (if ((l1 >>> (l7 &&& 31)) &&& 1) = 0 then (f_X11_mostLeft_76 F K6 K18 l0 l1 l2 l3 l4 l5 l6 l7 h) else (gR 12 h l0 3 fun v6 => gR 12 h l0 5 fun v7 => gI 9 h v7 0 fun v8 => cV 3 h v6 (f_X2_afterTelling F v6 v8 l7 l2 l3 h) fun v9 h10 => if v9 < 0 then (f_X11_mostLeft_76 F K6 K18 l0 l1 l2 l3 l4 l5 l6 l7 h10) else (bd (f_X2_ageIn F v9 (1 - l2) l3 h10) fun v12 h13 => if v12 = l5 then (f_X11_mostLeft_76 F K6 K18 l0 l1 l2 l3 l4 l5 (l6 + 1) l7 h13) else (f_X11_mostLeft_76 F K6 K18 l0 l1 l2 l3 l4 l5 l6 l7 h13))))
set_option maxRecDepth 100000 in
set_option maxHeartbeats 4000000 in
theorem T_X11_mostLeft_18_b (F : Nat) {K6 : Nat → Int32 → Int32 → Int32 → Int32 → Int32 → Hp → Option (Int32 × Hp)} (hK6 : ∀ (l0 : Nat) (l1 : Int32) (l2 : Int32) (l3 : Int32) (l4 : Int32) (l5 : Int32) (h : Hp), G rvI I_X11_mostLeft 4 6 [(0, .ref l0), (1, .int l1), (2, .int l2), (3, .int l3), (4, .int l4), (5, .int l5)] [] h (K6 l0 l1 l2 l3 l4 l5 h)) {K18 : Nat → Int32 → Int32 → Int32 → Int32 → Int32 → Int32 → Int32 → Hp → Option (Int32 × Hp)} (hK18 : ∀ (l0 : Nat) (l1 : Int32) (l2 : Int32) (l3 : Int32) (l4 : Int32) (l5 : Int32) (l6 : Int32) (l7 : Int32) (h : Hp), G rvI I_X11_mostLeft 4 18 [(0, .ref l0), (1, .int l1), (2, .int l2), (3, .int l3), (4, .int l4), (5, .int l5), (6, .int l6), (7, .int l7)] [] h (K18 l0 l1 l2 l3 l4 l5 l6 l7 h)) (l0 : Nat) (l1 : Int32) (l2 : Int32) (l3 : Int32) (l4 : Int32) (l5 : Int32) (l6 : Int32) (l7 : Int32) (h : Hp) : G rvI I_X11_mostLeft 4 18 [(0, .ref l0), (1, .int l1), (2, .int l2), (3, .int l3), (4, .int l4), (5, .int l5), (6, .int l6), (7, .int l7)] [] h (f_X11_mostLeft_18_b F K6 K18 l0 l1 l2 l3 l4 l5 l6 l7 h) := by
  delta f_X11_mostLeft_18_b
  refine g_iload 7 dX11_mostLeft_18 rfl ?_
  refine g_bipush (v := 10) dX11_mostLeft_20 (by decide) ?_
  refine g_icmp_ge (tgt := 82) dX11_mostLeft_22 (by decide) (fun c2 => ?_) (fun c2 => ?_)
  · refine g_iload 4 dX11_mostLeft_82 rfl ?_
    refine g_iload 6 dX11_mostLeft_84 rfl ?_
    refine g_callSi (J := I_J9_max_7cf53) (As := [.int l4, .int l6]) (rest := []) mjs_J9_max_7cf53 ml_RX11_288 (by decide) rfl rfl (Nat.le_of_ble_eq_true rfl) dX11_mostLeft_86 (T_J9_max_7cf53 F l4 l6 h) (fun v3 h4 => ?_)
    refine g_istore (lv' := [(4, .int v3), (0, .ref l0), (1, .int l1), (2, .int l2), (3, .int l3), (5, .int l5), (6, .int l6), (7, .int l7)]) dX11_mostLeft_89 (by decide) rfl ?_
    refine g_iinc (v' := l5 + 1) (lv' := [(5, .int (l5 + 1)), (4, .int v3), (0, .ref l0), (1, .int l1), (2, .int l2), (3, .int l3), (6, .int l6), (7, .int l7)]) 5 dX11_mostLeft_91 rfl rfl (by decide) rfl ?_
    refine g_goto (tgt := 6) dX11_mostLeft_94 (by decide) ?_
    refine G_lv [2, 3, 4, 5, 1, 0] rfl ?_
    exact hK6 l0 l1 l2 l3 v3 (l5 + 1) h4
  · refine g_iload_n 1 dX11_mostLeft_25 rfl ?_
    refine g_iload 7 dX11_mostLeft_26 rfl ?_
    refine g_ishr dX11_mostLeft_28 ?_
    refine g_iconst (v := 1) dX11_mostLeft_29 (by decide) ?_
    refine g_iand dX11_mostLeft_30 ?_
    refine g_if_eq (tgt := 76) dX11_mostLeft_31 (by decide) (fun c5 => ?_) (fun c5 => ?_)
    · refine G_lv [0, 1, 2, 3, 4, 5, 6, 7] rfl ?_
      exact T_X11_mostLeft_76 F hK6 hK18 l0 l1 l2 l3 l4 l5 l6 l7 h
    · refine g_aload_n 0 dX11_mostLeft_34 rfl ?_
      refine g_getR fl_RX11_20 rfl dX11_mostLeft_35 (fun v6 => ?_)
      refine g_aload_n 0 dX11_mostLeft_38 rfl ?_
      refine g_getR fl_RX11_36 rfl dX11_mostLeft_39 (fun v7 => ?_)
      refine g_getI fl_RX11_127 rfl dX11_mostLeft_42 (fun v8 => ?_)
      refine g_iload 7 dX11_mostLeft_45 rfl ?_
      refine g_iload_n 2 dX11_mostLeft_47 rfl ?_
      refine g_iload_n 3 dX11_mostLeft_48 rfl ?_
      refine g_callVi (J := I_X2_afterTelling) (t := 3) (As := [.int v8, .int l7, .int l2, .int l3]) (rest := []) mjv_X2_afterTelling ml_RX11_177 ⟨rfl, by decide, by decide⟩ (by decide) rfl rfl (Nat.le_of_ble_eq_true rfl) dX11_mostLeft_49 (T_X2_afterTelling F v6 v8 l7 l2 l3 h) (fun v9 h10 => ?_)
      refine g_istore (lv' := [(8, .int v9), (0, .ref l0), (1, .int l1), (2, .int l2), (3, .int l3), (4, .int l4), (5, .int l5), (6, .int l6), (7, .int l7)]) dX11_mostLeft_52 (by decide) rfl ?_
      refine g_iload 0 dX11_mostLeft_54 rfl ?_
      refine g_if_lt (tgt := 76) dX11_mostLeft_56 (by decide) (fun c11 => ?_) (fun c11 => ?_)
      · refine G_lv [1, 2, 3, 4, 5, 6, 7, 8] rfl ?_
        exact T_X11_mostLeft_76 F hK6 hK18 l0 l1 l2 l3 l4 l5 l6 l7 h10
      · refine g_iload 0 dX11_mostLeft_59 rfl ?_
        refine g_iconst (v := 1) dX11_mostLeft_61 (by decide) ?_
        refine g_iload_n 3 dX11_mostLeft_62 rfl ?_
        refine g_isub dX11_mostLeft_63 ?_
        refine g_iload_n 4 dX11_mostLeft_64 rfl ?_
        refine g_callSi (J := I_X2_ageIn) (As := [.int v9, .int (1 - l2), .int l3]) (rest := []) mjs_X2_ageIn ml_RX11_156 (by decide) rfl rfl (Nat.le_of_ble_eq_true rfl) dX11_mostLeft_65 (T_X2_ageIn F v9 (1 - l2) l3 h10) (fun v12 h13 => ?_)
        refine g_iload 6 dX11_mostLeft_68 rfl ?_
        refine g_icmp_ne (tgt := 76) dX11_mostLeft_70 (by decide) (fun c14 => ?_) (fun c14 => ?_)
        · refine g_iinc (v' := l6 + 1) (lv' := [(6, .int (l6 + 1)), (8, .int v9), (0, .ref l0), (1, .int l1), (2, .int l2), (3, .int l3), (4, .int l4), (5, .int l5), (7, .int l7)]) 7 dX11_mostLeft_73 rfl rfl (by decide) rfl ?_
          refine G_lv [2, 3, 4, 5, 6, 7, 0, 8] rfl ?_
          exact T_X11_mostLeft_76 F hK6 hK18 l0 l1 l2 l3 l4 l5 (l6 + 1) l7 h13
        · refine G_lv [1, 2, 3, 4, 5, 6, 7, 8] rfl ?_
          exact T_X11_mostLeft_76 F hK6 hK18 l0 l1 l2 l3 l4 l5 l6 l7 h13
set_option maxRecDepth 100000 in
noncomputable def f_X11_mostLeft_18 (F : Nat) (K6 : Nat → Int32 → Int32 → Int32 → Int32 → Int32 → Hp → Option (Int32 × Hp)) : Nat → Nat → Int32 → Int32 → Int32 → Int32 → Int32 → Int32 → Int32 → Hp → Option (Int32 × Hp)
  | 0, _, _, _, _, _, _, _, _, _ => none
  | n + 1, l0, l1, l2, l3, l4, l5, l6, l7, h => f_X11_mostLeft_18_b F K6 (f_X11_mostLeft_18 F K6 n) l0 l1 l2 l3 l4 l5 l6 l7 h
set_option maxRecDepth 100000 in
set_option maxHeartbeats 4000000 in
theorem T_X11_mostLeft_18 (F : Nat) {K6 : Nat → Int32 → Int32 → Int32 → Int32 → Int32 → Hp → Option (Int32 × Hp)} (hK6 : ∀ (l0 : Nat) (l1 : Int32) (l2 : Int32) (l3 : Int32) (l4 : Int32) (l5 : Int32) (h : Hp), G rvI I_X11_mostLeft 4 6 [(0, .ref l0), (1, .int l1), (2, .int l2), (3, .int l3), (4, .int l4), (5, .int l5)] [] h (K6 l0 l1 l2 l3 l4 l5 h)) : ∀ (n : Nat) (l0 : Nat) (l1 : Int32) (l2 : Int32) (l3 : Int32) (l4 : Int32) (l5 : Int32) (l6 : Int32) (l7 : Int32) (h : Hp), G rvI I_X11_mostLeft 4 18 [(0, .ref l0), (1, .int l1), (2, .int l2), (3, .int l3), (4, .int l4), (5, .int l5), (6, .int l6), (7, .int l7)] [] h (f_X11_mostLeft_18 F K6 n l0 l1 l2 l3 l4 l5 l6 l7 h) := by
  intro n
  induction n with
  | zero => intros; exact G_none
  | succ n ih => intro l0 l1 l2 l3 l4 l5 l6 l7 h; exact T_X11_mostLeft_18_b F hK6 ih l0 l1 l2 l3 l4 l5 l6 l7 h
set_option maxRecDepth 100000 in
noncomputable def f_X11_mostLeft_6_b (F : Nat) (K6 : Nat → Int32 → Int32 → Int32 → Int32 → Int32 → Hp → Option (Int32 × Hp)) (l0 : Nat) (l1 : Int32) (l2 : Int32) (l3 : Int32) (l4 : Int32) (l5 : Int32) (h : Hp) : Option (Int32 × Hp) :=
  if 3 < l5 then (some (l4, h)) else (f_X11_mostLeft_18 F K6 F l0 l1 l2 l3 l4 l5 0 0 h)
set_option maxRecDepth 100000 in
set_option maxHeartbeats 4000000 in
theorem T_X11_mostLeft_6_b (F : Nat) {K6 : Nat → Int32 → Int32 → Int32 → Int32 → Int32 → Hp → Option (Int32 × Hp)} (hK6 : ∀ (l0 : Nat) (l1 : Int32) (l2 : Int32) (l3 : Int32) (l4 : Int32) (l5 : Int32) (h : Hp), G rvI I_X11_mostLeft 4 6 [(0, .ref l0), (1, .int l1), (2, .int l2), (3, .int l3), (4, .int l4), (5, .int l5)] [] h (K6 l0 l1 l2 l3 l4 l5 h)) (l0 : Nat) (l1 : Int32) (l2 : Int32) (l3 : Int32) (l4 : Int32) (l5 : Int32) (h : Hp) : G rvI I_X11_mostLeft 4 6 [(0, .ref l0), (1, .int l1), (2, .int l2), (3, .int l3), (4, .int l4), (5, .int l5)] [] h (f_X11_mostLeft_6_b F K6 l0 l1 l2 l3 l4 l5 h) := by
  delta f_X11_mostLeft_6_b
  refine g_iload 5 dX11_mostLeft_6 rfl ?_
  refine g_iconst (v := 3) dX11_mostLeft_8 (by decide) ?_
  refine g_icmp_gt (tgt := 97) dX11_mostLeft_9 (by decide) (fun c1 => ?_) (fun c1 => ?_)
  · refine g_iload 4 dX11_mostLeft_97 rfl ?_
    exact g_iret rfl dX11_mostLeft_99
  · refine g_iconst (v := 0) dX11_mostLeft_12 (by decide) ?_
    refine g_istore (lv' := [(6, .int 0), (0, .ref l0), (1, .int l1), (2, .int l2), (3, .int l3), (4, .int l4), (5, .int l5)]) dX11_mostLeft_13 (by decide) rfl ?_
    refine g_iconst (v := 0) dX11_mostLeft_15 (by decide) ?_
    refine g_istore (lv' := [(7, .int 0), (6, .int 0), (0, .ref l0), (1, .int l1), (2, .int l2), (3, .int l3), (4, .int l4), (5, .int l5)]) dX11_mostLeft_16 (by decide) rfl ?_
    refine G_lv [2, 3, 4, 5, 6, 7, 1, 0] rfl ?_
    exact T_X11_mostLeft_18 F hK6 F l0 l1 l2 l3 l4 l5 0 0 h
set_option maxRecDepth 100000 in
noncomputable def f_X11_mostLeft_6 (F : Nat) : Nat → Nat → Int32 → Int32 → Int32 → Int32 → Int32 → Hp → Option (Int32 × Hp)
  | 0, _, _, _, _, _, _, _ => none
  | n + 1, l0, l1, l2, l3, l4, l5, h => f_X11_mostLeft_6_b F (f_X11_mostLeft_6 F n) l0 l1 l2 l3 l4 l5 h
set_option maxRecDepth 100000 in
set_option maxHeartbeats 4000000 in
theorem T_X11_mostLeft_6 (F : Nat) : ∀ (n : Nat) (l0 : Nat) (l1 : Int32) (l2 : Int32) (l3 : Int32) (l4 : Int32) (l5 : Int32) (h : Hp), G rvI I_X11_mostLeft 4 6 [(0, .ref l0), (1, .int l1), (2, .int l2), (3, .int l3), (4, .int l4), (5, .int l5)] [] h (f_X11_mostLeft_6 F n l0 l1 l2 l3 l4 l5 h) := by
  intro n
  induction n with
  | zero => intros; exact G_none
  | succ n ih => intro l0 l1 l2 l3 l4 l5 h; exact T_X11_mostLeft_6_b F ih l0 l1 l2 l3 l4 l5 h
set_option maxRecDepth 100000 in
noncomputable def f_X11_mostLeft (F : Nat) (a0 : Nat) (a1 : Int32) (a2 : Int32) (a3 : Int32) (h : Hp) : Option (Int32 × Hp) :=
  f_X11_mostLeft_6 F F a0 a1 a2 a3 0 0 h
set_option maxRecDepth 100000 in
set_option maxHeartbeats 4000000 in
theorem T_X11_mostLeft (F : Nat) (a0 : Nat) (a1 : Int32) (a2 : Int32) (a3 : Int32) (h : Hp) : GM rvI I_X11_mostLeft 4 [.ref a0, .int a1, .int a2, .int a3] h (f_X11_mostLeft F a0 a1 a2 a3 h) := by
  delta f_X11_mostLeft
  refine GM_of (lv := [(0, .ref a0), (1, .int a1), (2, .int a2), (3, .int a3)]) (by decide +kernel) (Nat.le_of_ble_eq_true rfl) rfl ?_
  refine g_iconst (v := 0) dX11_mostLeft_0 (by decide) ?_
  refine g_istore (lv' := [(4, .int 0), (0, .ref a0), (1, .int a1), (2, .int a2), (3, .int a3)]) dX11_mostLeft_1 (by decide) rfl ?_
  refine g_iconst (v := 0) dX11_mostLeft_3 (by decide) ?_
  refine g_istore (lv' := [(5, .int 0), (4, .int 0), (0, .ref a0), (1, .int a1), (2, .int a2), (3, .int a3)]) dX11_mostLeft_4 (by decide) rfl ?_
  refine G_lv [2, 3, 4, 5, 1, 0] rfl ?_
  exact T_X11_mostLeft_6 F F a0 a1 a2 a3 0 0 h
set_option maxRecDepth 100000 in
noncomputable def f_X11_tellingNext_86 (F : Nat) (K8 : Nat → Int32 → Int32 → Int32 → Int32 → Hp → Option (Int32 × Hp)) (K17 : Nat → Int32 → Int32 → Int32 → Int32 → Int32 → Hp → Option (Int32 × Hp)) (l0 : Nat) (l1 : Int32) (l2 : Int32) (l3 : Int32) (l4 : Int32) (l5 : Int32) (h : Hp) : Option (Int32 × Hp) :=
  K17 l0 l1 l2 l3 l4 (l5 + 1) h
set_option maxRecDepth 100000 in
set_option maxHeartbeats 4000000 in
theorem T_X11_tellingNext_86 (F : Nat) {K8 : Nat → Int32 → Int32 → Int32 → Int32 → Hp → Option (Int32 × Hp)} (hK8 : ∀ (l0 : Nat) (l1 : Int32) (l2 : Int32) (l3 : Int32) (l4 : Int32) (h : Hp), G rvI I_X11_tellingNext 5 8 [(0, .ref l0), (1, .int l1), (2, .int l2), (3, .int l3), (4, .int l4)] [] h (K8 l0 l1 l2 l3 l4 h)) {K17 : Nat → Int32 → Int32 → Int32 → Int32 → Int32 → Hp → Option (Int32 × Hp)} (hK17 : ∀ (l0 : Nat) (l1 : Int32) (l2 : Int32) (l3 : Int32) (l4 : Int32) (l5 : Int32) (h : Hp), G rvI I_X11_tellingNext 5 17 [(0, .ref l0), (1, .int l1), (2, .int l2), (3, .int l3), (4, .int l4), (5, .int l5)] [] h (K17 l0 l1 l2 l3 l4 l5 h)) (l0 : Nat) (l1 : Int32) (l2 : Int32) (l3 : Int32) (l4 : Int32) (l5 : Int32) (h : Hp) : G rvI I_X11_tellingNext 5 86 [(0, .ref l0), (1, .int l1), (2, .int l2), (3, .int l3), (4, .int l4), (5, .int l5)] [] h (f_X11_tellingNext_86 F K8 K17 l0 l1 l2 l3 l4 l5 h) := by
  delta f_X11_tellingNext_86
  refine g_iinc (v' := l5 + 1) (lv' := [(5, .int (l5 + 1)), (0, .ref l0), (1, .int l1), (2, .int l2), (3, .int l3), (4, .int l4)]) 5 dX11_tellingNext_86 rfl rfl (by decide) rfl ?_
  refine g_goto (tgt := 17) dX11_tellingNext_89 (by decide) ?_
  refine G_lv [1, 2, 3, 4, 5, 0] rfl ?_
  exact hK17 l0 l1 l2 l3 l4 (l5 + 1) h
set_option maxRecDepth 100000 in
noncomputable def f_X11_tellingNext_17_b (F : Nat) (K8 : Nat → Int32 → Int32 → Int32 → Int32 → Hp → Option (Int32 × Hp)) (K17 : Nat → Int32 → Int32 → Int32 → Int32 → Int32 → Hp → Option (Int32 × Hp)) (l0 : Nat) (l1 : Int32) (l2 : Int32) (l3 : Int32) (l4 : Int32) (l5 : Int32) (h : Hp) : Option (Int32 × Hp) :=
  gR 12 h l0 3 fun v2 => gI 3 h v2 0 fun v3 => if v3 ≤ l5 then (K8 l0 l1 l2 l3 (l4 + 1) h) else (gR 12 h l0 3 fun v5 => gR 12 h l0 5 fun v6 => gI 9 h v6 0 fun v7 => gR 12 h l0 5 fun v8 => gI 9 h v8 1 fun v9 => cV 3 h v5 (f_X2_afterTelling F v5 v7 v9 l4 l5 h) fun v10 h11 => if v10 < 0 then (f_X11_tellingNext_86 F K8 K17 l0 l1 l2 l3 l4 l5 h11) else (cV 12 h11 l0 (f_X11_mostLeft F l0 l1 l4 l5 h11) fun v13 h14 => if l3 ≤ v13 then (f_X11_tellingNext_86 F K8 K17 l0 l1 l2 l3 l4 l5 h14) else (lt ((10 * l4) + l5) fun x16 => f_X11_tellingNext_86 F K8 K17 l0 l1 x16 v13 l4 l5 h14)))
set_option maxRecDepth 100000 in
set_option maxHeartbeats 4000000 in
theorem T_X11_tellingNext_17_b (F : Nat) {K8 : Nat → Int32 → Int32 → Int32 → Int32 → Hp → Option (Int32 × Hp)} (hK8 : ∀ (l0 : Nat) (l1 : Int32) (l2 : Int32) (l3 : Int32) (l4 : Int32) (h : Hp), G rvI I_X11_tellingNext 5 8 [(0, .ref l0), (1, .int l1), (2, .int l2), (3, .int l3), (4, .int l4)] [] h (K8 l0 l1 l2 l3 l4 h)) {K17 : Nat → Int32 → Int32 → Int32 → Int32 → Int32 → Hp → Option (Int32 × Hp)} (hK17 : ∀ (l0 : Nat) (l1 : Int32) (l2 : Int32) (l3 : Int32) (l4 : Int32) (l5 : Int32) (h : Hp), G rvI I_X11_tellingNext 5 17 [(0, .ref l0), (1, .int l1), (2, .int l2), (3, .int l3), (4, .int l4), (5, .int l5)] [] h (K17 l0 l1 l2 l3 l4 l5 h)) (l0 : Nat) (l1 : Int32) (l2 : Int32) (l3 : Int32) (l4 : Int32) (l5 : Int32) (h : Hp) : G rvI I_X11_tellingNext 5 17 [(0, .ref l0), (1, .int l1), (2, .int l2), (3, .int l3), (4, .int l4), (5, .int l5)] [] h (f_X11_tellingNext_17_b F K8 K17 l0 l1 l2 l3 l4 l5 h) := by
  delta f_X11_tellingNext_17_b
  refine g_iload 5 dX11_tellingNext_17 rfl ?_
  refine g_aload_n 0 dX11_tellingNext_19 rfl ?_
  refine g_getR fl_RX11_20 rfl dX11_tellingNext_20 (fun v2 => ?_)
  refine g_getI fl_RX11_181 rfl dX11_tellingNext_23 (fun v3 => ?_)
  refine g_icmp_ge (tgt := 92) dX11_tellingNext_26 (by decide) (fun c4 => ?_) (fun c4 => ?_)
  · refine g_iinc (v' := l4 + 1) (lv' := [(4, .int (l4 + 1)), (0, .ref l0), (1, .int l1), (2, .int l2), (3, .int l3), (5, .int l5)]) 4 dX11_tellingNext_92 rfl rfl (by decide) rfl ?_
    refine g_goto (tgt := 8) dX11_tellingNext_95 (by decide) ?_
    refine G_lv [1, 2, 3, 4, 0] rfl ?_
    exact hK8 l0 l1 l2 l3 (l4 + 1) h
  · refine g_aload_n 0 dX11_tellingNext_29 rfl ?_
    refine g_getR fl_RX11_20 rfl dX11_tellingNext_30 (fun v5 => ?_)
    refine g_aload_n 0 dX11_tellingNext_33 rfl ?_
    refine g_getR fl_RX11_36 rfl dX11_tellingNext_34 (fun v6 => ?_)
    refine g_getI fl_RX11_127 rfl dX11_tellingNext_37 (fun v7 => ?_)
    refine g_aload_n 0 dX11_tellingNext_40 rfl ?_
    refine g_getR fl_RX11_36 rfl dX11_tellingNext_41 (fun v8 => ?_)
    refine g_getI fl_RX11_133 rfl dX11_tellingNext_44 (fun v9 => ?_)
    refine g_iload 4 dX11_tellingNext_47 rfl ?_
    refine g_iload 5 dX11_tellingNext_49 rfl ?_
    refine g_callVi (J := I_X2_afterTelling) (t := 3) (As := [.int v7, .int v9, .int l4, .int l5]) (rest := []) mjv_X2_afterTelling ml_RX11_177 ⟨rfl, by decide, by decide⟩ (by decide) rfl rfl (Nat.le_of_ble_eq_true rfl) dX11_tellingNext_51 (T_X2_afterTelling F v5 v7 v9 l4 l5 h) (fun v10 h11 => ?_)
    refine g_if_lt (tgt := 86) dX11_tellingNext_54 (by decide) (fun c12 => ?_) (fun c12 => ?_)
    · refine G_lv [0, 1, 2, 3, 4, 5] rfl ?_
      exact T_X11_tellingNext_86 F hK8 hK17 l0 l1 l2 l3 l4 l5 h11
    · refine g_aload_n 0 dX11_tellingNext_57 rfl ?_
      refine g_iload_n 1 dX11_tellingNext_58 rfl ?_
      refine g_iload 4 dX11_tellingNext_59 rfl ?_
      refine g_iload 5 dX11_tellingNext_61 rfl ?_
      refine g_callVi (J := I_X11_mostLeft) (t := 12) (As := [.int l1, .int l4, .int l5]) (rest := []) mjv_X11_mostLeft ml_RX11_346 ⟨rfl, by decide, by decide⟩ (by decide) rfl rfl (Nat.le_of_ble_eq_true rfl) dX11_tellingNext_63 (T_X11_mostLeft F l0 l1 l4 l5 h11) (fun v13 h14 => ?_)
      refine g_istore (lv' := [(6, .int v13), (0, .ref l0), (1, .int l1), (2, .int l2), (3, .int l3), (4, .int l4), (5, .int l5)]) dX11_tellingNext_66 (by decide) rfl ?_
      refine g_iload 0 dX11_tellingNext_68 rfl ?_
      refine g_iload_n 4 dX11_tellingNext_70 rfl ?_
      refine g_icmp_ge (tgt := 86) dX11_tellingNext_71 (by decide) (fun c15 => ?_) (fun c15 => ?_)
      · refine G_lv [1, 2, 3, 4, 5, 6] rfl ?_
        exact T_X11_tellingNext_86 F hK8 hK17 l0 l1 l2 l3 l4 l5 h14
      · refine g_iload 0 dX11_tellingNext_74 rfl ?_
        refine g_istore_n (lv' := [(3, .int v13), (6, .int v13), (0, .ref l0), (1, .int l1), (2, .int l2), (4, .int l4), (5, .int l5)]) dX11_tellingNext_76 (by decide) rfl ?_
        refine g_bipush (v := 10) dX11_tellingNext_77 (by decide) ?_
        refine g_iload 5 dX11_tellingNext_79 rfl ?_
        refine g_imul dX11_tellingNext_81 ?_
        refine g_iload 6 dX11_tellingNext_82 rfl ?_
        refine g_iadd dX11_tellingNext_84 ?_
        refine G_lti (fun x16 => ?_)
        refine g_istore_n (lv' := [(2, .int x16), (3, .int v13), (6, .int v13), (0, .ref l0), (1, .int l1), (4, .int l4), (5, .int l5)]) dX11_tellingNext_85 (by decide) rfl ?_
        refine G_lv [3, 4, 0, 1, 5, 6] rfl ?_
        exact T_X11_tellingNext_86 F hK8 hK17 l0 l1 x16 v13 l4 l5 h14
set_option maxRecDepth 100000 in
noncomputable def f_X11_tellingNext_17 (F : Nat) (K8 : Nat → Int32 → Int32 → Int32 → Int32 → Hp → Option (Int32 × Hp)) : Nat → Nat → Int32 → Int32 → Int32 → Int32 → Int32 → Hp → Option (Int32 × Hp)
  | 0, _, _, _, _, _, _, _ => none
  | n + 1, l0, l1, l2, l3, l4, l5, h => f_X11_tellingNext_17_b F K8 (f_X11_tellingNext_17 F K8 n) l0 l1 l2 l3 l4 l5 h
set_option maxRecDepth 100000 in
set_option maxHeartbeats 4000000 in
theorem T_X11_tellingNext_17 (F : Nat) {K8 : Nat → Int32 → Int32 → Int32 → Int32 → Hp → Option (Int32 × Hp)} (hK8 : ∀ (l0 : Nat) (l1 : Int32) (l2 : Int32) (l3 : Int32) (l4 : Int32) (h : Hp), G rvI I_X11_tellingNext 5 8 [(0, .ref l0), (1, .int l1), (2, .int l2), (3, .int l3), (4, .int l4)] [] h (K8 l0 l1 l2 l3 l4 h)) : ∀ (n : Nat) (l0 : Nat) (l1 : Int32) (l2 : Int32) (l3 : Int32) (l4 : Int32) (l5 : Int32) (h : Hp), G rvI I_X11_tellingNext 5 17 [(0, .ref l0), (1, .int l1), (2, .int l2), (3, .int l3), (4, .int l4), (5, .int l5)] [] h (f_X11_tellingNext_17 F K8 n l0 l1 l2 l3 l4 l5 h) := by
  intro n
  induction n with
  | zero => intros; exact G_none
  | succ n ih => intro l0 l1 l2 l3 l4 l5 h; exact T_X11_tellingNext_17_b F hK8 ih l0 l1 l2 l3 l4 l5 h
set_option maxRecDepth 100000 in
noncomputable def f_X11_tellingNext_8_b (F : Nat) (K8 : Nat → Int32 → Int32 → Int32 → Int32 → Hp → Option (Int32 × Hp)) (l0 : Nat) (l1 : Int32) (l2 : Int32) (l3 : Int32) (l4 : Int32) (h : Hp) : Option (Int32 × Hp) :=
  if 2 ≤ l4 then (some (l2, h)) else (f_X11_tellingNext_17 F K8 F l0 l1 l2 l3 l4 0 h)
set_option maxRecDepth 100000 in
set_option maxHeartbeats 4000000 in
theorem T_X11_tellingNext_8_b (F : Nat) {K8 : Nat → Int32 → Int32 → Int32 → Int32 → Hp → Option (Int32 × Hp)} (hK8 : ∀ (l0 : Nat) (l1 : Int32) (l2 : Int32) (l3 : Int32) (l4 : Int32) (h : Hp), G rvI I_X11_tellingNext 5 8 [(0, .ref l0), (1, .int l1), (2, .int l2), (3, .int l3), (4, .int l4)] [] h (K8 l0 l1 l2 l3 l4 h)) (l0 : Nat) (l1 : Int32) (l2 : Int32) (l3 : Int32) (l4 : Int32) (h : Hp) : G rvI I_X11_tellingNext 5 8 [(0, .ref l0), (1, .int l1), (2, .int l2), (3, .int l3), (4, .int l4)] [] h (f_X11_tellingNext_8_b F K8 l0 l1 l2 l3 l4 h) := by
  delta f_X11_tellingNext_8_b
  refine g_iload 4 dX11_tellingNext_8 rfl ?_
  refine g_iconst (v := 2) dX11_tellingNext_10 (by decide) ?_
  refine g_icmp_ge (tgt := 98) dX11_tellingNext_11 (by decide) (fun c1 => ?_) (fun c1 => ?_)
  · refine g_iload_n 2 dX11_tellingNext_98 rfl ?_
    exact g_iret rfl dX11_tellingNext_99
  · refine g_iconst (v := 0) dX11_tellingNext_14 (by decide) ?_
    refine g_istore (lv' := [(5, .int 0), (0, .ref l0), (1, .int l1), (2, .int l2), (3, .int l3), (4, .int l4)]) dX11_tellingNext_15 (by decide) rfl ?_
    refine G_lv [1, 2, 3, 4, 5, 0] rfl ?_
    exact T_X11_tellingNext_17 F hK8 F l0 l1 l2 l3 l4 0 h
set_option maxRecDepth 100000 in
noncomputable def f_X11_tellingNext_8 (F : Nat) : Nat → Nat → Int32 → Int32 → Int32 → Int32 → Hp → Option (Int32 × Hp)
  | 0, _, _, _, _, _, _ => none
  | n + 1, l0, l1, l2, l3, l4, h => f_X11_tellingNext_8_b F (f_X11_tellingNext_8 F n) l0 l1 l2 l3 l4 h
set_option maxRecDepth 100000 in
set_option maxHeartbeats 4000000 in
theorem T_X11_tellingNext_8 (F : Nat) : ∀ (n : Nat) (l0 : Nat) (l1 : Int32) (l2 : Int32) (l3 : Int32) (l4 : Int32) (h : Hp), G rvI I_X11_tellingNext 5 8 [(0, .ref l0), (1, .int l1), (2, .int l2), (3, .int l3), (4, .int l4)] [] h (f_X11_tellingNext_8 F n l0 l1 l2 l3 l4 h) := by
  intro n
  induction n with
  | zero => intros; exact G_none
  | succ n ih => intro l0 l1 l2 l3 l4 h; exact T_X11_tellingNext_8_b F ih l0 l1 l2 l3 l4 h
set_option maxRecDepth 100000 in
noncomputable def f_X11_tellingNext (F : Nat) (a0 : Nat) (a1 : Int32) (h : Hp) : Option (Int32 × Hp) :=
  f_X11_tellingNext_8 F F a0 a1 (-1) 11 0 h
set_option maxRecDepth 100000 in
set_option maxHeartbeats 4000000 in
theorem T_X11_tellingNext (F : Nat) (a0 : Nat) (a1 : Int32) (h : Hp) : GM rvI I_X11_tellingNext 5 [.ref a0, .int a1] h (f_X11_tellingNext F a0 a1 h) := by
  delta f_X11_tellingNext
  refine GM_of (lv := [(0, .ref a0), (1, .int a1)]) (by decide +kernel) (Nat.le_of_ble_eq_true rfl) rfl ?_
  refine g_iconst (v := (-1)) dX11_tellingNext_0 (by decide) ?_
  refine g_istore_n (lv' := [(2, .int (-1)), (0, .ref a0), (1, .int a1)]) dX11_tellingNext_1 (by decide) rfl ?_
  refine g_bipush (v := 11) dX11_tellingNext_2 (by decide) ?_
  refine g_istore_n (lv' := [(3, .int 11), (2, .int (-1)), (0, .ref a0), (1, .int a1)]) dX11_tellingNext_4 (by decide) rfl ?_
  refine g_iconst (v := 0) dX11_tellingNext_5 (by decide) ?_
  refine g_istore (lv' := [(4, .int 0), (3, .int 11), (2, .int (-1)), (0, .ref a0), (1, .int a1)]) dX11_tellingNext_6 (by decide) rfl ?_
  refine G_lv [3, 4, 2, 1, 0] rfl ?_
  exact T_X11_tellingNext_8 F F a0 a1 (-1) 11 0 h
set_option maxRecDepth 100000 in
noncomputable def f_X11_attempt (F : Nat) (a0 : Nat) (a1 : Int32) (a2 : Int32) (a3 : Int32) (h : Hp) : Option (Int32 × Hp) :=
  cV 12 h a0 (f_X11_refusalOfBonds F a0 a1 a2 a3 h) fun v1 h2 => if v1 = 0 then (gR 12 h2 a0 8 fun v4 => aR 26 h2 v4 a1 fun v5 => cV 12 h2 a0 (f_X11_bondBits F a0 v5 a2 a3 h2) fun v6 h7 => if v6 = 0 then (some ((-1), h7)) else (cV 12 h7 a0 (f_X11_tellingNext F a0 v6 h7) fun v9 h10 => some (v9, h10))) else (some (v1, h2))
set_option maxRecDepth 100000 in
set_option maxHeartbeats 4000000 in
theorem T_X11_attempt (F : Nat) (a0 : Nat) (a1 : Int32) (a2 : Int32) (a3 : Int32) (h : Hp) : GM rvI I_X11_attempt 8 [.ref a0, .int a1, .int a2, .int a3] h (f_X11_attempt F a0 a1 a2 a3 h) := by
  delta f_X11_attempt
  refine GM_of (lv := [(0, .ref a0), (1, .int a1), (2, .int a2), (3, .int a3)]) (by decide +kernel) (Nat.le_of_ble_eq_true rfl) rfl ?_
  refine g_aload_n 0 dX11_attempt_0 rfl ?_
  refine g_iload_n 1 dX11_attempt_1 rfl ?_
  refine g_iload_n 2 dX11_attempt_2 rfl ?_
  refine g_iload_n 3 dX11_attempt_3 rfl ?_
  refine g_callVi (J := I_X11_refusalOfBonds) (t := 12) (As := [.int a1, .int a2, .int a3]) (rest := []) mjv_X11_refusalOfBonds ml_RX11_322 ⟨rfl, by decide, by decide⟩ (by decide) rfl rfl (Nat.le_of_ble_eq_true rfl) dX11_attempt_4 (T_X11_refusalOfBonds F a0 a1 a2 a3 h) (fun v1 h2 => ?_)
  refine g_istore (lv' := [(4, .int v1), (0, .ref a0), (1, .int a1), (2, .int a2), (3, .int a3)]) dX11_attempt_7 (by decide) rfl ?_
  refine g_iload 0 dX11_attempt_9 rfl ?_
  refine g_if_eq (tgt := 17) dX11_attempt_11 (by decide) (fun c3 => ?_) (fun c3 => ?_)
  · refine g_aload_n 1 dX11_attempt_17 rfl ?_
    refine g_aload_n 1 dX11_attempt_18 rfl ?_
    refine g_getR fl_RX11_52 rfl dX11_attempt_19 (fun v4 => ?_)
    refine g_iload_n 2 dX11_attempt_22 rfl ?_
    refine g_aald (by decide) (by decide) dX11_attempt_23 (fun v5 => ?_)
    refine g_iload_n 3 dX11_attempt_24 rfl ?_
    refine g_iload_n 4 dX11_attempt_25 rfl ?_
    refine g_callVi (J := I_X11_bondBits) (t := 12) (As := [.ref v5, .int a2, .int a3]) (rest := []) mjv_X11_bondBits ml_RX11_325 ⟨rfl, by decide, by decide⟩ (by decide) rfl rfl (Nat.le_of_ble_eq_true rfl) dX11_attempt_26 (T_X11_bondBits F a0 v5 a2 a3 h2) (fun v6 h7 => ?_)
    refine g_istore (lv' := [(5, .int v6), (4, .int v1), (0, .ref a0), (1, .int a1), (2, .int a2), (3, .int a3)]) dX11_attempt_29 (by decide) rfl ?_
    refine g_iload 0 dX11_attempt_31 rfl ?_
    refine g_if_ne (tgt := 40) dX11_attempt_33 (by decide) (fun c8 => ?_) (fun c8 => ?_)
    · refine g_iconst (v := (-1)) dX11_attempt_36 (by decide) ?_
      refine g_goto (tgt := 46) dX11_attempt_37 (by decide) ?_
      exact g_iret rfl dX11_attempt_46
    · refine g_aload_n 2 dX11_attempt_40 rfl ?_
      refine g_iload 0 dX11_attempt_41 rfl ?_
      refine g_callVi (J := I_X11_tellingNext) (t := 12) (As := [.int v6]) (rest := []) mjv_X11_tellingNext ml_RX11_329 ⟨rfl, by decide, by decide⟩ (by decide) rfl rfl (Nat.le_of_ble_eq_true rfl) dX11_attempt_43 (T_X11_tellingNext F a0 v6 h7) (fun v9 h10 => ?_)
      exact g_iret rfl dX11_attempt_46
  · refine g_iload 0 dX11_attempt_14 rfl ?_
    exact g_iret rfl dX11_attempt_16
set_option maxRecDepth 100000 in
noncomputable def f_X1_begin_43 (F : Nat) (l0 : Nat) (h : Hp) : Option (Unit × Hp) :=
  gR 2 h l0 0 fun v10 => bd (f_J7_fill_53178 F v10 0 h) fun v11 h12 => some ((), h12)
set_option maxRecDepth 100000 in
set_option maxHeartbeats 4000000 in
theorem T_X1_begin_43 (F : Nat) (l0 : Nat) (h : Hp) : G rvV I_X1_begin 2 43 [(0, .ref l0)] [] h (f_X1_begin_43 F l0 h) := by
  delta f_X1_begin_43
  refine g_aload_n 0 dX1_begin_43 rfl ?_
  refine g_getR fl_RX1_9 rfl dX1_begin_44 (fun v10 => ?_)
  refine g_iconst (v := 0) dX1_begin_47 (by decide) ?_
  refine g_callSv (J := I_J7_fill_53178) (As := [.ref v10, .int 0]) (rest := []) mjs_J7_fill_53178 ml_RX1_35 (by decide) rfl rfl (Nat.le_of_ble_eq_true rfl) dX1_begin_48 (T_J7_fill_53178 F v10 0 h) (fun v11 h12 => ?_)
  exact g_vret rfl dX1_begin_51
set_option maxRecDepth 100000 in
noncomputable def f_X1_begin (F : Nat) (a0 : Nat) (a1 : Nat) (a2 : Int32) (a3 : Int32) (a4 : Int32) (h : Hp) : Option (Unit × Hp) :=
  pR 2 h a0 1 a1 fun h1 => pI 2 h1 a0 2 a2 fun h2 => pI 2 h2 a0 3 a3 fun h3 => pI 2 h3 a0 4 a4 fun h4 => gR 2 h4 a0 0 fun v5 => al 20 h4 v5 fun v6 => cV 3 h4 a1 (f_X2_room F a1 h4) fun v7 h8 => if v7 ≤ v6 then (f_X1_begin_43 F a0 h8) else (cV 3 h8 a1 (f_X2_room F a1 h8) fun v13 h14 => nA 20 h14 v13 fun b15 h16 => pR 2 h16 a0 0 b15 fun h17 => f_X1_begin_43 F a0 h17)
set_option maxRecDepth 100000 in
set_option maxHeartbeats 4000000 in
theorem T_X1_begin (F : Nat) (a0 : Nat) (a1 : Nat) (a2 : Int32) (a3 : Int32) (a4 : Int32) (h : Hp) : GM rvV I_X1_begin 2 [.ref a0, .ref a1, .int a2, .int a3, .int a4] h (f_X1_begin F a0 a1 a2 a3 a4 h) := by
  delta f_X1_begin
  refine GM_of (lv := [(0, .ref a0), (1, .ref a1), (2, .int a2), (3, .int a3), (4, .int a4)]) (by decide +kernel) (Nat.le_of_ble_eq_true rfl) rfl ?_
  refine g_aload_n 0 dX1_begin_0 rfl ?_
  refine g_aload_n 1 dX1_begin_1 rfl ?_
  refine g_putR fl_RX1_15 rfl (Or.inl rfl) dX1_begin_2 (fun h1 => ?_)
  refine g_aload_n 0 dX1_begin_5 rfl ?_
  refine g_iload_n 2 dX1_begin_6 rfl ?_
  refine g_putI fl_RX1_19 (Or.inl rfl) dX1_begin_7 (fun h2 => ?_)
  refine g_aload_n 0 dX1_begin_10 rfl ?_
  refine g_iload_n 3 dX1_begin_11 rfl ?_
  refine g_putI fl_RX1_23 (Or.inl rfl) dX1_begin_12 (fun h3 => ?_)
  refine g_aload_n 0 dX1_begin_15 rfl ?_
  refine g_iload 4 dX1_begin_16 rfl ?_
  refine g_putI fl_RX1_26 (Or.inl rfl) dX1_begin_18 (fun h4 => ?_)
  refine g_aload_n 0 dX1_begin_21 rfl ?_
  refine g_getR fl_RX1_9 rfl dX1_begin_22 (fun v5 => ?_)
  refine g_alen (by decide) (by decide) dX1_begin_25 (fun v6 => ?_)
  refine g_aload_n 1 dX1_begin_26 rfl ?_
  refine g_callVi (J := I_X2_room) (t := 3) (As := []) (rest := [.int v6]) mjv_X2_room ml_RX1_29 ⟨rfl, by decide, by decide⟩ (by decide) rfl rfl (Nat.le_of_ble_eq_true rfl) dX1_begin_27 (T_X2_room F a1 h4) (fun v7 h8 => ?_)
  refine g_icmp_ge (tgt := 43) dX1_begin_30 (by decide) (fun c9 => ?_) (fun c9 => ?_)
  · refine G_lv [0] rfl ?_
    exact T_X1_begin_43 F a0 h8
  · refine g_aload_n 0 dX1_begin_33 rfl ?_
    refine g_aload_n 1 dX1_begin_34 rfl ?_
    refine g_callVi (J := I_X2_room) (t := 3) (As := []) (rest := [.ref a0]) mjv_X2_room ml_RX1_29 ⟨rfl, by decide, by decide⟩ (by decide) rfl rfl (Nat.le_of_ble_eq_true rfl) dX1_begin_35 (T_X2_room F a1 h8) (fun v13 h14 => ?_)
    refine g_newa (t := 20) (by decide) (by decide) rfl ac_int dX1_begin_38 (fun b15 h16 => ?_)
    refine g_putR fl_RX1_9 rfl (Or.inl rfl) dX1_begin_40 (fun h17 => ?_)
    refine G_lv [0] rfl ?_
    exact T_X1_begin_43 F a0 h17
