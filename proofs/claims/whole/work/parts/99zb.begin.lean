/-! from the machine's start to the abstract heap's -/
set_option maxRecDepth 100000 in
set_option maxHeartbeats 4000000 in
theorem T_L_lawG (F : Nat) (a0 : Nat) (h : Hp) : G rvI I_L_law 77 0 [(0, .ref a0)] [] h (f_L_law F a0 h) := by
  delta f_L_law
  refine g_new (by decide) (by decide) nl_RL_7 dL_law_0 (fun b1 h2 => ?_)
  refine g_dup dL_law_3 rfl ?_
  refine g_callI (J := I_X11_init) (As := []) (rest := [.ref b1]) mji_X11_init rfl ml_RL_9 (by decide) rfl rfl (Nat.le_of_ble_eq_true rfl) dL_law_4 (T_X11_init F b1 h2) (fun h4 => ?_)
  refine g_astore_n (lv' := [(1, .ref b1), (0, .ref a0)]) dL_law_7 (by decide) rfl ?_
  refine g_new (by decide) (by decide) nl_RL_10 dL_law_8 (fun b5 h6 => ?_)
  refine g_dup dL_law_11 rfl ?_
  refine g_callI (J := I_X12_init) (As := []) (rest := [.ref b5]) mji_X12_init rfl ml_RL_12 (by decide) rfl rfl (Nat.le_of_ble_eq_true rfl) dL_law_12 (T_X12_init F b5 h6) (fun h8 => ?_)
  refine g_astore_n (lv' := [(2, .ref b5), (1, .ref b1), (0, .ref a0)]) dL_law_15 (by decide) rfl ?_
  refine g_iconst (v := 0) dL_law_16 (by decide) ?_
  refine g_istore_n (lv' := [(3, .int 0), (2, .ref b5), (1, .ref b1), (0, .ref a0)]) dL_law_17 (by decide) rfl ?_
  refine G_lv [3, 2, 1, 0] rfl ?_
  exact T_L_law_18 F F a0 b1 b5 0 h8
theorem wb_arr {args : Array Value} {s : State} {ty : FieldType} (h : (Cond.arrayClass ty).before args s = true) : ∃ cA : ClassId, ArrOfT s cA ty ∧ s.vm.findClass ("[" ++ ty.toString) = some cA := by
  obtain ⟨cA, kA, comp, h1, h2, h3⟩ := Cond.arrayClass_spec h
  exact ⟨cA, fun n z => ⟨fun k h => (by cases h), kA, h2, comp, h3⟩, h1⟩
theorem wb_arrO {args : Array Value} {s : State} {C : String} (h : (Cond.arrayOver (.object C)).before args s = true) : ∃ cA : ClassId, ArrOfT s cA (.object C) ∧ va_RA s cA (.object C) := by
  obtain ⟨comp, cA, kA, h1, -, h2, h3, h4⟩ := Cond.arrayOver_spec h
  exact ⟨cA, fun n z => ⟨fun k h => (by cases h), kA, h2, comp, h3⟩, kA, comp, h2, h3, h1, h4⟩
theorem wb_over : ∀ C ∈ [RX2, RX8, RX9], Cond.arrayOver (.object C) ∈ lw_tbl := by decide +kernel
theorem wb_nest : ∀ q ∈ kn_w, Cond.methodLinkNest q.1 q.2.1 q.2.2.1 q.2.2.2 ∈ lw_tbl := by decide +kernel
theorem wb_ref : ∀ i, i < 4 → Cond.stringRef (ks_o i) (ks_x i) (ks_t (ks_s i)) ∈ lw_tbl := by decide +kernel
theorem wb_inst : ∀ t, t < 13 → Cond.instantiable (kc_N (t + 1)) (kc_n (t + 1)) ∈ lw_tbl := by decide +kernel
theorem wb_stat : (Cond.laysStatic "java/lang/String" "COMPACT_STRINGS" "Z" ∈ lw_tbl ∧ Cond.initialized "java/lang/String" ∈ lw_tbl) ∧ Cond.laysStatic "jdk/internal/util/Preconditions" "SIOOBE_FORMATTER" "Ljava/util/function/BiFunction;" ∈ lw_tbl ∧ Cond.initialized "jdk/internal/util/Preconditions" ∈ lw_tbl := by decide +kernel
theorem wb_arrs {args : Array Value} {s : State} (hts : ∀ w ∈ lw_tbl, w.before args s = true) (t : Nat) : ∃ cA : ClassId, 20 ≤ t → t < 27 → ArrOfT s cA (ka_y t) ∧ va_RA s cA (ka_y t) := by
  by_cases hb : 20 ≤ t ∧ t < 27
  · have ho : ∀ C, C ∈ [RX2, RX8, RX9] → ka_y t = .object C → ∃ cA : ClassId, 20 ≤ t → t < 27 → ArrOfT s cA (ka_y t) ∧ va_RA s cA (ka_y t) := fun C hC e => by
      obtain ⟨cA, k⟩ := wb_arrO (hts _ (wb_over C hC))
      exact ⟨cA, fun _ _ => by rw [e]; exact k⟩
    rcases (show t = 20 ∨ t = 21 ∨ t = 22 ∨ t = 23 ∨ t = 24 ∨ t = 25 ∨ t = 26 by omega) with rfl | rfl | rfl | rfl | rfl | rfl | rfl
    · obtain ⟨cA, a, b⟩ := wb_arr (hts _ (ts_in ac_int))
      exact ⟨cA, fun _ _ => ⟨a, b⟩⟩
    · obtain ⟨cA, a, b⟩ := wb_arr (hts _ (ts_in ac_byte))
      exact ⟨cA, fun _ _ => ⟨a, b⟩⟩
    · obtain ⟨cA, a, b⟩ := wb_arr (hts _ (ts_in ac_boolean))
      exact ⟨cA, fun _ _ => ⟨a, b⟩⟩
    · obtain ⟨cA, a, b⟩ := wb_arr (hts _ (ts_in ac_long))
      exact ⟨cA, fun _ _ => ⟨a, b⟩⟩
    · exact ho RX2 (by simp) rfl
    · exact ho RX8 (by simp) rfl
    · exact ho RX9 (by simp) rfl
  · exact ⟨0, fun a b => absurd ⟨a, b⟩ hb⟩
theorem wb_cls {args : Array Value} {s : State} (hts : ∀ w ∈ lw_tbl, w.before args s = true) (t : Nat) : ∃ q : ClassId × (Nat → Nat), 0 < t → t < 14 → u_Kn s (kc_N t) (kc_T t) (kc_n t) q.1 q.2 := by
  by_cases hb : 0 < t ∧ t < 14
  · obtain ⟨u, rfl⟩ : ∃ u, t = u + 1 := ⟨t - 1, by omega⟩
    obtain ⟨a, b, k⟩ := u_known (ws := TS) (fun w hw => hts w (ts_in hw)) (kc_lays (u + 1) hb.1 hb.2) (hts _ (wb_inst u (by omega)))
    exact ⟨(a, b), fun _ _ => k⟩
  · exact ⟨(0, fun _ => 0), fun a b => absurd ⟨a, b⟩ hb⟩
theorem wb_len {args : Array Value} {s : State} {t : Term} {v : Value} (h : (Term.length t).eval args s none [] s = some v) : ∃ (a : Nat) (cell : Cell), t.eval args s none [] s = some (.ref a) ∧ s.arrayAt? a = some cell ∧ v = .int cell.slots.size.toInt32 ∧ cell.slots.size < 2147483648 := by
  simp only [Term.eval, Option.bind_eq_bind] at h
  cases ht : t.eval args s none [] s with
  | none => simp [ht] at h
  | some x =>
    cases x <;> simp [ht] at h
    case ref a =>
      obtain ⟨cell, hcell, h⟩ := Option.bind_eq_some_iff.mp h
      by_cases hn : cell.slots.size < 2147483648
      · rw [if_pos hn] at h; cases h; exact ⟨a, cell, rfl, hcell, rfl, hn⟩
      · rw [if_neg hn] at h; cases h
theorem wb_sz {args : Array Value} {s : State} {t : Term} {N : Nat} (hN : N < 2 ^ 31) (h : (Term.length t).eval args s none [] s = some (.int (Int32.ofNat N))) : ∃ (a : Nat) (cell : Cell), t.eval args s none [] s = some (.ref a) ∧ s.heap[a]? = some cell ∧ cell.slots.size = N := by
  obtain ⟨a, cell, h1, h2, h3, h4⟩ := wb_len h
  refine ⟨a, cell, h1, (State.arrayAt?_spec h2).1, ?_⟩
  have e : nI N = nI cell.slots.size := Value.int.inj h3
  have e2 := congrArg Int32.toNatClampNeg e
  rw [nI_clamp hN, nI_clamp h4] at e2
  exact e2.symm
def ks_m (i : Nat) : Term := Term.string (ks_o i) (ks_x i)
theorem wb_f1 : ∀ i, i < 3 → Cond.exactly (ks_m i) "java/lang/String" ∈ flatC (Cond.and given_1 narrow_1) ∧ Cond.eq (.field (ks_m i) "java/lang/String" "coder" "B") (.int 0) ∈ flatC (Cond.and given_1 narrow_1) ∧ Cond.arrayOf (.field (ks_m i) "java/lang/String" "value" "[B") .byte ∈ flatC (Cond.and given_1 narrow_1) ∧ Cond.eq (.length (.field (ks_m i) "java/lang/String" "value" "[B")) (.int (Int32.ofNat (ks_ls.getD i 0))) ∈ flatC (Cond.and given_1 narrow_1) := by decide +kernel
def wb_B : Nat → Nat | 0 => 52 | 1 => 159 | _ => 176
def wb_e (i j : Nat) : Cond := Cond.eq (.elem (.field (ks_m i) "java/lang/String" "value" "[B") (.int (Int32.ofNat j))) (.int ((ks_bs.getD i []).getD j 0))
theorem wb_f20 : ∀ j, j < 103 → (flatC (Cond.and given_1 narrow_1))[52 + j]? = some (wb_e 0 j) := by decide +kernel
theorem wb_f21 : ∀ j, j < 12 → (flatC (Cond.and given_1 narrow_1))[159 + j]? = some (wb_e 1 j) := by decide +kernel
theorem wb_f22 : ∀ j, j < 104 → (flatC (Cond.and given_1 narrow_1))[176 + j]? = some (wb_e 2 j) := by decide +kernel
theorem wb_ls : ks_ls.getD 0 0 = 103 ∧ ks_ls.getD 1 0 = 12 ∧ ks_ls.getD 2 0 = 104 := by decide +kernel
theorem wb_f2 : ∀ i, i < 3 → ∀ j, j < ks_ls.getD i 0 → wb_e i j ∈ flatC (Cond.and given_1 narrow_1) := by
  intro i hi j hj
  rcases (show i = 0 ∨ i = 1 ∨ i = 2 by omega) with rfl | rfl | rfl
  · rw [wb_ls.1] at hj
    exact List.mem_of_getElem? (wb_f20 j hj)
  · rw [wb_ls.2.1] at hj
    exact List.mem_of_getElem? (wb_f21 j hj)
  · rw [wb_ls.2.2] at hj
    exact List.mem_of_getElem? (wb_f22 j hj)
theorem wb_f3 : ∀ i, i < 3 → ∀ j, j < 3 → i ≠ j → Cond.not (Cond.eq (ks_m i) (ks_m j)) ∈ flatC (Cond.and given_1 narrow_1) ∨ Cond.not (Cond.eq (ks_m j) (ks_m i)) ∈ flatC (Cond.and given_1 narrow_1) := by decide +kernel
theorem wb_f4 : Cond.eq (ks_m 1) (ks_m 3) ∈ flatC (Cond.and given_1 narrow_1) ∧ Cond.eq (.static "java/lang/String" "COMPACT_STRINGS" "Z") (.int 1) ∈ flatC (Cond.and given_1 narrow_1) ∧ Cond.isRef (.static "jdk/internal/util/Preconditions" "SIOOBE_FORMATTER" "Ljava/util/function/BiFunction;") ∈ flatC (Cond.and given_1 narrow_1) := by decide +kernel
theorem wb_eqR {args : Array Value} {s : State} {t u : Term} {a : Nat} (h : (Cond.eq t u).before args s = true) (ht : t.eval args s none [] s = some (.ref a)) : u.eval args s none [] s = some (.ref a) := by
  cases hv : u.eval args s none [] s with
  | none => simp [Cond.before, Cond.holds, Cond.value, ht, hv] at h
  | some w =>
    simp only [Cond.before, Cond.holds, Cond.value, ht, hv] at h
    cases w <;> simp_all
