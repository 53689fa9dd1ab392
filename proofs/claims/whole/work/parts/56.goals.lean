/-! L3, the class: the first place of a goal; the moves to a place -/
theorem cc_goal_r (F : Nat) (hF : 70000 ≤ F) {q P S L a : Nat} {H : HM} {b M s x y : Nat} (hx : x < 64) (hy : y < 64) : ∀ r pl m (h : Hp) (u p kk : Nat → Nat) (n o : Nat), pl + r = L → r < m → SC h q P S L a H b M s u p kk n o 0 → pl ≤ n → (∀ j, j < pl → gl H (.inl (x, y)) (u j) = false) → ∃ v h' u' p' kk' n' o', f_X7_firstAtGoal_2 F m q (nI x) (nI y) (nI pl) h = some (v, h') ∧ F3 q P S h h' ∧ SC h' q P S L a H b M s u' p' kk' n' o' 0 ∧ ((v = -1 ∧ ∀ w, RH H b M s w → gl H (.inl (x, y)) w = false) ∨ ∃ e, v = nI e ∧ e < n' ∧ gl H (.inl (x, y)) (u' e) = true ∧ ∀ j, j < e → gl H (.inl (x, y)) (u' j) = false) := by
  intro r
  induction r with
  | zero =>
    intro pl m h u p kk n o hr hm c hn hj
    obtain ⟨m, rfl⟩ : ∃ j, m = j + 1 := ⟨m - 1, by omega⟩
    have nL := c.nL
    refine ⟨-1, h, u, p, kk, n, o, ?_, F3.rf _ _ _ _, c, Or.inl ⟨rfl, fun w hw => ?_⟩⟩
    · show f_X7_firstAtGoal_2_b F (f_X7_firstAtGoal_2 F m) q (nI x) (nI y) (nI pl) h = _
      unfold f_X7_firstAtGoal_2_b
      rw [c.ss.g0, c.ss.aP, if_pos (nI_le (by omega) (by omega))]
    · obtain ⟨i, i1, i2⟩ := c.bq.full c.hc.2.1 c.2.2.1.2 (by have := c.2.1.2.2.2; omega) hw
      rw [← i2]; exact hj i (by omega)
  | succ r ih =>
    intro pl m h u p kk n o hr hm c hn hj
    obtain ⟨m, rfl⟩ : ∃ j, m = j + 1 := ⟨m - 1, by omega⟩
    have nL := c.nL
    obtain ⟨h1, u1, p1, k1, n1, o1, e1, f1, c1, x1, y1⟩ := cc_finds F hF (pl := pl) (by omega) c
    have hj1 : ∀ j, j < pl → gl H (.inl (x, y)) (u1 j) = false := fun j hh => by rw [(x1.2 j (by omega)).1]; exact hj j hh
    show ∃ v h' u' p' kk' n' o', f_X7_firstAtGoal_2_b F (f_X7_firstAtGoal_2 F m) q (nI x) (nI y) (nI pl) h = _ ∧ _
    unfold f_X7_firstAtGoal_2_b
    rw [c.ss.g0, c.ss.aP, if_neg (nI_ge (by omega) (by omega)), cV_n c.ss.t e1]
    by_cases z : pl < n1
    · have ok := c1.bq.2.1 pl z
      rw [if_neg (show ¬ nI (b1 (pl < n1)) = 0 by unfold b1; rw [if_pos z]; decide), c1.g4, cV_n c1.ss.t (c1.agesOf F z), cV_n c1.hc.t (cc_doAtLeast F c1.hc ok hx hy), nI_1]
      cases hg : gl H (.inl (x, y)) (u1 pl) with
      | true =>
        rw [if_neg (show ¬ nI (b2 true) = 0 by decide)]
        exact ⟨_, h1, u1, p1, k1, n1, o1, rfl, f1, c1, Or.inr ⟨pl, rfl, z, hg, hj1⟩⟩
      | false =>
        rw [if_pos (show nI (b2 false) = 0 by decide)]
        obtain ⟨v, h3, u3, p3, k3, n3, o3, e3, f3, c3, y3⟩ := ih (pl + 1) m h1 u1 p1 k1 n1 o1 (by omega) (by omega) c1 (by omega) (fun j hh => by
          rcases (show j = pl ∨ j < pl by omega) with e | e
          · rw [e]; exact hg
          · exact hj1 j e)
        exact ⟨v, h3, u3, p3, k3, n3, o3, e3, f1.tr f3, c3, y3⟩
    · rw [if_pos (show nI (b1 (pl < n1)) = 0 by unfold b1; rw [if_neg z]; rfl)]
      have on : o1 = n1 := by omega
      subst on
      refine ⟨-1, h1, u1, p1, k1, o1, o1, rfl, f1, c1, Or.inl ⟨rfl, fun w hw => ?_⟩⟩
      obtain ⟨i, i1, i2⟩ := c1.bq.all.mp hw
      rw [← i2]; exact hj1 i (by omega)
theorem cc_firstAtGoal (F : Nat) (hF : 70000 ≤ F) {h : Hp} {q P S L a : Nat} {H : HM} {b M s x y : Nat} (hx : x < 64) (hy : y < 64) {u p kk : Nat → Nat} {n o : Nat} (c : SC h q P S L a H b M s u p kk n o 0) : ∃ v h' u' p' kk' n' o', f_X7_firstAtGoal F q (nI x) (nI y) h = some (v, h') ∧ F3 q P S h h' ∧ SC h' q P S L a H b M s u' p' kk' n' o' 0 ∧ ((v = -1 ∧ ∀ w, RH H b M s w → gl H (.inl (x, y)) w = false) ∨ ∃ e, v = nI e ∧ e < n' ∧ gl H (.inl (x, y)) (u' e) = true ∧ ∀ j, j < e → gl H (.inl (x, y)) (u' j) = false) := by
  unfold f_X7_firstAtGoal
  have := c.nL
  exact cc_goal_r F hF hx hy L 0 F h u p kk n o (by omega) (by omega) c (by omega) (fun j hj => absurd hj (by omega))
theorem alone_b {A B d : Nat} (hA : A < 64) (hB : B < 64) (hd : d < 6) : ((nI A &&& (nI B ^^^ (-1))) >>> (nI d &&& 31)) &&& 1 = 0 ↔ (A.testBit d && !B.testBit d) = false := by
  have e : ((nI A &&& (nI B ^^^ (-1))) >>> (nI d &&& 31)) &&& 1 = if (A.testBit d && !B.testBit d) = true then 1 else 0 := by
    refine b_ext fun i hi => ?_
    rw [b_and, bt_1 i hi]
    by_cases z : i = 0
    · subst z
      rw [decide_eq_true rfl, Bool.and_true, b_sshr d (by omega) _ (by omega), if_pos (by omega), b_and, b_xor, bt_nI (by omega), bt_nI (by omega), b_m1 _ (by omega), Nat.add_zero, Bool.xor_true]
      cases (A.testBit d && !B.testBit d) <;> decide
    · rw [decide_eq_false z, Bool.and_false]
      split
      · rw [bt_1 i hi, decide_eq_false z]
      · rw [b_0]
  rw [e]
  cases (A.testBit d && !B.testBit d) <;> decide
theorem dse_tb {H : HM} {s t d : Nat} (hd : d < hm_d H) : (dsa H s t).testBit d = dse H s t d := msk_tb _ _ hd
theorem cc_alone_r (F : Nat) (hF : 70000 ≤ F) {q P S L a : Nat} {H : HM} {b M s t d : Nat} (ht : t < 2) (hd : d < hm_d H) : ∀ r pl m (h : Hp) (u p kk : Nat → Nat) (n o : Nat), pl + r = L → r < m → SC h q P S L a H b M s u p kk n o 0 → pl ≤ n → (∀ j, j < pl → gl H (.inr (t, d)) (u j) = false) → ∃ v h' u' p' kk' n' o', f_X7_firstAlone_2 F m q (nI t) (nI d) (nI pl) h = some (v, h') ∧ F3 q P S h h' ∧ SC h' q P S L a H b M s u' p' kk' n' o' 0 ∧ ((v = -1 ∧ ∀ w, RH H b M s w → gl H (.inr (t, d)) w = false) ∨ ∃ e, v = nI e ∧ e < n' ∧ gl H (.inr (t, d)) (u' e) = true ∧ ∀ j, j < e → gl H (.inr (t, d)) (u' j) = false) := by
  intro r
  induction r with
  | zero =>
    intro pl m h u p kk n o hr hm c hn hj
    obtain ⟨m, rfl⟩ : ∃ j, m = j + 1 := ⟨m - 1, by omega⟩
    have nL := c.nL
    refine ⟨-1, h, u, p, kk, n, o, ?_, F3.rf _ _ _ _, c, Or.inl ⟨rfl, fun w hw => ?_⟩⟩
    · show f_X7_firstAlone_2_b F (f_X7_firstAlone_2 F m) q (nI t) (nI d) (nI pl) h = _
      unfold f_X7_firstAlone_2_b
      rw [c.ss.g0, c.ss.aP, if_pos (nI_le (by omega) (by omega))]
    · obtain ⟨i, i1, i2⟩ := c.bq.full c.hc.2.1 c.2.2.1.2 (by have := c.2.1.2.2.2; omega) hw
      rw [← i2]; exact hj i (by omega)
  | succ r ih =>
    intro pl m h u p kk n o hr hm c hn hj
    obtain ⟨m, rfl⟩ : ∃ j, m = j + 1 := ⟨m - 1, by omega⟩
    have nL := c.nL
    have d6 := c.hc.d6
    obtain ⟨h1, u1, p1, k1, n1, o1, e1, f1, c1, x1, y1⟩ := cc_finds F hF (pl := pl) (by omega) c
    have hj1 : ∀ j, j < pl → gl H (.inr (t, d)) (u1 j) = false := fun j hh => by rw [(x1.2 j (by omega)).1]; exact hj j hh
    show ∃ v h' u' p' kk' n' o', f_X7_firstAlone_2_b F (f_X7_firstAlone_2 F m) q (nI t) (nI d) (nI pl) h = _ ∧ _
    unfold f_X7_firstAlone_2_b
    rw [c.ss.g0, c.ss.aP, if_neg (nI_ge (by omega) (by omega)), cV_n c.ss.t e1]
    by_cases z : pl < n1
    · have ok := c1.bq.2.1 pl z
      rw [if_neg (show ¬ nI (b1 (pl < n1)) = 0 by unfold b1; rw [if_pos z]; decide), cV_n c1.ss.t (c1.agesOf F z), c1.g4, cV_n c1.hc.t (cc_doneBy F c1.hc ok ht), c1.g4, one_sub ht, cV_n c1.hc.t (cc_doneBy F c1.hc ok (show 1 - t < 2 by omega)), lt_e, nI_1]
      have ab := alone_b (A := dsa H (u1 pl) t) (B := dsa H (u1 pl) (1 - t)) (dsa_lt c1.hc.2.1 _ _) (dsa_lt c1.hc.2.1 _ _) (show d < 6 by omega)
      rw [dse_tb hd, dse_tb hd] at ab
      have hgl : gl H (.inr (t, d)) (u1 pl) = (dse H (u1 pl) t d && !dse H (u1 pl) (1 - t) d) := rfl
      cases hg : gl H (.inr (t, d)) (u1 pl) with
      | true =>
        rw [if_neg (fun e => by have := ab.mp e; rw [← hgl, hg] at this; exact absurd this (by decide))]
        exact ⟨_, h1, u1, p1, k1, n1, o1, rfl, f1, c1, Or.inr ⟨pl, rfl, z, hg, hj1⟩⟩
      | false =>
        rw [if_pos (ab.mpr (by rw [← hgl, hg]))]
        obtain ⟨v, h3, u3, p3, k3, n3, o3, e3, f3, c3, y3⟩ := ih (pl + 1) m h1 u1 p1 k1 n1 o1 (by omega) (by omega) c1 (by omega) (fun j hh => by
          rcases (show j = pl ∨ j < pl by omega) with e | e
          · rw [e]; exact hg
          · exact hj1 j e)
        exact ⟨v, h3, u3, p3, k3, n3, o3, e3, f1.tr f3, c3, y3⟩
    · rw [if_pos (show nI (b1 (pl < n1)) = 0 by unfold b1; rw [if_neg z]; rfl)]
      have on : o1 = n1 := by omega
      subst on
      refine ⟨-1, h1, u1, p1, k1, o1, o1, rfl, f1, c1, Or.inl ⟨rfl, fun w hw => ?_⟩⟩
      obtain ⟨i, i1, i2⟩ := c1.bq.all.mp hw
      rw [← i2]; exact hj1 i (by omega)
theorem cc_firstAlone (F : Nat) (hF : 70000 ≤ F) {h : Hp} {q P S L a : Nat} {H : HM} {b M s t d : Nat} (ht : t < 2) (hd : d < hm_d H) {u p kk : Nat → Nat} {n o : Nat} (c : SC h q P S L a H b M s u p kk n o 0) : ∃ v h' u' p' kk' n' o', f_X7_firstAlone F q (nI t) (nI d) h = some (v, h') ∧ F3 q P S h h' ∧ SC h' q P S L a H b M s u' p' kk' n' o' 0 ∧ ((v = -1 ∧ ∀ w, RH H b M s w → gl H (.inr (t, d)) w = false) ∨ ∃ e, v = nI e ∧ e < n' ∧ gl H (.inr (t, d)) (u' e) = true ∧ ∀ j, j < e → gl H (.inr (t, d)) (u' j) = false) := by
  unfold f_X7_firstAlone
  have := c.nL
  exact cc_alone_r F hF ht hd L 0 F h u p kk n o (by omega) (by omega) c (by omega) (fun j hj => absurd hj (by omega))
/-! the moves to a place -/
theorem cc_steps_r (F : Nat) {h : Hp} {q P S L a : Nat} {H : HM} {b M s : Nat} {u p kk : Nat → Nat} {n o k : Nat} (c : SC h q P S L a H b M s u p kk n o k) : ∀ r m i j, (Pp p kk i).length = r → j + r ≤ 24 → r < m → i < n → f_X7_stepsTo_4 F m q (nI j) (nI i) h = some (nI (j + r), h) := by
  have nL := c.nL
  intro r
  induction r with
  | zero =>
    intro m i j hl hj hm hi
    obtain ⟨m, rfl⟩ : ∃ j, m = j + 1 := ⟨m - 1, by omega⟩
    have e0 : i = 0 := by
      rcases Nat.eq_zero_or_pos i with e | e
      · exact e
      · rw [Pp_s c.bq.hp e hi] at hl; exact absurd hl (by simp)
    subst e0
    show f_X7_stepsTo_4_b F (f_X7_stepsTo_4 F m) q (nI j) (nI 0) h = _
    unfold f_X7_stepsTo_4_b
    rw [if_pos (show nI 0 ≤ 0 by decide), Nat.add_zero]
    by_cases z : (24 : Int32) ≤ nI j
    · rw [if_pos z]
    · rw [if_neg z]
  | succ r ih =>
    intro m i j hl hj hm hi
    obtain ⟨m, rfl⟩ : ∃ j, m = j + 1 := ⟨m - 1, by omega⟩
    have e0 : 0 < i := by
      rcases Nat.eq_zero_or_pos i with e | e
      · rw [e, Pp_0] at hl; exact absurd hl (by simp)
      · exact e
    have pi := c.bq.hp i e0 hi
    rw [Pp_s c.bq.hp e0 hi] at hl
    simp only [List.length_cons] at hl
    show f_X7_stepsTo_4_b F (f_X7_stepsTo_4 F m) q (nI j) (nI i) h = _
    unfold f_X7_stepsTo_4_b
    rw [if_neg (show ¬ (24 : Int32) ≤ nI j from i_ge (a := 24) (by omega) (by decide)), if_neg (nI_nle e0 (by omega)), cV_n c.ss.t (c.placeAhead F hi), nI_1, ih m (p i) (j + 1) (by omega) (by omega) (by omega) (by omega), show j + 1 + r = j + (r + 1) by omega]
theorem cc_stepsTo (F : Nat) (hF : 100 ≤ F) {h : Hp} {q P S L a : Nat} {H : HM} {b M s : Nat} {u p kk : Nat → Nat} {n o k : Nat} (c : SC h q P S L a H b M s u p kk n o k) {e : Nat} (he : e < n) : f_X7_stepsTo F q (nI e) h = some (nI (Pp p kk e).length, h) := by
  unfold f_X7_stepsTo
  have l := c.bq.len24 c.hc.2.1 he
  have := cc_steps_r F c _ F e 0 rfl (by omega) (by omega) he
  rw [Nat.zero_add] at this
  exact this
/-- a move as the class's search has it -/
def cm (k : Nat) : Int32 := if k = 8 then 20 else nI (10 * (k / 4) + k % 4)
theorem oN_cs {o : Option Nat} {w : Nat} (h : ∀ u, o = some u → u < 65536) (hw : w < 65536) : oN (o.map cs) = nI (cs w) ↔ o = some w := by
  have c16 := cs_lt w
  cases o with
  | none => exact ⟨fun e => absurd (e.symm : nI (cs w) = -1) (nI_nm1 (by omega)), fun e => by cases e⟩
  | some u =>
    have c17 := cs_lt u
    constructor
    · intro e
      have e : nI (cs u) = nI (cs w) := e
      rw [cs_inj (h u rfl) hw (nI_inj (by omega) (by omega) e)]
    · intro e; rw [Option.some.inj e]; rfl
theorem cc_between10 (F : Nat) {h : Hp} {q P S L a : Nat} {H : HM} {b M s : Nat} {u p kk : Nat → Nat} {n o k : Nat} (c : SC h q P S L a H b M s u p kk n o k) {v w k0 t : Nat} (hv : STok H v) (hw : STok H w) (ht : t < 2) (h9 : k0 < 9) (h1 : mv H b v k0 = some w) (h2 : ∀ j, j < k0 → mv H b v j ≠ some w) (K2 : Nat → Int32 → Int32 → Int32 → Hp → Option (Int32 × Hp)) : ∀ r f m, f + r = hm_f H → r < m → 4 * t + f ≤ k0 → (k0 < 4 * t + 4 ∧ f_X7_moveBetween_10 F K2 m q (nI (cs v)) (nI (cs w)) (nI t) (nI f) h = some (cm k0, h)) ∨ (4 * t + 4 ≤ k0 ∧ f_X7_moveBetween_10 F K2 m q (nI (cs v)) (nI (cs w)) (nI t) (nI f) h = K2 q (nI (cs v)) (nI (cs w)) (nI (t + 1)) h) := by
  have h4 := c.hc.f4
  intro r
  induction r with
  | zero =>
    intro f m hf hm hk
    obtain ⟨m, rfl⟩ : ∃ j, m = j + 1 := ⟨m - 1, by omega⟩
    right
    refine ⟨?_, ?_⟩
    · by_cases z : 4 * t + 4 ≤ k0
      · exact z
      · have := mv_n (H := H) (b := b) (v := v) ht (show k0 - 4 * t < 4 by omega) (by omega)
        rw [show 4 * t + (k0 - 4 * t) = k0 by omega, h1] at this
        cases this
    · show f_X7_moveBetween_10_b F K2 (f_X7_moveBetween_10 F K2 m) q _ _ _ _ h = _
      unfold f_X7_moveBetween_10_b
      rw [c.g4, c.hc.fs, if_pos (nI_le (by omega) (by omega)), nI_1]
  | succ r ih =>
    intro f m hf hm hk
    obtain ⟨m, rfl⟩ : ∃ j, m = j + 1 := ⟨m - 1, by omega⟩
    have hfl : f < hm_f H := by omega
    have em := mv_t (b := b) (v := v) ht h4 hfl
    have eo := oN_cs (o := tld H b v t f) (w := w) (fun u hu => (tld_ok c.hc.2.1 hv ht hfl hu).1) hw.1
    show (_ ∧ f_X7_moveBetween_10_b F K2 (f_X7_moveBetween_10 F K2 m) q _ _ _ _ h = _) ∨ (_ ∧ f_X7_moveBetween_10_b F K2 (f_X7_moveBetween_10 F K2 m) q _ _ _ _ h = _)
    unfold f_X7_moveBetween_10_b
    rw [c.g4, c.hc.fs, if_neg (nI_ge (by omega) (by omega)), c.g4, gI_n c.ss.t, c.2.2.2.1.2.2.1, cV_n c.hc.t (cc_afterTelling F c.hc hv c.2.2.1.1 ht hfl), nI_1]
    by_cases z : 4 * t + f = k0
    · left
      refine ⟨by omega, ?_⟩
      rw [if_pos (eo.mpr (by rw [← em, z]; exact h1))]
      unfold cm
      rw [if_neg (by omega), show 10 * nI t + nI f = nI (10 * t + f) by rw [show 10 * nI t = nI (10 * t) from pk_mul 10 t, nI_add], show k0 / 4 = t by omega, show k0 % 4 = f by omega]
    · rw [if_neg (fun e => h2 (4 * t + f) (by omega) (by rw [em]; exact eo.mp e))]
      exact ih (f + 1) m (by omega) (by omega) (by omega)
theorem cc_moveBetween (F : Nat) (hF : 100 ≤ F) {h : Hp} {q P S L a : Nat} {H : HM} {b M s : Nat} {u p kk : Nat → Nat} {n o k : Nat} (c : SC h q P S L a H b M s u p kk n o k) {v w k0 : Nat} (hv : STok H v) (hw : STok H w) (h9 : k0 < 9) (h1 : mv H b v k0 = some w) (h2 : ∀ j, j < k0 → mv H b v j ≠ some w) : f_X7_moveBetween F q (nI (cs v)) (nI (cs w)) h = some (cm k0, h) := by
  obtain ⟨F1, hF1⟩ : ∃ j, F = j + 3 := ⟨F - 3, by omega⟩
  have h4 := c.hc.f4
  unfold f_X7_moveBetween
  rw [congrArg (f_X7_moveBetween_2 F) hF1]
  show f_X7_moveBetween_2_b F (f_X7_moveBetween_2 F (F1 + 2)) q (nI (cs v)) (nI (cs w)) (nI 0) h = _
  unfold f_X7_moveBetween_2_b
  rw [if_neg (show ¬ (2 : Int32) ≤ nI 0 by decide)]
  rcases cc_between10 F c hv hw (t := 0) (by decide) h9 h1 h2 (f_X7_moveBetween_2 F (F1 + 2)) (hm_f H) 0 F (by omega) (by omega) (by omega) with ⟨-, e⟩ | ⟨z, e⟩
  · exact e
  · refine (show f_X7_moveBetween_10 F (f_X7_moveBetween_2 F (F1 + 2)) F q (nI (cs v)) (nI (cs w)) (nI 0) 0 h = _ from e).trans ?_
    show f_X7_moveBetween_2_b F (f_X7_moveBetween_2 F (F1 + 1)) q (nI (cs v)) (nI (cs w)) (nI 1) h = _
    unfold f_X7_moveBetween_2_b
    rw [if_neg (show ¬ (2 : Int32) ≤ nI 1 by decide)]
    rcases cc_between10 F c hv hw (t := 1) (by decide) h9 h1 h2 (f_X7_moveBetween_2 F (F1 + 1)) (hm_f H) 0 F (by omega) (by omega) (by omega) with ⟨-, e⟩ | ⟨z, e⟩
    · exact e
    · refine (show f_X7_moveBetween_10 F (f_X7_moveBetween_2 F (F1 + 1)) F q (nI (cs v)) (nI (cs w)) (nI 1) 0 h = _ from e).trans ?_
      show f_X7_moveBetween_2_b F (f_X7_moveBetween_2 F F1) q (nI (cs v)) (nI (cs w)) (nI 2) h = _
      unfold f_X7_moveBetween_2_b
      rw [if_pos (show (2 : Int32) ≤ nI 2 by decide)]
      have : k0 = 8 := by omega
      rw [this]; rfl
theorem cc_stepAt_r (F : Nat) (hF : 100 ≤ F) {h : Hp} {q P S L a : Nat} {H : HM} {b s : Nat} {u p kk : Nat → Nat} {n o k : Nat} (c : SC h q P S L a H b 511 s u p kk n o k) {I : Nat} (hI : I < 100) : ∀ r m e, (Pp p kk e).length = I + r + 1 → e < n → r < m → I + r < 24 → ∃ x, (Pp p kk e)[r]? = some x ∧ f_X7_stepAt_11 F m q (nI I) (nI e) (nI (I + r)) h = some (cm x, h) := by
  have nL := c.nL
  intro r
  induction r with
  | zero =>
    intro m e hl he hm hk
    obtain ⟨m, rfl⟩ : ∃ j, m = j + 1 := ⟨m - 1, by omega⟩
    have e0 : 0 < e := by
      rcases Nat.eq_zero_or_pos e with z | z
      · rw [z, Pp_0] at hl; exact absurd hl (by simp)
      · exact z
    obtain ⟨a1, a2, a3, a4, a5⟩ := c.bq.2.2.2.1 e e0 he
    refine ⟨kk e, by rw [Pp_s c.bq.hp e0 he]; rfl, ?_⟩
    show f_X7_stepAt_11_b F (f_X7_stepAt_11 F m) q (nI I) (nI e) (nI I) h = _
    unfold f_X7_stepAt_11_b
    rw [if_pos (nI_le (Nat.le_refl _) (by omega)), cV_n c.ss.t (c.placeAhead F he), cV_n c.ss.t (c.agesOf F (show p e < n by omega)), cV_n c.ss.t (c.agesOf F he), cV_n c.ss.t (cc_moveBetween F hF c (c.bq.2.1 _ (by omega)) (c.bq.2.1 _ he) a3 a5 (fun j hj => c.bq.first e0 he hj (all511 j (by omega))))]
  | succ r ih =>
    intro m e hl he hm hk
    obtain ⟨m, rfl⟩ : ∃ j, m = j + 1 := ⟨m - 1, by omega⟩
    have e0 : 0 < e := by
      rcases Nat.eq_zero_or_pos e with z | z
      · rw [z, Pp_0] at hl; exact absurd hl (by simp)
      · exact z
    have a1 := c.bq.hp e e0 he
    rw [Pp_s c.bq.hp e0 he] at hl ⊢
    simp only [List.length_cons] at hl
    obtain ⟨x, x1, x2⟩ := ih m (p e) (by omega) (by omega) (by omega) (by omega)
    refine ⟨x, by rw [List.getElem?_cons_succ]; exact x1, ?_⟩
    show f_X7_stepAt_11_b F (f_X7_stepAt_11 F m) q (nI I) (nI e) (nI (I + r + 1)) h = _
    unfold f_X7_stepAt_11_b
    rw [if_neg (nI_ge (by omega) (by omega)), cV_n c.ss.t (c.placeAhead F he), pk_m1, x2]
theorem cc_stepAt (F : Nat) (hF : 100 ≤ F) {h : Hp} {q P S L a : Nat} {H : HM} {b s : Nat} {u p kk : Nat → Nat} {n o k : Nat} (c : SC h q P S L a H b 511 s u p kk n o k) {e I : Nat} (he : e < n) (hI : I < (Pp p kk e).length) : ∃ x, (Pp p kk e).reverse[I]? = some x ∧ f_X7_stepAt F q (nI e) (nI I) h = some (cm x, h) := by
  have l := c.bq.len24 c.hc.2.1 he
  unfold f_X7_stepAt
  rw [cV_n c.ss.t (cc_stepsTo F hF c he), lt_e, show nI (Pp p kk e).length - 1 = nI ((Pp p kk e).length - 1) from pk_sub (b := 1) (by omega)]
  obtain ⟨x, x1, x2⟩ := cc_stepAt_r F hF c (I := I) (by omega) ((Pp p kk e).length - 1 - I) F e (by omega) he (by omega) (by omega)
  refine ⟨x, ?_, ?_⟩
  · rw [List.getElem?_reverse hI]; exact x1
  · rw [show (Pp p kk e).length - 1 = I + ((Pp p kk e).length - 1 - I) by omega]; exact x2
