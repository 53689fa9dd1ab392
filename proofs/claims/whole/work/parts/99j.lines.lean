/-! L3, the two readers: bond, knows, both laws -/
section lines
variable {F x m n a : Nat} {tp : Nat → Nat}
/-- a line's body that goes on with K in the class -/
def LBK (x m n a : Nat) (tp : Nat → Nat) (fc : (Hp → Option (Unit × Hp)) → Hp → Option (Unit × Hp)) (fm : Hp → Option (Unit × Hp)) (A : Nat) (ls : List Nat) (D : DR) : Prop := ∃ (σ' : PS) (D' : DR), Pok n tp σ' ∧ Le (.inl (A, ls)) σ' ∧ (∀ A' ls', σ' = .inl (A', ls') → Dok ls' D' ∧ D'.1.1 = D.1.1 ∧ A < A') ∧ (∀ h0 h, DJ x n tp a h0 h (.inl (A, ls)) D → ∃ h', (∀ K, fc K h = K h') ∧ DJ x n tp a h0 h' σ' D') ∧ ∀ g0 g, EJ m n tp g0 g (.inl (A, ls)) D → ∃ g', fm g = some ((), g') ∧ EJ m n tp g0 g' σ' D'
theorem LB.k {fc fm : Hp → Option (Unit × Hp)} {A : Nat} {ls : List Nat} {D : DR} (b : LB x m n a tp fc fm A ls D) : LBK x m n a tp (fun K h => cV 6 h (x + 9) (fc h) fun _ h' => K h') fm A ls D := by
  obtain ⟨σ', D', p, q, o, w, u⟩ := b
  refine ⟨σ', D', p, q, o, fun h0 h c => ?_, u⟩
  obtain ⟨h', e, c'⟩ := w h0 h c
  exact ⟨h', fun K => cV_n c.1.tg e, c'⟩
theorem L_bond (hF : 2000 ≤ F) {A : Nat} {ls : List Nat} {D : DR} (z : tK tp n A = 7) (ok : Dok ls D) (pk : Pok n tp (.inl (A, ls))) (R : Hp → Option (Unit × Hp)) : LBK x m n a tp (fun K h => cV 6 h (x + 9) (f_X5_advance F (x + 9) h) fun _ h15 => gR 6 h15 (x + 9) 8 fun v16 => cV 6 h15 (x + 9) (f_X5_takeNumber F (x + 9) 0 9 h15) fun v17 h18 => pI 3 h18 v16 3 v17 fun h19 => K h19) (fun g => cV 13 g m (f_X12_eats F m 7 g) fun v9 h10 => if v9 = 0 then R h10 else (gR 13 h10 m 4 fun v28 => cV 13 h10 m (f_X12_takes F m 0 9 h10) fun v29 h30 => wI h30 v28 51 v29 fun h31 => some ((), h31))) A ls D := by
  obtain ⟨⟨l, fx, d⟩, k, nn, bb, ⟨s, o⟩, qc, qm⟩ := D
  obtain ⟨⟨o1, o1'⟩, o2, o3, o4, ⟨o5, o7⟩, o8, o9⟩ := ok
  have hA := tK_lt (show tK tp n A ≠ 24 by rw [z]; decide)
  obtain ⟨p1, q1, c1, a1⟩ := nx_ok pk
  have a1 := a1 hA
  obtain ⟨p2, q2, c2⟩ := tkm_ok (lo := 0) (hi := 9) p1
  have v10 : vkm tp n 0 9 (nx tp n A ls) < 10 := vkm_lt (by decide) (by decide)
  refine ⟨tkm tp n 0 9 (nx tp n A ls), ((l, fx, d), k, nn, bb, (s, vkm tp n 0 9 (nx tp n A ls)), qc, qm), p2, q1.tr q2, fun A' ls' e => ?_, fun h0 h ⟨c, cd⟩ => ?_, fun g0 g ⟨c, cd⟩ => ?_⟩
  · obtain ⟨A1, e1⟩ := (Kp.nx.tr Kp.tkm).2 A' ls' e
    have e1 : Sum.inl (A, ls) = (Sum.inl (A1, ls') : PS) := e1
    injection e1 with e1
    injection e1 with _ e1
    subst e1
    refine ⟨⟨⟨o1, o1'⟩, o2, o3, o4, ⟨o5, v10⟩, o8, o9⟩, rfl, ?_⟩
    have := q2.1
    rw [e] at this
    have : plc (nx tp n A ls) ≤ A' := this
    omega
  · have cd := cd A ls rfl
    obtain ⟨h1, e1, d1⟩ := C_adv F hF c.1 pk
    obtain ⟨x1, i1, j1, -⟩ := c.st d1
    obtain ⟨h2, e2, d2⟩ := C_num F hF (lo := 0) (hi := 9) x1.1 p1
    obtain ⟨x2, i2, j2, -⟩ := x1.st d2
    obtain ⟨⟨u0, u1, u1'⟩, u2, u3, u4, ⟨u5, u6⟩, u7⟩ := (cd.cg i1 j1).cg i2 j2
    refine ⟨hp_sI h2 a 3 (nI (vkm tp n 0 9 (nx tp n A ls))), fun K => ?_, x2.w0 3 _, fun _ _ _ => ?_⟩
    · show (cV 6 h (x + 9) (f_X5_advance F (x + 9) h) fun _ h15 => gR 6 h15 (x + 9) 8 fun v16 => cV 6 h15 (x + 9) (f_X5_takeNumber F (x + 9) 0 9 h15) fun v17 h18 => pI 3 h18 v16 3 v17 fun h19 => K h19) = _
      rw [cV_n c.tg e1, x1.g8, cV_n x1.tg e2, pI_n x2.ta]
    · have e0 : ∀ j, j ≠ 3 → hp_I (hp_sI h2 a 3 (nI (vkm tp n 0 9 (nx tp n A ls)))) a j = hp_I h2 a j := fun j hj => by rw [sI_at, if_neg hj]
      have ek : ∀ j, 0 < j → hp_I (hp_sI h2 a 3 (nI (vkm tp n 0 9 (nx tp n A ls)))) (a + j) = hp_I h2 (a + j) := fun j hj => sI_ne _ _ _ (by omega)
      have e11 : hp_I (hp_sI h2 a 3 (nI (vkm tp n 0 9 (nx tp n A ls)))) (x + 11) = hp_I h2 (x + 11) := sI_ne _ _ _ (Ne.symm (c.2.1.2.1 0 11 (by decide) (by decide) (by decide)))
      exact ⟨⟨by rw [e0 _ (by decide)]; exact u0, by rw [e0 _ (by decide)]; exact u1, by rw [e0 _ (by decide)]; exact u1'⟩, by rw [ek 1 (by decide)]; exact u2, by rw [ek 2 (by decide)]; exact u3, by rw [ek 3 (by decide)]; exact u4, ⟨by rw [e0 _ (by decide)]; exact u5, by rw [sI_at, if_pos rfl]⟩, by rw [e11]; exact u7⟩
  · have cd := cd A ls rfl
    rcases M_eats F hF (K := 7) (by decide) c.1 pk with ⟨-, g1, e1, d1⟩ | ⟨y, -⟩
    · have et : tkn tp n 7 (.inl (A, ls)) = nx tp n A ls := if_pos z
      rw [et] at d1
      obtain ⟨x1, i1, j1, -⟩ := c.st d1
      obtain ⟨g2, w, e2, d2, hw⟩ := M_num2 F hF (lo := 0) (hi := 9) x1.1 p1
      obtain ⟨x2, i2, j2, -⟩ := x1.st d2
      obtain ⟨⟨u0, u1, u1'⟩, u2, u3, u4, ⟨u5, u6, u7⟩, u8, u9⟩ := (cd.cg i1).cg i2
      refine ⟨hp_sI g2 (m + 4) 51 w, ?_, x2.w (by decide) _, fun A' ls' e => ?_⟩
      · show (cV 13 g m (f_X12_eats F m 7 g) fun v9 h10 => if v9 = 0 then R h10 else (gR 13 h10 m 4 fun v28 => cV 13 h10 m (f_X12_takes F m 0 9 h10) fun v29 h30 => wI h30 v28 51 v29 fun h31 => some ((), h31))) = _
        rw [cV_n c.tg (show f_X12_eats F m 7 g = _ from e1), if_neg (show ¬ (1 : Int32) = 0 by decide), x1.S.g 4 4 (by decide) rfl, cV_n x1.tg e2, x2.S.w 4 51 (i := 51) rfl (by decide) (by decide)]
      · rw [e] at d2
        obtain ⟨rfl, -⟩ := hw d2.f0
        have ne : ∀ j, j ≠ 51 → hp_I (hp_sI g2 (m + 4) 51 (nI (vkm tp n 0 9 (nx tp n A ls)))) (m + 4) j = hp_I g2 (m + 4) j := fun j hj => by rw [sI_at, if_neg hj]
        refine ⟨⟨by rw [ne _ (by decide)]; exact u0, by rw [ne _ (by decide)]; exact u1, by rw [ne _ (by decide)]; exact u1'⟩, fun i hi => by rw [ne _ (by omega)]; exact u2 i hi, fun d' f' hd hf => by rw [ne _ (by omega)]; exact u3 d' f' hd hf, fun d' hd => by rw [ne _ (by omega)]; exact u4 d' hd, ⟨fun k' hk' => by rw [ne _ (by omega)]; exact u5 k' hk', by rw [sI_at, if_pos rfl], by rw [ne _ (by decide)]; exact u7⟩, ?_, ?_⟩
        · exact ⟨fun z => by rw [ne _ (by decide)]; exact u8.1 z, fun z => by rw [ne _ (by decide), ne _ (by decide), ne _ (by decide)]; exact u8.2 z⟩
        · exact ⟨fun z => by rw [ne _ (by decide)]; exact u9.1 z, fun z => by rw [ne _ (by decide), ne _ (by decide), ne _ (by decide)]; exact u9.2 z⟩
    · exact absurd z y
theorem L_knows (hF : 2000 ≤ F) {A : Nat} {ls : List Nat} {D : DR} (z : tK tp n A = 8) (ok : Dok ls D) (pk : Pok n tp (.inl (A, ls))) : LB x m n a tp (fun h => f_X5_knowsLine F (x + 9) h) (fun g => f_X12_readKnows F m g) A ls D := by
  obtain ⟨⟨l, fx, d⟩, k, nn, bb, ⟨s, o⟩, qc, qm⟩ := D
  obtain ⟨⟨o1, o1'⟩, o2, o3, o4, ⟨⟨o5, o6⟩, o7⟩, o8, o9⟩ := ok
  have o1 : fx ≤ 4 := o1
  have o5 : s < 65536 := o5
  have hA := tK_lt (show tK tp n A ≠ 24 by rw [z]; decide)
  obtain ⟨p1, q1, c1, a1⟩ := nx_ok pk
  have a1 := a1 hA
  obtain ⟨p2, q2, c2⟩ := tkm_ok (lo := 0) (hi := 1) p1
  obtain ⟨p3, q3, c3⟩ := tkm_ok (lo := 0) (hi := nI fx - 1) p2
  obtain ⟨p4, q4, c4⟩ := tkm_ok (lo := 0) (hi := 3) p3
  have hh := hi_e fx (by omega)
  generalize hσ1 : nx tp n A ls = σ1 at *
  have ht : vkm tp n 0 1 σ1 < 2 := vkm_lt (by decide) (by decide)
  generalize hσ2 : tkm tp n 0 1 σ1 = σ2 at *
  have hf : vkm tp n 0 (nI fx - 1) σ2 < 4 := vkm_lt (by decide) (by rw [hh]; omega)
  generalize hσ3 : tkm tp n 0 (nI fx - 1) σ2 = σ3 at *
  have hg : vkm tp n 0 3 σ3 < 4 := vkm_lt (by decide) (by decide)
  generalize hσ4 : tkm tp n 0 3 σ3 = σ4 at *
  have inv : ∀ A' ls', σ4 = .inl (A', ls') → ls' = ls ∧ vkm tp n 0 (nI fx - 1) σ2 < fx := fun A' ls' e => by
    obtain ⟨⟨A3, e3⟩, -⟩ := tkm_inl (hσ4.trans e)
    obtain ⟨⟨A2, e2⟩, i2⟩ := tkm_inl (hσ3.trans e3)
    obtain ⟨⟨A1, e1⟩, -⟩ := tkm_inl (hσ2.trans e2)
    refine ⟨nx_ls (hσ1.trans e1), ?_⟩
    have := i2.2
    rw [hh] at this
    omega
  refine ⟨σ4, ((l, fx, d), k, nn, bb, (st4 s (4 * vkm tp n 0 1 σ1 + vkm tp n 0 (nI fx - 1) σ2) (vkm tp n 0 3 σ3), o), qc, qm), p4, ((q1.tr q2).tr q3).tr q4, fun A' ls' e => ?_, fun h0 h ⟨c, cd⟩ => ?_, fun g0 g ⟨c, cd⟩ => ?_⟩
  · obtain ⟨rfl, vf⟩ := inv A' ls' e
    refine ⟨⟨⟨o1, o1'⟩, o2, o3, o4, ⟨⟨st4_lt hg, fun t f t2 f4 hl => ?_⟩, o7⟩, o8, o9⟩, rfl, ?_⟩
    · have hl : fx ≤ f := hl
      show dg (st4 s (4 * vkm tp n 0 1 σ1 + vkm tp n 0 (nI fx - 1) σ2) (vkm tp n 0 3 σ3)) (4 * t + f) = 0
      rw [dg_st hg (by omega), if_neg (by omega)]
      exact o6 t f t2 f4 hl
    · have := q2.1; have := q3.1; have := q4.1
      rw [e] at this
      have : plc σ3 ≤ A' := this
      omega
  · have cd := cd A ls rfl
    obtain ⟨h1, e1, d1⟩ := C_adv F hF c.1 pk
    rw [hσ1] at d1
    obtain ⟨x1, i1, j1, -⟩ := c.st d1
    obtain ⟨h2, e2, d2⟩ := C_num F hF (lo := 0) (hi := 1) x1.1 p1
    rw [hσ2] at d2
    obtain ⟨x2, i2, j2, -⟩ := x1.st d2
    have cd2 := (cd.cg i1 j1).cg i2 j2
    obtain ⟨h3, e3, d3⟩ := C_num F hF (lo := 0) (hi := nI fx - 1) x2.1 p2
    rw [hσ3] at d3
    obtain ⟨x3, i3, j3, -⟩ := x2.st d3
    obtain ⟨h4, e4, d4⟩ := C_num F hF (lo := 0) (hi := 3) x3.1 p3
    rw [hσ4] at d4
    obtain ⟨x4, i4, j4, -⟩ := x3.st d4
    obtain ⟨⟨u0, u1, u1'⟩, u2, u3, u4, ⟨u5, u6⟩, u7⟩ := (cd2.cg i3 j3).cg i4 j4
    have go : ∀ r, f_X5_knowsLine F (x + 9) h = r ↔ (if hp_I h4 (x + 9) 0 = 0 then (cV 3 h4 a (f_X2_setStart F a (nI (vkm tp n 0 1 σ1)) (nI (vkm tp n 0 (nI fx - 1) σ2)) (nI (vkm tp n 0 3 σ3)) h4) fun v14 h15 => some ((), h15)) else some ((), h4)) = r := fun r => by
      unfold f_X5_knowsLine
      rw [cV_n c.tg e1, cV_n x1.tg e2, x2.g8, gI_n x2.ta, show hp_I h2 a 0 = nI fx from cd2.1.2.1, cV_n x2.tg e3, cV_n x3.tg e4, gI_n x4.tg, x4.g8]
    by_cases y : hp_I h4 (x + 9) 0 = 0
    · have es : f_X2_setStart F a (nI (vkm tp n 0 1 σ1)) (nI (vkm tp n 0 (nI fx - 1) σ2)) (nI (vkm tp n 0 3 σ3)) h4 = some ((), hp_sI h4 a 4 (nI (cs (st4 s (4 * vkm tp n 0 1 σ1 + vkm tp n 0 (nI fx - 1) σ2) (vkm tp n 0 3 σ3))))) := by
        unfold f_X2_setStart
        rw [gI_n x4.ta, show hp_I h4 a 4 = nI (cs s) from u5, pI_n x4.ta, sh42, set_bits (cs_lt s) (show 2 * vkm tp n 0 (nI fx - 1) σ2 + vkm tp n 0 1 σ1 < 8 by omega) hg, ← cs_st ht hf hg]
      refine ⟨_, (go _).mpr (by rw [if_pos y, cV_n x4.ta es]), x4.w0 4 _, fun _ _ _ => ?_⟩
      have e0 : ∀ V j, j ≠ 4 → hp_I (hp_sI h4 a 4 V) a j = hp_I h4 a j := fun V j hj => by rw [sI_at, if_neg hj]
      have ek : ∀ V j, 0 < j → hp_I (hp_sI h4 a 4 V) (a + j) = hp_I h4 (a + j) := fun V j hj => sI_ne _ _ _ (by omega)
      have e11 : ∀ V, hp_I (hp_sI h4 a 4 V) (x + 11) = hp_I h4 (x + 11) := fun V => sI_ne _ _ _ (Ne.symm (c.2.1.2.1 0 11 (by decide) (by decide) (by decide)))
      exact ⟨⟨by rw [e0 _ _ (by decide)]; exact u0, by rw [e0 _ _ (by decide)]; exact u1, by rw [e0 _ _ (by decide)]; exact u1'⟩, by rw [ek _ 1 (by decide)]; exact u2, by rw [ek _ 2 (by decide)]; exact u3, by rw [ek _ 3 (by decide)]; exact u4, ⟨by rw [sI_at, if_pos rfl], by rw [e0 _ _ (by decide)]; exact u6⟩, by rw [e11]; exact u7⟩
    · exact ⟨h4, (go _).mpr (by rw [if_neg y]), x4, fun A' ls' e => absurd ((x4.1.f0 p4).mpr ⟨A', ls', e⟩) y⟩
  · have cd := cd A ls rfl
    obtain ⟨g1, e1, d1⟩ := M_adv F hF c.1 pk
    rw [hσ1] at d1
    obtain ⟨x1, i1, j1, -⟩ := c.st d1
    obtain ⟨g2, w2, e2, d2, hw2⟩ := M_num2 F hF (lo := 0) (hi := 1) x1.1 p1
    rw [hσ2] at d2
    obtain ⟨x2, i2, j2, -⟩ := x1.st d2
    have cd2 := (cd.cg i1).cg i2
    obtain ⟨g3, w3, e3, d3, hw3⟩ := M_num2 F hF (lo := 0) (hi := nI fx - 1) x2.1 p2
    rw [hσ3] at d3
    obtain ⟨x3, i3, j3, -⟩ := x2.st d3
    obtain ⟨g4, w4, e4, d4, hw4⟩ := M_num2 F hF (lo := 0) (hi := 3) x3.1 p3
    rw [hσ4] at d4
    obtain ⟨x4, i4, j4, -⟩ := x3.st d4
    obtain ⟨⟨u0, u1, u1'⟩, u2, u3, u4, ⟨u5, u6, u7⟩, u8, u9⟩ := (cd2.cg i3).cg i4
    have go : f_X12_readKnows F m g = if hp_I g4 m 11 = 0 then (gR 13 g4 m 4 fun v13 => wI g4 v13 ((43 + (4 * w2)) + w3) w4 fun h14 => some ((), h14)) else some ((), g4) := by
      unfold f_X12_readKnows
      rw [cV_n c.tg e1, cV_n x1.tg e2, x2.rd 1 (i := 1) rfl (by decide), show hp_I g2 (m + 4) 1 = nI fx from cd2.1.2.1, cV_n x2.tg e3, cV_n x3.tg e4, gI_n x4.tg]
    by_cases y : hp_I g4 m 11 = 0
    · have y3 : hp_I g3 m 11 = 0 := Classical.byContradiction fun u => (j4 u) y
      have y2 : hp_I g2 m 11 = 0 := Classical.byContradiction fun u => (j3 u) y3
      obtain ⟨rfl, -⟩ := hw2 y2
      obtain ⟨rfl, -⟩ := hw3 y3
      obtain ⟨rfl, -⟩ := hw4 y
      have ei : (43 + 4 * nI (vkm tp n 0 1 σ1)) + nI (vkm tp n 0 (nI fx - 1) σ2) = nI (43 + 4 * vkm tp n 0 1 σ1 + vkm tp n 0 (nI fx - 1) σ2) := by
        rw [show (4 : Int32) * nI (vkm tp n 0 1 σ1) = nI (4 * vkm tp n 0 1 σ1) from pk_mul 4 _, show (43 : Int32) = nI 43 from rfl, nI_add, nI_add]
      refine ⟨hp_sI g4 (m + 4) (43 + 4 * vkm tp n 0 1 σ1 + vkm tp n 0 (nI fx - 1) σ2) (nI (vkm tp n 0 3 σ3)), go.trans (by rw [if_pos y, x4.pt _ ei (by omega)]), x4.w (by omega) _, fun _ _ _ => ?_⟩
      have ne : ∀ j, j ≠ 43 + 4 * vkm tp n 0 1 σ1 + vkm tp n 0 (nI fx - 1) σ2 → hp_I (hp_sI g4 (m + 4) (43 + 4 * vkm tp n 0 1 σ1 + vkm tp n 0 (nI fx - 1) σ2) (nI (vkm tp n 0 3 σ3))) (m + 4) j = hp_I g4 (m + 4) j := fun j hj => by rw [sI_at, if_neg hj]
      refine ⟨⟨by rw [ne _ (by omega)]; exact u0, by rw [ne _ (by omega)]; exact u1, by rw [ne _ (by omega)]; exact u1'⟩, fun i hi => by rw [ne _ (by omega)]; exact u2 i hi, fun d' f' hd hf => by rw [ne _ (by omega)]; exact u3 d' f' hd hf, fun d' hd => by rw [ne _ (by omega)]; exact u4 d' hd, ⟨fun k' hk' => ?_, by rw [ne _ (by omega)]; exact u6, by rw [ne _ (by omega)]; exact u7⟩, ?_, ?_⟩
      · show _ = nI (dg (st4 s (4 * vkm tp n 0 1 σ1 + vkm tp n 0 (nI fx - 1) σ2) (vkm tp n 0 3 σ3)) k')
        rw [dg_st hg hk', sI_at]
        by_cases w : k' = 4 * vkm tp n 0 1 σ1 + vkm tp n 0 (nI fx - 1) σ2
        · rw [if_pos w, if_pos (by omega)]
        · rw [if_neg w, if_neg (by omega)]; exact u5 k' hk'
      · exact ⟨fun z => by rw [ne _ (by omega)]; exact u8.1 z, fun z => by rw [ne _ (by omega), ne _ (by omega), ne _ (by omega)]; exact u8.2 z⟩
      · exact ⟨fun z => by rw [ne _ (by omega)]; exact u9.1 z, fun z => by rw [ne _ (by omega), ne _ (by omega), ne _ (by omega)]; exact u9.2 z⟩
    · exact ⟨g4, go.trans (by rw [if_neg y]), x4, fun A' ls' e => absurd (by rw [e] at d4; exact d4.f0) y⟩
end lines
