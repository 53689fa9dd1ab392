/-! L3, the two readers: a fact's line -/
theorem CD.cg {h h' : Hp} {x a : Nat} {D : DR} (c : CD h x a D) (e : ∀ k, k < 6 → hp_I h' (a + k) = hp_I h (a + k)) (e11 : ∀ k, k ≠ 1 → hp_I h' (x + 11) k = hp_I h (x + 11) k) : CD h' x a D := by
  have e0 := e 0 (by decide)
  rw [Nat.add_zero] at e0
  obtain ⟨c1, c2, c3, c4, c5, ⟨c6, c7⟩, c8, c9⟩ := c
  refine ⟨by rw [e0]; exact c1, by rw [e 1 (by decide)]; exact c2, by rw [e 2 (by decide)]; exact c3, by rw [e 3 (by decide)]; exact c4, by rw [e0]; exact c5, ⟨?_, ?_⟩, ?_, ?_⟩
  · rw [e11 2 (by decide)]; exact c6
  · rw [e11 3 (by decide)]; exact c7
  · rw [e11 4 (by decide)]; exact c8
  · rw [e11 5 (by decide)]; exact c9
theorem MLw.cg {A A' : Nat → Int32} {law : Nat} {q : Nat × List Nat} (hl : law < 2) (c : MLw A law q) (e : ∀ k, k < 143 → A' k = A k) : MLw A' law q := by
  refine ⟨fun z => by rw [e _ (by omega)]; exact c.1 z, fun z => ?_⟩
  rw [e _ (by omega), e _ (by omega), e _ (by omega)]
  exact c.2 z
theorem MD.cg {A A' : Nat → Int32} {D : DR} (c : MD A D) (e : ∀ k, k < 143 → A' k = A k) : MD A' D := by
  obtain ⟨⟨c0, c1, c1'⟩, c2, c3, c4, ⟨c5, c6, c7⟩, c8, c9⟩ := c
  refine ⟨⟨by rw [e _ (by decide)]; exact c0, by rw [e _ (by decide)]; exact c1, by rw [e _ (by decide)]; exact c1'⟩, fun i hi => by rw [e _ (by omega)]; exact c2 i hi, fun d f hd hf => by rw [e _ (by omega)]; exact c3 d f hd hf, fun d hd => by rw [e _ (by omega)]; exact c4 d hd, ⟨fun k hk => by rw [e _ (by omega)]; exact c5 k hk, by rw [e _ (by decide)]; exact c6, by rw [e _ (by decide)]; exact c7⟩, c8.cg (by decide) e, c9.cg (by decide) e⟩
/-- a line's body: both walk alike, and draft alike -/
def LB (x m n a : Nat) (tp : Nat → Nat) (fc fm : Hp → Option (Unit × Hp)) (A : Nat) (ls : List Nat) (D : DR) : Prop := ∃ (σ' : PS) (D' : DR), Pok n tp σ' ∧ Le (.inl (A, ls)) σ' ∧ (∀ A' ls', σ' = .inl (A', ls') → Dok ls' D' ∧ D'.1.1 = D.1.1 ∧ A < A') ∧ (∀ h0 h, DJ x n tp a h0 h (.inl (A, ls)) D → ∃ h', fc h = some ((), h') ∧ DJ x n tp a h0 h' σ' D') ∧ ∀ g0 g, EJ m n tp g0 g (.inl (A, ls)) D → ∃ g', fm g = some ((), g') ∧ EJ m n tp g0 g' σ' D'
/-- failed stays failed; codes stay -/
def Kp (σ σ' : PS) : Prop := (∀ b, σ = .inr b → σ' = .inr b) ∧ ∀ A' ls', σ' = .inl (A', ls') → ∃ A, σ = .inl (A, ls')
theorem Kp.rf (σ : PS) : Kp σ σ := ⟨fun _ e => e, fun A ls e => ⟨A, e⟩⟩
theorem Kp.tr {a b c : PS} (p : Kp a b) (q : Kp b c) : Kp a c := ⟨fun u e => q.1 u (p.1 u e), fun A ls e => by
  obtain ⟨A1, e1⟩ := q.2 A ls e
  exact p.2 A1 ls e1⟩
section fact
variable {F x m n a : Nat} {tp : Nat → Nat}
theorem Kp.nx {A : Nat} {ls : List Nat} : Kp (.inl (A, ls)) (nx tp n A ls) := ⟨fun _ e => by injection e, fun A' ls' e => ⟨A, by rw [nx_ls e]⟩⟩
theorem Kp.tkm {lo hi : Int32} {σ : PS} : Kp σ (tkm tp n lo hi σ) := ⟨fun b e => by rw [e]; rfl, fun A' ls' e => (tkm_inl e).1⟩
theorem Kp.tkn {K : Nat} {σ : PS} : Kp σ (tkn tp n K σ) := ⟨fun b e => by rw [e]; rfl, fun A' ls' e => by
  obtain ⟨A, e1, -⟩ := tkn_inl e
  exact ⟨A, e1⟩⟩
theorem vkm_lt {lo hi : Int32} {σ : PS} {M : Nat} (h0 : 0 < M) (h : hi.toInt < M) : vkm tp n lo hi σ < M := by
  rcases tkm_v (tp := tp) (n := n) (lo := lo) (hi := hi) (σ := σ) with ⟨b, -, e | e⟩ | ⟨A, ls, -, -, e3, e4, -⟩
  · rw [e]; exact h0
  · have := e.2; omega
  · rw [e3]; have := e4.2; omega
variable {l fx d : Nat} {nn : Nat → Nat → Nat} {bb : Nat → Nat} {so : Nat × Nat} {qc qm : Nat × List Nat}
theorem fl_c0 {σ : PS} (hk : kin tp n σ ≠ 2) (kc : Nat) (l2 : Int32) {h0 h : Hp} (c : DX x n tp a h0 h σ) : f_X5_factLine_44 F (kc + 1) (x + 9) (nI fx) l2 h = some ((), h) := by
  show f_X5_factLine_44_b F (f_X5_factLine_44 F kc) (x + 9) (nI fx) l2 h = _
  unfold f_X5_factLine_44_b
  have nt : ¬ hp_I h (x + 9) 6 = 207 := fun e => hk ((C_is c.1 (K := 2) rfl).mp (by rw [e]; decide +kernel))
  rw [gI_n c.tg, gI_n c.tg, if_neg nt]
  by_cases z : hp_I h (x + 9) 3 ≤ l2
  · rw [if_pos z]
  · rw [if_neg z]
theorem fl_m0 {σ : PS} (hF : 2000 ≤ F) (hk : kin tp n σ ≠ 2) (pk : Pok n tp σ) (km : Nat) {g0 g : Hp} {k : Nat → Nat} (c : EJ m n tp g0 g σ ((l, fx, d), k, nn, bb, so, qc, qm)) : ∃ g', f_X12_readFact_29 F (km + 1) m (nI fx) g = some ((), g') ∧ EJ m n tp g0 g' σ ((l, fx + 1, d), k, nn, bb, so, qc, qm) := by
  obtain ⟨c, cd⟩ := c
  have go : ∃ g', f_X12_readFact_63 F m g = some ((), g') ∧ EJ m n tp g0 g' σ ((l, fx + 1, d), k, nn, bb, so, qc, qm) := by
    unfold f_X12_readFact_63
    rw [gI_n c.tg]
    by_cases z : hp_I g m 11 = 0
    · rw [if_pos z, c.S.g 4 4 (by decide) rfl, c.S.a 4 1 (i := 1) rfl (by decide) (by decide), c.S.w 4 1 (i := 1) rfl (by decide) (by decide)]
      refine ⟨_, rfl, c.w (by decide) _, fun A ls e => ?_⟩
      obtain ⟨⟨u0, u1, u1'⟩, u2, u3, u4, ⟨u5, u6, u7⟩, u8, u9⟩ := cd A ls e
      have ne : ∀ j, j ≠ 1 → hp_I (hp_sI g (m + 4) 1 (hp_I g (m + 4) 1 + 1)) (m + 4) j = hp_I g (m + 4) j := fun j hj => by rw [sI_at, if_neg hj]
      refine ⟨⟨by rw [ne _ (by decide)]; exact u0, ?_, by rw [ne _ (by decide)]; exact u1'⟩, fun i hi => by rw [ne _ (by omega)]; exact u2 i hi, fun d' f' hd hf => by rw [ne _ (by omega)]; exact u3 d' f' hd hf, fun d' hd => by rw [ne _ (by omega)]; exact u4 d' hd, ⟨fun k' hk' => by rw [ne _ (by omega)]; exact u5 k' hk', by rw [ne _ (by decide)]; exact u6, by rw [ne _ (by decide)]; exact u7⟩, ?_, ?_⟩
      · rw [sI_at, if_pos rfl, u1, nI_1]
      · exact ⟨fun z => by rw [ne _ (by decide)]; exact u8.1 z, fun z => by rw [ne _ (by decide), ne _ (by decide), ne _ (by decide)]; exact u8.2 z⟩
      · exact ⟨fun z => by rw [ne _ (by decide)]; exact u9.1 z, fun z => by rw [ne _ (by decide), ne _ (by decide), ne _ (by decide)]; exact u9.2 z⟩
    · rw [if_neg z]
      exact ⟨g, rfl, c, fun A ls e => absurd (by rw [e] at c; exact c.1.f0) z⟩
  show ∃ g', f_X12_readFact_29_b F (f_X12_readFact_29 F km) m (nI fx) g = _ ∧ _
  unfold f_X12_readFact_29_b
  rw [gI_n c.tg]
  by_cases z : hp_I g m 11 = 0
  · rw [if_pos z]
    rcases M_eats F hF (K := 2) (by decide) c.1 pk with ⟨y, -⟩ | ⟨-, e⟩
    · exact absurd y hk
    · rw [cV_n c.tg (show f_X12_eats F m 2 g = _ from e), if_pos rfl]
      exact go
  · rw [if_neg z]
    exact go
theorem CD.kd {h : Hp} {k : Nat → Nat} {v : Nat} (c : CD h x a ((l, fx, d), k, nn, bb, so, qc, qm)) (ap : apt x a) {i : Nat} : CD (hp_sI h (a + 1) i (nI v)) x a ((l, fx, d), (fun j => if j = i then v else k j), nn, bb, so, qc, qm) := by
  obtain ⟨c1, c2, c3, c4, c5, c6⟩ := c
  have e0 : hp_I (hp_sI h (a + 1) i (nI v)) a = hp_I h a := sI_ne _ _ _ (by omega)
  have e2 : hp_I (hp_sI h (a + 1) i (nI v)) (a + 2) = hp_I h (a + 2) := sI_ne _ _ _ (by omega)
  have e3 : hp_I (hp_sI h (a + 1) i (nI v)) (a + 3) = hp_I h (a + 3) := sI_ne _ _ _ (by omega)
  have e11 : hp_I (hp_sI h (a + 1) i (nI v)) (x + 11) = hp_I h (x + 11) := sI_ne _ _ _ (Ne.symm (ap 1 11 (by decide) (by decide) (by decide)))
  refine ⟨by rw [e0]; exact c1, fun j hj => ?_, by rw [e2]; exact c3, by rw [e3]; exact c4, by rw [e0]; exact c5, by rw [e11]; exact c6⟩
  show _ = nI (if j = i then v else k j)
  rw [sI_at]
  by_cases z : j = i
  · rw [if_pos z, if_pos z]
  · rw [if_neg z, if_neg z]; exact c2 j hj
theorem MD.kd {A : Nat → Int32} {k : Nat → Nat} {v : Nat} (c : MD A ((l, fx, d), k, nn, bb, so, qc, qm)) {i : Nat} (hi : i < 4) : MD (fun j => if j = 9 + i then nI v else A j) ((l, fx, d), (fun j => if j = i then v else k j), nn, bb, so, qc, qm) := by
  obtain ⟨⟨u0, u1, u1'⟩, u2, u3, u4, ⟨u5, u6, u7⟩, u8, u9⟩ := c
  have ne : ∀ j, j ≠ 9 + i → (fun j => if j = 9 + i then nI v else A j) j = A j := fun j hj => if_neg hj
  refine ⟨⟨by rw [ne _ (by omega)]; exact u0, by rw [ne _ (by omega)]; exact u1, by rw [ne _ (by omega)]; exact u1'⟩, fun j hj => ?_, fun d' f' hd hf => by rw [ne _ (by omega)]; exact u3 d' f' hd hf, fun d' hd => by rw [ne _ (by omega)]; exact u4 d' hd, ⟨fun k' hk' => by rw [ne _ (by omega)]; exact u5 k' hk', by rw [ne _ (by omega)]; exact u6, by rw [ne _ (by omega)]; exact u7⟩, ?_, ?_⟩
  · show (if 9 + j = 9 + i then nI v else A (9 + j)) = nI (if j = i then v else k j)
    by_cases z : j = i
    · rw [if_pos z, if_pos (by omega)]
    · rw [if_neg z, if_neg (by omega)]; exact u2 j hj
  · exact ⟨fun z => by rw [ne _ (by omega)]; exact u8.1 z, fun z => by rw [ne _ (by omega), ne _ (by omega), ne _ (by omega)]; exact u8.2 z⟩
  · exact ⟨fun z => by rw [ne _ (by omega)]; exact u9.1 z, fun z => by rw [ne _ (by omega), ne _ (by omega), ne _ (by omega)]; exact u9.2 z⟩
theorem fl_loop (hF : 2000 ≤ F) (fx4 : fx < 4) : ∀ e (σ : PS) kc km l2 (k : Nat → Nat), n - plc σ ≤ e → e < kc → e < km → l2 ≤ plc σ → Pok n tp σ → (∀ i, i < 4 → k i < 10) → ∃ (σ' : PS) (k' : Nat → Nat), Pok n tp σ' ∧ Le σ σ' ∧ (∀ i, i < 4 → k' i < 10) ∧ Kp σ σ' ∧ (∀ h0 h, DJ x n tp a h0 h σ ((l, fx + 1, d), k, nn, bb, so, qc, qm) → ∃ h', f_X5_factLine_44 F kc (x + 9) (nI fx) (nI l2) h = some ((), h') ∧ DJ x n tp a h0 h' σ' ((l, fx + 1, d), k', nn, bb, so, qc, qm)) ∧ ∀ g0 g, EJ m n tp g0 g σ ((l, fx, d), k, nn, bb, so, qc, qm) → ∃ g', f_X12_readFact_29 F km m (nI fx) g = some ((), g') ∧ EJ m n tp g0 g' σ' ((l, fx + 1, d), k', nn, bb, so, qc, qm) := by
  intro e
  induction e with
  | zero =>
    intro σ kc km l2 k he hc hm hl pk hk
    obtain ⟨kc, rfl⟩ : ∃ j, kc = j + 1 := ⟨kc - 1, by omega⟩
    obtain ⟨km, rfl⟩ : ∃ j, km = j + 1 := ⟨km - 1, by omega⟩
    by_cases z : kin tp n σ = 2
    · obtain ⟨A, ls, rfl, -⟩ := kin_inl (show kin tp n σ ≠ 25 by rw [z]; decide)
      have hA := tK_lt (show tK tp n A ≠ 24 by rw [show tK tp n A = 2 from z]; decide)
      have he : n - A ≤ 0 := he
      omega
    · exact ⟨σ, k, pk, Le.rf _, hk, Kp.rf _, fun h0 h c => ⟨h, fl_c0 z kc _ c.1, c⟩, fun g0 g c => fl_m0 hF z pk km c⟩
  | succ e ih =>
    intro σ kc km l2 k he hc hm hl pk hk
    obtain ⟨kc, rfl⟩ : ∃ j, kc = j + 1 := ⟨kc - 1, by omega⟩
    obtain ⟨km, rfl⟩ : ∃ j, km = j + 1 := ⟨km - 1, by omega⟩
    by_cases z : kin tp n σ = 2
    · obtain ⟨A, ls, rfl, -⟩ := kin_inl (show kin tp n σ ≠ 25 by rw [z]; decide)
      have z' : tK tp n A = 2 := z
      have hA := tK_lt (show tK tp n A ≠ 24 by rw [z']; decide)
      have he : n - A ≤ e + 1 := he
      have hl : l2 ≤ A := hl
      obtain ⟨p1, q1, c1, a1⟩ := nx_ok pk
      have a1 := a1 hA
      obtain ⟨p2, q2, c2⟩ := tkm_ok (lo := 0) (hi := 9) p1
      have v10 : vkm tp n 0 9 (nx tp n A ls) < 10 := vkm_lt (by decide) (by decide)
      have q2a := q2.1
      have p2n := p2.1
      obtain ⟨σ', k', p3, q3, hk3, kp3, w3, u3⟩ := ih (tkm tp n 0 9 (nx tp n A ls)) kc km (l2 + 1) (fun j => if j = fx then vkm tp n 0 9 (nx tp n A ls) else k j) (by omega) (by omega) (by omega) (by omega) p2 (fun i hi => by
        show (if i = fx then _ else _) < 10
        by_cases y : i = fx
        · rw [if_pos y]; exact v10
        · rw [if_neg y]; exact hk i hi)
      refine ⟨σ', k', p3, (q1.tr q2).tr q3, hk3, (Kp.nx.tr Kp.tkm).tr kp3, fun h0 h ⟨c, cd⟩ => ?_, fun g0 g ⟨c, cd⟩ => ?_⟩
      · obtain ⟨h1, e1, d1⟩ := C_adv F hF c.1 pk
        obtain ⟨x1, i1, j1, -⟩ := c.st d1
        obtain ⟨h2, e2, d2⟩ := C_num F hF (lo := 0) (hi := 9) x1.1 p1
        obtain ⟨x2, i2, j2, -⟩ := x1.st d2
        have cd2 : CD h2 x a ((l, fx + 1, d), k, nn, bb, so, qc, qm) := ((cd A ls rfl).cg i1 j1).cg i2 j2
        have x3 := x2.w (k := 1) (by decide) fx (nI (vkm tp n 0 9 (nx tp n A ls)))
        obtain ⟨h', e', c'⟩ := w3 h0 _ ⟨x3, fun _ _ _ => cd2.kd x2.2.1.2.1⟩
        refine ⟨h', ?_, c'⟩
        have n9 : n ≤ 900 := c.1.2.1.2.2.1.2
        have es : f_X2_setKind F a (nI fx) (nI (vkm tp n 0 9 (nx tp n A ls))) h2 = some ((), hp_sI h2 (a + 1) fx (nI (vkm tp n 0 9 (nx tp n A ls)))) := by
          unfold f_X2_setKind
          rw [if_neg (nI_pos (by omega)), if_neg (show ¬ (4 : Int32) ≤ nI fx from i_ge fx4 (by decide)), x2.2.1.1.g 1 5 (by decide), x2.2.1.1.w 1 fx rfl (by decide) (show fx < 4 from fx4)]
        show f_X5_factLine_44_b F (f_X5_factLine_44 F kc) (x + 9) (nI fx) (nI l2) h = _
        unfold f_X5_factLine_44_b
        rw [c.1.2.1.g3, if_neg (nI_ge (show l2 < n by omega) (by omega)), gI_n c.tg, if_pos (show hp_I h (x + 9) 6 = 207 by rw [(C_is c.1 (K := 2) rfl).mpr z]; decide +kernel), cV_n c.tg e1, x1.g8, cV_n x1.tg e2, cV_n x2.ta es, nI_1]
        exact e'
      · rcases M_eats F hF (K := 2) (by decide) c.1 pk with ⟨-, g1, e1, d1⟩ | ⟨y, -⟩
        · have et : tkn tp n 2 (.inl (A, ls)) = nx tp n A ls := if_pos z'
          rw [et] at d1
          obtain ⟨x1, i1, j1, -⟩ := c.st d1
          obtain ⟨g2, w, e2, d2, hw⟩ := M_num2 F hF (lo := 0) (hi := 9) x1.1 p1
          obtain ⟨x2, i2, j2, -⟩ := x1.st d2
          have x3 := x2.w (show 9 + fx < 143 by omega) w
          obtain ⟨g', e', c'⟩ := u3 g0 _ ⟨x3, fun A' ls' e => by
            have d2' := d2
            rw [e] at d2'
            have cd2 := ((cd A ls rfl).cg i1).cg i2
            have := cd2.kd (v := vkm tp n 0 9 (nx tp n A ls)) fx4
            rw [← (hw d2'.f0).1] at this
            refine this.cg (fun j _ => ?_)
            rw [sI_at]⟩
          refine ⟨g', ?_, c'⟩
          show f_X12_readFact_29_b F (f_X12_readFact_29 F km) m (nI fx) g = _
          unfold f_X12_readFact_29_b
          rw [gI_n c.tg, c.1.f0, if_pos rfl, cV_n c.tg (show f_X12_eats F m 2 g = _ from e1), if_neg (show ¬ (1 : Int32) = 0 by decide), x1.S.g 4 4 (by decide) rfl, cV_n x1.tg e2, x2.S.w 4 (9 + fx) (i := 9 + nI fx) (nI_add 9 fx) (by decide) (show 9 + fx < 1044 by omega)]
          exact e'
        · exact absurd z y
    · exact ⟨σ, k, pk, Le.rf _, hk, Kp.rf _, fun h0 h c => ⟨h, fl_c0 z kc _ c.1, c⟩, fun g0 g c => fl_m0 hF z pk km c⟩
end fact
