/-! L3, the two readers: a doing's needs and buts; its line whole -/
theorem M_take2 (F : Nat) (hF : 2000 ≤ F) {m n K : Nat} {tp : Nat → Nat} {g0 g : Hp} (hK : kok K = true ∧ K ≠ 25) {σ : PS} (c : MM m n tp g0 g σ) (pk : Pok n tp σ) : ∃ g', MM m n tp g0 g' (tkn tp n K σ) ∧ ∀ {ρ : Type} (KK : Hp → Option (ρ × Hp)), (cV 13 g m (f_X12_eats F m (nI K) g) fun v h2 => if v = 0 then (cV 13 h2 m (f_X12_fails F m 2 h2) fun _ h5 => KK h5) else KK h2) = KK g' := by
  rcases M_eats F hF hK c pk with ⟨z, g', e, c'⟩ | ⟨z, e⟩
  · refine ⟨g', c', fun KK => ?_⟩
    rw [cV_n c.tg e, if_neg (show ¬ (1 : Int32) = 0 by decide)]
  · obtain ⟨g', e', c'⟩ := M_fail F (k := 2) (by decide) c pk
    refine ⟨g', ?_, fun KK => ?_⟩
    · match σ with
      | .inl (A, ls) =>
        show MM m n tp g0 g' (if tK tp n A = K then nx tp n A ls else .inr (2, A, ls.length))
        rw [if_neg (show ¬ tK tp n A = K from z)]
        exact c'
      | .inr b => exact c'
    · rw [cV_n c.tg e, if_pos rfl, cV_n c.tg (show f_X12_fails F m 2 g = _ from e')]
theorem ctk_d : ctk 4 = 208 ∧ ctk 6 = 210 ∧ ctk 5 = 209 ∧ ctk 30 = 59 ∧ ctk 31 = 58 ∧ ctk 0 = 200 ∧ ctk 24 = 0 := by decide +kernel
theorem ctk_l : ctk 1 = 201 ∧ ctk 3 = 202 ∧ ctk 7 = 203 ∧ ctk 8 = 204 ∧ ctk 9 = 205 ∧ ctk 10 = 206 := by decide +kernel
section doing
variable {F x m n a : Nat} {tp : Nat → Nat}
variable {l fx d : Nat} {k : Nat → Nat} {nn : Nat → Nat → Nat} {bb : Nat → Nat} {so : Nat × Nat} {qc qm : Nat × List Nat}
/-- one of needs, but -/
def IT (F x m n a : Nat) (tp : Nat → Nat) (l fx d : Nat) (k : Nat → Nat) (nn : Nat → Nat → Nat) (bb : Nat → Nat) (so : Nat × Nat) (qc qm : Nat × List Nat) (A : Nat) (ls : List Nat) : Prop := ∃ (σ' : PS) (v w b : Nat), Pok n tp σ' ∧ Le (.inl (A, ls)) σ' ∧ Kp (.inl (A, ls)) σ' ∧ A < plc σ' ∧ (v < 4 ∧ w < 4 ∧ b < 16) ∧ (∀ h0 h K45 (l2 : Int32), DJ x n tp a h0 h (.inl (A, ls)) ((l, fx, d + 1), k, nn, bb, so, qc, qm) → ∃ h', f_X5_doingLine_73 F K45 (x + 9) (nI d) l2 h = K45 (x + 9) (nI d) (l2 + 1) h' ∧ DJ x n tp a h0 h' σ' ((l, fx, d + 1), k, nn1 nn d v w, bb1 bb d b, so, qc, qm)) ∧ ∀ g0 g, EJ m n tp g0 g (.inl (A, ls)) ((l, fx, d), k, nn, bb, so, qc, qm) → ∃ g' r, f_X12_readNeed F m (nI d) g = some (r, g') ∧ EJ m n tp g0 g' σ' ((l, fx, d), k, nn1 nn d v w, bb1 bb d b, so, qc, qm) ∧ ((r = 0 ∧ hp_I g' m 11 ≠ 0) ∨ r = 1)
theorem it_need (hF : 2000 ≤ F) {A : Nat} {ls : List Nat} (z : tK tp n A = 4) (pk : Pok n tp (.inl (A, ls))) (f4 : fx ≤ 4) (d6 : d < 6) (hb : bb d < 16) : IT F x m n a tp l fx d k nn bb so qc qm A ls := by
  have hA := tK_lt (show tK tp n A ≠ 24 by rw [z]; decide)
  obtain ⟨p1, q1, c1, a1⟩ := nx_ok pk
  have a1 := a1 hA
  obtain ⟨p2, q2, c2⟩ := tkm_ok (lo := 0) (hi := nI fx - 1) p1
  obtain ⟨p3, q3, c3⟩ := tkn_ok (K := 5) p2
  obtain ⟨p4, q4, c4⟩ := tkm_ok (lo := 1) (hi := 3) p3
  have hh := hi_e fx (by omega)
  have hv : vkm tp n 0 (nI fx - 1) (nx tp n A ls) < 4 := vkm_lt (by decide) (by rw [hh]; omega)
  have hw : vkm tp n 1 3 (tkn tp n 5 (tkm tp n 0 (nI fx - 1) (nx tp n A ls))) < 4 := vkm_lt (by decide) (by decide)
  have ab : A < plc (tkm tp n 1 3 (tkn tp n 5 (tkm tp n 0 (nI fx - 1) (nx tp n A ls)))) := by
    have := q2.1; have := q3.1; have := q4.1; omega
  refine ⟨_, vkm tp n 0 (nI fx - 1) (nx tp n A ls), vkm tp n 1 3 (tkn tp n 5 (tkm tp n 0 (nI fx - 1) (nx tp n A ls))), clb (bb d) (vkm tp n 0 (nI fx - 1) (nx tp n A ls)), p4, ((q1.tr q2).tr q3).tr q4, ((Kp.nx.tr Kp.tkm).tr Kp.tkn).tr Kp.tkm, ab, ⟨hv, hw, (clb_e _ hb _ hv).2⟩, fun h0 h K45 l2 ⟨c, cd⟩ => ?_, fun g0 g ⟨c, cd⟩ => ?_⟩
  · have cd := cd A ls rfl
    obtain ⟨h1, e1, d1⟩ := C_adv F hF c.1 pk
    obtain ⟨x1, i1, j1, -⟩ := c.st d1
    have cd1 := cd.cg i1 j1
    obtain ⟨h2, e2, d2⟩ := C_num F hF (lo := 0) (hi := nI fx - 1) x1.1 p1
    obtain ⟨x2, i2, j2, -⟩ := x1.st d2
    have cd2 := cd1.cg i2 j2
    obtain ⟨h3, e3, d3⟩ := C_take F hF (K := 5) (by decide) x2.1 p2
    obtain ⟨x3, i3, j3, -⟩ := x2.st d3
    have cd3 := cd2.cg i3 j3
    obtain ⟨h4, e4, d4⟩ := C_num F hF (lo := 1) (hi := 3) x3.1 p3
    obtain ⟨x4, i4, j4, -⟩ := x3.st d4
    have cd4 := cd3.cg i4 j4
    have b4 : hp_I h4 (a + 3) d = nI (bb d) := cd4.2.2.2.1 d d6
    have es := (set_nb (F := F) x4 (w := vkm tp n 1 3 (tkn tp n 5 (tkm tp n 0 (nI fx - 1) (nx tp n A ls)))) d6 hv b4 hb).1
    rw [ctk_d.2.2.1] at e3
    refine ⟨_, ?_, (x4.w (k := 2) (by decide) _ _).w (k := 3) (by decide) _ _, fun _ _ _ => cd4.nb x4.2.1.2.1 d6 hv⟩
    unfold f_X5_doingLine_73 f_X5_doingLine_153
    rw [gI_n c.tg, if_pos (show hp_I h (x + 9) 6 = 208 by rw [(C_is c.1 (K := 4) rfl).mpr z]; exact ctk_d.1), cV_n c.tg e1, x1.g8, gI_n x1.ta, show hp_I h1 a 0 = nI fx from cd1.1.2.1, cV_n x1.tg e2, cV_n x2.tg e3, x3.g8, cV_n x3.tg e4, cV_n x4.ta es]
  · have cd := cd A ls rfl
    obtain ⟨g1, e1, d1⟩ := M_adv F hF c.1 pk
    obtain ⟨x1, i1, j1, -⟩ := c.st d1
    have cd1 := cd.cg i1
    obtain ⟨g2, w2, e2, d2, hw2⟩ := M_num2 F hF (lo := 0) (hi := nI fx - 1) x1.1 p1
    obtain ⟨x2, i2, j2, -⟩ := x1.st d2
    have cd2 := cd1.cg i2
    obtain ⟨g3, d3, e3⟩ := M_take2 F hF (K := 5) (by decide) x2.1 p2
    obtain ⟨x3, i3, j3, -⟩ := x2.st d3
    have cd3 := cd2.cg i3
    obtain ⟨g4, w4, e4, d4, hw4⟩ := M_num2 F hF (lo := 1) (hi := 3) x3.1 p3
    obtain ⟨x4, i4, j4, -⟩ := x3.st d4
    have cd4 := cd3.cg i4
    have go : f_X12_readNeed F m (nI d) g = f_X12_readNeed_67 F m (nI d) 0 w2 w4 g4 := by
      unfold f_X12_readNeed f_X12_readNeed_21 f_X12_readNeed_59
      rw [cV_n c.tg (show f_X12_is F m 6 g = _ from M_is F (K := 6) (by decide) c.1 pk), if_neg (show ¬ kin tp n (.inl (A, ls)) = 6 by show ¬ tK tp n A = 6; rw [z]; decide), if_pos rfl, cV_n c.tg (show f_X12_is F m 4 g = _ from M_is F (K := 4) (by decide) c.1 pk), if_pos (show kin tp n (.inl (A, ls)) = 4 from z), if_neg (show ¬ (1 : Int32) = 0 by decide), cV_n c.tg e1, x1.rd 1 (i := 1) rfl (by decide), show hp_I g1 (m + 4) 1 = nI fx from cd1.1.2.1, cV_n x1.tg e2, if_pos rfl]
      refine (e3 (fun h5 => cV 13 h5 m (f_X12_takes F m 1 3 h5) fun v19 h20 => f_X12_readNeed_67 F m (nI d) 0 w2 v19 h20)).trans ?_
      rw [cV_n x3.tg e4]
    by_cases h11 : hp_I g4 m 11 = 0
    · have h2 : hp_I g2 m 11 = 0 := Classical.byContradiction fun y => (j4 (j3 y)) h11
      obtain ⟨rfl, -⟩ := hw2 h2
      obtain ⟨rfl, -⟩ := hw4 h11
      have b4 : hp_I g4 (m + 4) (37 + d) = nI (bb d) := cd4.2.2.2.1 d d6
      have ep := (put_nb (F := F) x4 (w := vkm tp n 1 3 (tkn tp n 5 (tkm tp n 0 (nI fx - 1) (nx tp n A ls)))) d6 hv b4 hb h11).1
      refine ⟨_, 1, by rw [go, ep], ⟨(x4.w (by omega) _).w (by omega) _, fun _ _ _ => cd4.nb d6 hv⟩, Or.inr rfl⟩
    · refine ⟨g4, 0, ?_, ⟨x4, fun A' ls' e => absurd (by rw [e] at d4; exact d4.f0) h11⟩, Or.inl ⟨rfl, h11⟩⟩
      rw [go]
      unfold f_X12_readNeed_67
      rw [gI_n x4.tg, if_neg h11]
theorem it_but (hF : 2000 ≤ F) {A : Nat} {ls : List Nat} (z : tK tp n A = 6) (pk : Pok n tp (.inl (A, ls))) (f4 : fx ≤ 4) (d6 : d < 6) (hb : bb d < 16) : IT F x m n a tp l fx d k nn bb so qc qm A ls := by
  have hA := tK_lt (show tK tp n A ≠ 24 by rw [z]; decide)
  obtain ⟨p1, q1, c1, a1⟩ := nx_ok pk
  have a1 := a1 hA
  obtain ⟨p2, q2, c2⟩ := tkm_ok (lo := 0) (hi := nI fx - 1) p1
  have hh := hi_e fx (by omega)
  have hv : vkm tp n 0 (nI fx - 1) (nx tp n A ls) < 4 := vkm_lt (by decide) (by rw [hh]; omega)
  have ab : A < plc (tkm tp n 0 (nI fx - 1) (nx tp n A ls)) := by
    have := q2.1; omega
  refine ⟨_, vkm tp n 0 (nI fx - 1) (nx tp n A ls), 0, bb d ||| 2 ^ vkm tp n 0 (nI fx - 1) (nx tp n A ls), p2, q1.tr q2, Kp.nx.tr Kp.tkm, ab, ⟨hv, by decide, (stb_e _ hb _ hv).2⟩, fun h0 h K45 l2 ⟨c, cd⟩ => ?_, fun g0 g ⟨c, cd⟩ => ?_⟩
  · have cd := cd A ls rfl
    obtain ⟨h1, e1, d1⟩ := C_adv F hF c.1 pk
    obtain ⟨x1, i1, j1, -⟩ := c.st d1
    have cd1 := cd.cg i1 j1
    obtain ⟨h2, e2, d2⟩ := C_num F hF (lo := 0) (hi := nI fx - 1) x1.1 p1
    obtain ⟨x2, i2, j2, -⟩ := x1.st d2
    have cd2 := cd1.cg i2 j2
    have b2 : hp_I h2 (a + 3) d = nI (bb d) := cd2.2.2.2.1 d d6
    have es := (set_nb (F := F) x2 (w := 0) d6 hv b2 hb).2
    refine ⟨_, ?_, (x2.w (k := 2) (by decide) _ _).w (k := 3) (by decide) _ _, fun _ _ _ => cd2.nb x2.2.1.2.1 d6 hv⟩
    unfold f_X5_doingLine_73 f_X5_doingLine_153
    rw [gI_n c.tg, if_neg (show ¬ hp_I h (x + 9) 6 = 208 by rw [(C_is c.1 (K := 6) rfl).mpr z, ctk_d.2.1]; decide), cV_n c.tg e1, x1.g8, x1.g8, gI_n x1.ta, show hp_I h1 a 0 = nI fx from cd1.1.2.1, cV_n x1.tg e2, cV_n x2.ta es]
  · have cd := cd A ls rfl
    obtain ⟨g1, e1, d1⟩ := M_adv F hF c.1 pk
    obtain ⟨x1, i1, j1, -⟩ := c.st d1
    have cd1 := cd.cg i1
    obtain ⟨g2, w2, e2, d2, hw2⟩ := M_num2 F hF (lo := 0) (hi := nI fx - 1) x1.1 p1
    obtain ⟨x2, i2, j2, -⟩ := x1.st d2
    have cd2 := cd1.cg i2
    have go : f_X12_readNeed F m (nI d) g = f_X12_readNeed_67 F m (nI d) 1 w2 0 g2 := by
      unfold f_X12_readNeed f_X12_readNeed_21
      rw [cV_n c.tg (show f_X12_is F m 6 g = _ from M_is F (K := 6) (by decide) c.1 pk), if_pos (show kin tp n (.inl (A, ls)) = 6 from z), if_neg (show ¬ (1 : Int32) = 0 by decide), cV_n c.tg e1, x1.rd 1 (i := 1) rfl (by decide), show hp_I g1 (m + 4) 1 = nI fx from cd1.1.2.1, cV_n x1.tg e2, if_neg (show ¬ (1 : Int32) = 0 by decide)]
    by_cases h11 : hp_I g2 m 11 = 0
    · obtain ⟨rfl, -⟩ := hw2 h11
      have b4 : hp_I g2 (m + 4) (37 + d) = nI (bb d) := cd2.2.2.2.1 d d6
      have ep := (put_nb (F := F) x2 (w := 0) d6 hv b4 hb h11).2
      refine ⟨_, 1, by rw [go]; exact ep, ⟨(x2.w (by omega) _).w (by omega) _, fun _ _ _ => cd2.nb d6 hv⟩, Or.inr rfl⟩
    · refine ⟨g2, 0, ?_, ⟨x2, fun A' ls' e => absurd (by rw [e] at d2; exact d2.f0) h11⟩, Or.inl ⟨rfl, h11⟩⟩
      rw [go]
      unfold f_X12_readNeed_67
      rw [gI_n x2.tg, if_neg h11]
theorem dl_c0 {σ : PS} (h4 : kin tp n σ ≠ 4) (h6 : kin tp n σ ≠ 6) (kc : Nat) (l1 l2 : Int32) {h0 h : Hp} (c : DX x n tp a h0 h σ) : f_X5_doingLine_45 F (kc + 1) (x + 9) l1 l2 h = some ((), h) := by
  show f_X5_doingLine_45_b F (f_X5_doingLine_45 F kc) (x + 9) l1 l2 h = _
  unfold f_X5_doingLine_45_b
  have n4 : ¬ hp_I h (x + 9) 6 = 208 := fun e => h4 ((C_is c.1 (K := 4) rfl).mp (by rw [e]; exact ctk_d.1.symm))
  have n6 : ¬ hp_I h (x + 9) 6 = 210 := fun e => h6 ((C_is c.1 (K := 6) rfl).mp (by rw [e]; exact ctk_d.2.1.symm))
  rw [gI_n c.tg, gI_n c.tg, if_neg n4, gI_n c.tg, if_neg n6]
  by_cases z : hp_I h (x + 9) 3 ≤ l2
  · rw [if_pos z]
  · rw [if_neg z]
theorem dl_48 {σ : PS} {g0 g : Hp} (c : EJ m n tp g0 g σ ((l, fx, d), k, nn, bb, so, qc, qm)) : ∃ g', f_X12_readDoing_48 F m g = some ((), g') ∧ EJ m n tp g0 g' σ ((l, fx, d + 1), k, nn, bb, so, qc, qm) := by
  obtain ⟨c, cd⟩ := c
  unfold f_X12_readDoing_48
  rw [gI_n c.tg]
  by_cases z : hp_I g m 11 = 0
  · rw [if_pos z, c.S.g 4 4 (by decide) rfl, c.S.a 4 2 (i := 2) rfl (by decide) (by decide), c.S.w 4 2 (i := 2) rfl (by decide) (by decide)]
    refine ⟨_, rfl, c.w (by decide) _, fun A ls e => ?_⟩
    obtain ⟨⟨u0, u1, u1'⟩, u2, u3, u4, ⟨u5, u6, u7⟩, u8, u9⟩ := cd A ls e
    have ne : ∀ j, j ≠ 2 → hp_I (hp_sI g (m + 4) 2 (hp_I g (m + 4) 2 + 1)) (m + 4) j = hp_I g (m + 4) j := fun j hj => by rw [sI_at, if_neg hj]
    refine ⟨⟨by rw [ne _ (by decide)]; exact u0, by rw [ne _ (by decide)]; exact u1, ?_⟩, fun i hi => by rw [ne _ (by omega)]; exact u2 i hi, fun d' f' hd hf => by rw [ne _ (by omega)]; exact u3 d' f' hd hf, fun d' hd => by rw [ne _ (by omega)]; exact u4 d' hd, ⟨fun k' hk' => by rw [ne _ (by omega)]; exact u5 k' hk', by rw [ne _ (by decide)]; exact u6, by rw [ne _ (by decide)]; exact u7⟩, ?_, ?_⟩
    · rw [sI_at, if_pos rfl, u1', nI_1]
    · exact ⟨fun z => by rw [ne _ (by decide)]; exact u8.1 z, fun z => by rw [ne _ (by decide), ne _ (by decide), ne _ (by decide)]; exact u8.2 z⟩
    · exact ⟨fun z => by rw [ne _ (by decide)]; exact u9.1 z, fun z => by rw [ne _ (by decide), ne _ (by decide), ne _ (by decide)]; exact u9.2 z⟩
  · rw [if_neg z]
    exact ⟨g, rfl, c, fun A ls e => absurd (by rw [e] at c; exact c.1.f0) z⟩
theorem dl_m0 {σ : PS} (h4 : kin tp n σ ≠ 4) (h6 : kin tp n σ ≠ 6) (pk : Pok n tp σ) (km : Nat) {g0 g : Hp} (c : EJ m n tp g0 g σ ((l, fx, d), k, nn, bb, so, qc, qm)) (l1 : Int32) : ∃ g', f_X12_readDoing_30 F (km + 1) m l1 g = some ((), g') ∧ EJ m n tp g0 g' σ ((l, fx, d + 1), k, nn, bb, so, qc, qm) := by
  show ∃ g', f_X12_readDoing_30_b F (f_X12_readDoing_30 F km) m l1 g = _ ∧ _
  unfold f_X12_readDoing_30_b
  rw [gI_n c.1.tg]
  by_cases z : hp_I g m 11 = 0
  · have e : f_X12_readNeed F m l1 g = some (0, g) := by
      unfold f_X12_readNeed
      rw [cV_n c.1.tg (show f_X12_is F m 6 g = _ from M_is F (K := 6) (by decide) c.1.1 pk), if_neg h6, if_pos rfl, cV_n c.1.tg (show f_X12_is F m 4 g = _ from M_is F (K := 4) (by decide) c.1.1 pk), if_neg h4, if_pos rfl]
    rw [if_pos z, cV_n c.1.tg e, if_pos rfl]
    exact dl_48 c
  · rw [if_neg z]
    exact dl_48 c
theorem dl_loop (hF : 2000 ≤ F) (f4 : fx ≤ 4) (d6 : d < 6) : ∀ e (σ : PS) kc km l2 (nn : Nat → Nat → Nat) (bb : Nat → Nat), n - plc σ ≤ e → e < kc → e < km → l2 ≤ plc σ → Pok n tp σ → (∀ d f, d < 6 → f < 4 → nn d f < 4) → (∀ d, d < 6 → bb d < 16) → ∃ (σ' : PS) (nn' : Nat → Nat → Nat) (bb' : Nat → Nat), Pok n tp σ' ∧ Le σ σ' ∧ ((∀ d f, d < 6 → f < 4 → nn' d f < 4) ∧ ∀ d, d < 6 → bb' d < 16) ∧ Kp σ σ' ∧ (∀ h0 h, DJ x n tp a h0 h σ ((l, fx, d + 1), k, nn, bb, so, qc, qm) → ∃ h', f_X5_doingLine_45 F kc (x + 9) (nI d) (nI l2) h = some ((), h') ∧ DJ x n tp a h0 h' σ' ((l, fx, d + 1), k, nn', bb', so, qc, qm)) ∧ ∀ g0 g, EJ m n tp g0 g σ ((l, fx, d), k, nn, bb, so, qc, qm) → ∃ g', f_X12_readDoing_30 F km m (nI d) g = some ((), g') ∧ EJ m n tp g0 g' σ' ((l, fx, d + 1), k, nn', bb', so, qc, qm) := by
  intro e
  induction e with
  | zero =>
    intro σ kc km l2 nn bb he hc hm hl pk hn hb
    obtain ⟨kc, rfl⟩ : ∃ j, kc = j + 1 := ⟨kc - 1, by omega⟩
    obtain ⟨km, rfl⟩ : ∃ j, km = j + 1 := ⟨km - 1, by omega⟩
    by_cases z : kin tp n σ = 4 ∨ kin tp n σ = 6
    · obtain ⟨A, ls, rfl, hk⟩ := kin_inl (show kin tp n σ ≠ 25 by omega)
      have hA := tK_lt (show tK tp n A ≠ 24 by rw [← hk]; omega)
      have he : n - A ≤ 0 := he
      omega
    · exact ⟨σ, nn, bb, pk, Le.rf _, ⟨hn, hb⟩, Kp.rf _, fun h0 h c => ⟨h, dl_c0 (by omega) (by omega) kc _ _ c.1, c⟩, fun g0 g c => dl_m0 (by omega) (by omega) pk km c _⟩
  | succ e ih =>
    intro σ kc km l2 nn bb he hc hm hl pk hn hb
    obtain ⟨kc, rfl⟩ : ∃ j, kc = j + 1 := ⟨kc - 1, by omega⟩
    obtain ⟨km, rfl⟩ : ∃ j, km = j + 1 := ⟨km - 1, by omega⟩
    by_cases z : kin tp n σ = 4 ∨ kin tp n σ = 6
    · obtain ⟨A, ls, rfl, hk⟩ := kin_inl (show kin tp n σ ≠ 25 by omega)
      have z' : tK tp n A = 4 ∨ tK tp n A = 6 := z
      have hA := tK_lt (show tK tp n A ≠ 24 by omega)
      have he : n - A ≤ e + 1 := he
      have hl : l2 ≤ A := hl
      have it : IT F x m n a tp l fx d k nn bb so qc qm A ls := by
        rcases z' with y | y
        · exact it_need hF y pk f4 d6 (hb d d6)
        · exact it_but hF y pk f4 d6 (hb d d6)
      obtain ⟨σ1, v, w, b, p1, q1, kp1, a1, ⟨v4, w4, b16⟩, wc, wm⟩ := it
      have p1n := p1.1
      obtain ⟨σ', nn', bb', p2, q2, hb2, kp2, w2, u2⟩ := ih σ1 kc km (l2 + 1) (nn1 nn d v w) (bb1 bb d b) (by omega) (by omega) (by omega) (by omega) p1 (fun d' f' h1 h2 => by
        show (if d' = d ∧ f' = v then w else nn d' f') < 4
        by_cases y : d' = d ∧ f' = v
        · rw [if_pos y]; exact w4
        · rw [if_neg y]; exact hn d' f' h1 h2) (fun d' h1 => by
        show (if d' = d then b else bb d') < 16
        by_cases y : d' = d
        · rw [if_pos y]; exact b16
        · rw [if_neg y]; exact hb d' h1)
      refine ⟨σ', nn', bb', p2, q1.tr q2, hb2, kp1.tr kp2, fun h0 h c => ?_, fun g0 g c => ?_⟩
      · have n9 : n ≤ 900 := c.1.1.2.1.2.2.1.2
        obtain ⟨h1, e1, c1⟩ := wc h0 h (f_X5_doingLine_45 F kc) (nI l2) c
        rw [nI_1] at e1
        obtain ⟨h', e', c'⟩ := w2 h0 h1 c1
        refine ⟨h', ?_, c'⟩
        show f_X5_doingLine_45_b F (f_X5_doingLine_45 F kc) (x + 9) (nI d) (nI l2) h = _
        unfold f_X5_doingLine_45_b
        rw [c.1.1.2.1.g3, if_neg (nI_ge (show l2 < n by omega) (by omega)), gI_n c.1.tg, gI_n c.1.tg]
        by_cases y : hp_I h (x + 9) 6 = 208
        · rw [if_pos y, e1]; exact e'
        · have y6 : hp_I h (x + 9) 6 = 210 := by
            rcases z with u | u
            · exact absurd (by rw [(C_is c.1.1 (K := 4) rfl).mpr u]; exact ctk_d.1) y
            · rw [(C_is c.1.1 (K := 6) rfl).mpr u]; exact ctk_d.2.1
          rw [if_neg y, if_pos y6, e1]; exact e'
      · obtain ⟨g1, r, e1, c1, hr⟩ := wm g0 g c
        have un : f_X12_readDoing_30 F (km + 1) m (nI d) g = if r = 0 then f_X12_readDoing_48 F m g1 else f_X12_readDoing_30 F km m (nI d) g1 := by
          show f_X12_readDoing_30_b F (f_X12_readDoing_30 F km) m (nI d) g = _
          unfold f_X12_readDoing_30_b
          rw [gI_n c.1.tg, c.1.1.f0, if_pos rfl, cV_n c.1.tg e1]
        rcases hr with ⟨r0, ne⟩ | r1
        · refine ⟨g1, ?_, ?_⟩
          · rw [un, if_pos r0]
            unfold f_X12_readDoing_48
            rw [gI_n c1.1.tg, if_neg ne]
          · match σ1, c1, kp2 with
            | .inl (A1, l1), c1, _ => exact absurd c1.1.1.f0 ne
            | .inr b1, c1, kp2 =>
              rw [kp2.1 b1 rfl]
              exact ⟨c1.1, fun _ _ e => by injection e⟩
        · obtain ⟨g', e', c'⟩ := u2 g0 g1 c1
          refine ⟨g', ?_, c'⟩
          rw [un, if_neg (by rw [r1]; decide)]
          exact e'
    · exact ⟨σ, nn, bb, pk, Le.rf _, ⟨hn, hb⟩, Kp.rf _, fun h0 h c => ⟨h, dl_c0 (by omega) (by omega) kc _ _ c.1, c⟩, fun g0 g c => dl_m0 (by omega) (by omega) pk km c _⟩
theorem L_doing (hF : 2000 ≤ F) {A : Nat} {ls : List Nat} {D : DR} (z : tK tp n A = 3) (ok : Dok ls D) (pk : Pok n tp (.inl (A, ls))) (n9 : n ≤ 900) : LB x m n a tp (fun h => f_X5_doingLine F (x + 9) h) (fun g => f_X12_readDoing F m g) A ls D := by
  obtain ⟨⟨l, fx, d⟩, k, nn, bb, so, qc, qm⟩ := D
  obtain ⟨⟨o1, o1'⟩, o2, o3, o4, ⟨⟨o5, o6⟩, o7⟩, o8, o9⟩ := ok
  have o1 : fx ≤ 4 := o1
  have o1' : d ≤ 6 := o1'
  have hA := tK_lt (show tK tp n A ≠ 24 by rw [z]; decide)
  by_cases d6 : d < 6
  · obtain ⟨p1, q1, c1, a1⟩ := nx_ok pk
    have a1 := a1 hA
    have p1n := p1.1
    obtain ⟨σ', nn', bb', p2, q2, ⟨hn2, hb2⟩, kp, w2, u2⟩ := dl_loop (F := F) (x := x) (m := m) (n := n) (a := a) (tp := tp) (l := l) (fx := fx) (d := d) (k := k) (so := so) (qc := qc) (qm := qm) hF o1 d6 (n - plc (nx tp n A ls)) (nx tp n A ls) F F 0 nn bb (Nat.le_refl _) (by omega) (by omega) (Nat.zero_le _) p1 o3 o4
    refine ⟨σ', ((l, fx, d + 1), k, nn', bb', so, qc, qm), p2, q1.tr q2, fun A' ls' e => ?_, fun h0 h ⟨c, cd⟩ => ?_, fun g0 g ⟨c, cd⟩ => ?_⟩
    · obtain ⟨A1, e1⟩ := kp.2 A' ls' e
      have el := nx_ls e1
      subst el
      refine ⟨⟨⟨o1, show d + 1 ≤ 6 by omega⟩, o2, hn2, hb2, ⟨⟨o5, o6⟩, o7⟩, o8, o9⟩, rfl, ?_⟩
      have := q2.1
      rw [e] at this
      have : plc (nx tp n A ls') ≤ A' := this
      omega
    · obtain ⟨⟨u0, u1, u1'⟩, u2', u3, u4, ⟨u5, u6⟩, u7⟩ := cd A ls rfl
      have x1 := c.w0 1 (nI (d + 1))
      have e0 : ∀ j, j ≠ 1 → hp_I (hp_sI h a 1 (nI (d + 1))) a j = hp_I h a j := fun j hj => by rw [sI_at, if_neg hj]
      have ek : ∀ j, 0 < j → hp_I (hp_sI h a 1 (nI (d + 1))) (a + j) = hp_I h (a + j) := fun j hj => sI_ne _ _ _ (by omega)
      have e11 : hp_I (hp_sI h a 1 (nI (d + 1))) (x + 11) = hp_I h (x + 11) := sI_ne _ _ _ (Ne.symm (c.2.1.2.1 0 11 (by decide) (by decide) (by decide)))
      have cd1 : CD (hp_sI h a 1 (nI (d + 1))) x a ((l, fx, d + 1), k, nn, bb, so, qc, qm) := ⟨⟨by rw [e0 _ (by decide)]; exact u0, by rw [e0 _ (by decide)]; exact u1, by rw [sI_at, if_pos rfl]⟩, by rw [ek 1 (by decide)]; exact u2', by rw [ek 2 (by decide)]; exact u3, by rw [ek 3 (by decide)]; exact u4, ⟨by rw [e0 _ (by decide)]; exact u5, by rw [e0 _ (by decide)]; exact u6⟩, by rw [e11]; exact u7⟩
      obtain ⟨h2, e2, d2⟩ := C_adv F hF x1.1 pk
      obtain ⟨x2, i2, j2, -⟩ := x1.st d2
      obtain ⟨h', e', c'⟩ := w2 h0 h2 ⟨x2, fun _ _ _ => cd1.cg i2 j2⟩
      refine ⟨h', ?_, c'⟩
      show f_X5_doingLine F (x + 9) h = _
      unfold f_X5_doingLine
      rw [c.g8, gI_n c.ta, u1', if_pos (show nI d < 6 from nI_lt (b := 6) d6 (by decide)), c.g8, gI_n c.ta, c.g8, gI_n c.ta, u1', pI_n c.ta, nI_1, cV_n x1.tg e2]
      exact e'
    · obtain ⟨g2, e2, d2⟩ := M_adv F hF c.1 pk
      obtain ⟨x2, i2, j2, -⟩ := c.st d2
      obtain ⟨g', e', c'⟩ := u2 g0 g2 ⟨x2, fun _ _ _ => (cd A ls rfl).cg i2⟩
      refine ⟨g', ?_, c'⟩
      show f_X12_readDoing F m g = _
      unfold f_X12_readDoing f_X12_readDoing_18
      rw [c.rd 2 (i := 2) rfl (by decide), (cd A ls rfl).1.2.2, if_neg (show ¬ nI d = 6 from fun e => by have := nI_inj (b := 6) (by omega) (by decide) e; omega), gI_n c.tg, c.1.f0, if_pos rfl, cV_n c.tg e2]
      exact e'
  · obtain rfl : d = 6 := by omega
    obtain ⟨p1, q1⟩ := flt_ok (k := 4) (by decide) pk
    refine ⟨flt 4 (.inl (A, ls)), ((l, fx, 6), k, nn, bb, so, qc, qm), p1, q1, fun A' ls' e => by injection e, fun h0 h ⟨c, cd⟩ => ?_, fun g0 g ⟨c, cd⟩ => ?_⟩
    · obtain ⟨h2, e2, d2⟩ := C_fail F (k := 4) c.1 pk
      refine ⟨h2, ?_, (c.st d2).1, fun A' ls' e => by injection e⟩
      show f_X5_doingLine F (x + 9) h = _
      unfold f_X5_doingLine
      rw [c.g8, gI_n c.ta, (cd A ls rfl).1.2.2, if_neg (show ¬ nI 6 < 6 by decide), cV_n c.tg (show f_X5_fail F (x + 9) 4 h = _ from e2)]
    · obtain ⟨g2, e2, d2, ne⟩ := M_failk F 4 (by decide) c.1 pk
      refine ⟨g2, ?_, (c.st d2).1, fun A' ls' e => by injection e⟩
      show f_X12_readDoing F m g = _
      unfold f_X12_readDoing f_X12_readDoing_18
      rw [c.rd 2 (i := 2) rfl (by decide), (cd A ls rfl).1.2.2, if_pos (show nI 6 = 6 from rfl), cV_n c.tg (show f_X12_fails F m 4 g = _ from e2), gI_n d2.tg, if_neg ne]
end doing
