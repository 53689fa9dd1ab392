/-! L3, the class: forces, best -/
theorem cc_dk43 (F : Nat) (hF : 70000 ≤ F) {h : Hp} {q J L a : Nat} {H : HM} {b t d : Nat} (c1 : hp_t h q = 2 ∧ hp_R h q 0 = some J ∧ hp_R h q 1 = some a) (c2 : hp_t h J = 20 ∧ hp_l h J = L ∧ L ≤ 65536) (c3 : HC h a H ∧ b < 10 ∧ 16 ^ hm_f H ≤ L ∧ ∀ k, k < 6 → a + k ≠ J) (c4 : hp_I h q 2 = nI b ∧ hp_I h q 3 = nI t ∧ hp_I h q 4 = nI d ∧ t < 2 ∧ d < hm_d H) : ∃ h', f_X1_begin_43 F q h = some ((), h') ∧ FQ J h h' ∧ DK h' q J L a H b t d := by
  obtain ⟨h1, e1, f1, v1⟩ := fillI F (a := J) (N := L) (by omega) (by omega) c2.1 c2.2.1
  have qJ : q ≠ J := fun e => by
    have := c1.1
    rw [e, c2.1] at this
    exact absurd this (by decide)
  unfold f_X1_begin_43
  rw [gR_n c1.1 c1.2.1, bd_n e1]
  refine ⟨h1, rfl, f1, ⟨by rw [f1.1.1]; exact c1.1, by rw [f1.1.2.2.1]; exact c1.2.1, by rw [f1.1.2.2.1]; exact c1.2.2⟩, ⟨by rw [f1.1.1]; exact c2.1, by rw [f1.1.2.1]; exact c2.2.1, c2.2.2⟩, ⟨c3.1.cg (fun k _ => by rw [f1.1.1, f1.1.2.1]; exact ⟨rfl, rfl⟩) (by rw [f1.1.2.2.1]) (fun k hk => f1.2.2 _ (c3.2.2.2 k hk)), c3.2⟩, by rw [f1.2.2 q qJ]; exact c4, fun v l w ok hl => ?_⟩
  have hr := cs_room ok c3.1.f4
  have := c3.2.2.1
  rw [v1 (cs v), if_pos (by omega), b_0, b_0]
  exact ⟨fun z => absurd z (by decide), fun z => absurd z (by decide)⟩
theorem cc_dbegin (F : Nat) (hF : 70000 ≤ F) {h : Hp} {q W L a : Nat} {ow : Nat → Nat} {H : HM} {b t d e : Nat} (tq : hp_t h q = 2) (la : LA h q 20 W L ow e) (hq : q < hp_n h) (hc : HC h a H) (ha : ∀ k, k < 6 → a + k < hp_n h ∧ a + k ≠ W) (hb : b < 10) (ht : t < 2) (hd : d < hm_d H) : ∃ h' W' L' ow', f_X1_begin F q a (nI b) (nI t) (nI d) h = some ((), h') ∧ FW (fun y => y = q ∨ y = W) h h' ∧ OE h ow ow' ∧ DK h' q W' L' a H b t d ∧ LA h' q 20 W' L' ow' e ∧ BU L L' h h' := by
  have L16 := la.L16
  obtain ⟨l1, ⟨l2, l3, k0, k4, lk⟩, l5, l6⟩ := la
  have f4 := hc.f4
  have p4 := p16_le f4
  have aq : ∀ k, k < 6 → a + k ≠ q := fun k hk e => by
    rcases Nat.eq_zero_or_pos k with z | z
    · have := hc.t
      rw [show a = q by omega, tq] at this
      exact absurd this (by decide)
    · have := (hc.1.2 k z hk).2.1
      rw [e, tq] at this
      exact absurd this (by decide)
  let Wp : Nat → Prop := fun y => y = q ∨ y = W
  let h1 := hp_sR h q 1 (some a)
  let h2 := hp_sI (hp_sI (hp_sI h1 q 2 (nI b)) q 3 (nI t)) q 4 (nI d)
  have f2 : FW Wp h h2 := (((FW.sR (W := Wp) (h := h) (a := q) (k := 1) (v := some a) (Or.inl rfl)).tr (FW.sI (W := Wp) (h := h1) (a := q) (k := 2) (v := nI b) (Or.inl rfl)) (fun _ _ z => z)).tr (FW.sI (W := Wp) (a := q) (k := 3) (v := nI t) (Or.inl rfl)) (fun _ _ z => z)).tr (FW.sI (W := Wp) (a := q) (k := 4) (v := nI d) (Or.inl rfl)) (fun _ _ z => z)
  have hc2 : HC h2 a H := hc.fw f2 (fun k hk => ⟨(ha k hk).1, fun z => by rcases z with z | z; exact aq k hk z; exact (ha k hk).2 z⟩)
  have r20 : hp_R h2 q 0 = some W := by
    show hp_R (hp_sR h q 1 (some a)) q 0 = _
    rw [sR_at, if_neg (by decide)]; exact l1
  have r21 : hp_R h2 q 1 = some a := by
    show hp_R (hp_sR h q 1 (some a)) q 1 = _
    rw [sR_at, if_pos rfl]
  have i2 : hp_I h2 q 2 = nI b ∧ hp_I h2 q 3 = nI t ∧ hp_I h2 q 4 = nI d ∧ t < 2 ∧ d < hm_d H := by
    refine ⟨?_, ?_, ?_, ht, hd⟩
    · show hp_I (hp_sI (hp_sI (hp_sI h1 q 2 (nI b)) q 3 (nI t)) q 4 (nI d)) q 2 = _
      rw [sI_at, if_neg (by decide), sI_at, if_neg (by decide), sI_at, if_pos rfl]
    · show hp_I (hp_sI (hp_sI (hp_sI h1 q 2 (nI b)) q 3 (nI t)) q 4 (nI d)) q 3 = _
      rw [sI_at, if_neg (by decide), sI_at, if_pos rfl]
    · show hp_I (hp_sI (hp_sI (hp_sI h1 q 2 (nI b)) q 3 (nI t)) q 4 (nI d)) q 4 = _
      rw [sI_at, if_pos rfl]
  unfold f_X1_begin
  rw [pR_n tq, pI_n (show hp_t (hp_sR h q 1 (some a)) q = 2 from tq), pI_n (show hp_t (hp_sI (hp_sR h q 1 (some a)) q 2 (nI b)) q = 2 from tq), pI_n (show hp_t (hp_sI (hp_sI (hp_sR h q 1 (some a)) q 2 (nI b)) q 3 (nI t)) q = 2 from tq)]
  show ∃ h' W' L' ow', (gR 2 h2 q 0 fun v4 => _) = _ ∧ _
  rw [gR_n (show hp_t h2 q = 2 from tq) r20, al_n (show hp_t h2 W = 20 from l2) (show hp_l h2 W = L from l3), cV_n hc2.t (cc_room F hc2)]
  by_cases z : 16 ^ hm_f H ≤ L
  · rw [if_pos (nI_le z (by omega))]
    obtain ⟨h3, e3, f3, c3⟩ := cc_dk43 F hF (h := h2) (L := L) ⟨tq, r20, r21⟩ ⟨l2, l3, L16⟩ ⟨hc2, hb, z, fun k hk => (ha k hk).2⟩ i2
    have n3 : hp_n h3 = hp_n h := f3.1.2.2.2.1
    have s3 : hp_s h3 = hp_s h := f3.1.2.2.2.2.1
    exact ⟨h3, W, L, ow, e3, f2.tr (f3.f3 (q := q) (P := q)).fw (fun y _ z => by rcases z with z | z | z; exact Or.inl z; exact Or.inl z; exact Or.inr z), OE.rf _ _, c3, ⟨c3.1.2.1, ⟨c3.2.1.1, c3.2.1.2.1, k0, k4, lk⟩, l5, by rw [n3]; exact l6⟩, ⟨by rw [n3]; exact Nat.le_refl _, by rw [s3]; exact Nat.le_refl _, Nat.le_refl _⟩⟩
  · have la2 : LA h2 q 20 W L ow e := ⟨r20, ⟨l2, l3, k0, k4, lk⟩, l5, l6⟩
    obtain ⟨g1, g2, g3, g4, g5, g6, g7⟩ := LA_grow la2 (show q < hp_n h2 from hq) f4 z
    generalize hh : hp_sR (hp_nw h2 20 (16 ^ hm_f H) (16 ^ hm_f H)) q 0 (some (hp_n h2)) = h4 at g1 g3 g4 g5 g6 g7
    have f4' : FW Wp h h4 := f2.tr g7 (fun _ _ z => Or.inl z)
    have hc4 : HC h4 a H := hc.fw f4' (fun k hk => ⟨(ha k hk).1, fun z => by rcases z with z | z; exact aq k hk z; exact (ha k hk).2 z⟩)
    have tq2 : hp_t (hp_nw h2 20 (16 ^ hm_f H) (16 ^ hm_f H)) q = 2 := by
      show (if q = hp_n h2 then 20 else hp_t h2 q) = 2
      rw [if_neg (show ¬ q = hp_n h2 from fun e => by have e : q = hp_n h := e; omega)]; exact tq
    obtain ⟨h3, e3, f3, c3⟩ := cc_dk43 F hF (h := h4) (J := hp_n h2) (L := 16 ^ hm_f H) ⟨g5.trans tq, g1.1, (g3 1 (by decide)).trans r21⟩ ⟨g1.2.1.1, g1.2.1.2.1, p4⟩ ⟨hc4, hb, Nat.le_refl _, fun k hk => Nat.ne_of_lt (ha k hk).1⟩ (by rw [g4]; exact i2)
    rw [if_neg (nI_ge (by omega) (by omega)), cV_n hc2.t (cc_room F hc2), nA_n rfl (by omega), pR_n tq2, hh]
    have n3 : hp_n h3 = hp_n h4 := f3.1.2.2.2.1
    have s3 : hp_s h3 = hp_s h4 := f3.1.2.2.2.2.1
    have g6 : BU L (16 ^ hm_f H) h h4 := g6
    refine ⟨h3, hp_n h2, 16 ^ hm_f H, _, e3, f4'.tr (f3.f3 (q := q) (P := q)).fw (fun y hy w => ?_), g2, c3, ⟨c3.1.2.1, ⟨c3.2.1.1, c3.2.1.2.1, hm_f H, f4, rfl⟩, g1.2.2.1, by rw [n3]; exact g1.2.2.2⟩, ⟨by rw [n3]; exact g6.1, by rw [s3]; exact g6.2.1, g6.2.2⟩⟩
    rcases w with w | w | w
    · exact Or.inl w
    · exact Or.inl w
    · have w : y = hp_n h := w
      omega
theorem cc_isForced (F : Nat) (hF : 100 ≤ F) {h : Hp} {q J L a : Nat} {H : HM} {b t d l v : Nat} {w : Bool} (hl : l ≤ 6) (ok : STok H v) (c : DK h q J L a H b t d) : ∃ h', f_X1_isForced F q (nI (cs v)) (nI l) (nI (b2 w)) h = some (nI (b2 (fb H b t d l w v)), h') ∧ FQ J h h' ∧ DK h' q J L a H b t d := by
  unfold f_X1_isForced
  exact cc_forced F hF l 16 h v w hl (by omega) ok c
theorem cc_turns_r (F : Nat) (hF : 100 ≤ F) {q J L a : Nat} {H : HM} {b t d v : Nat} (ok : STok H v) : ∀ r k n (h : Hp), k + r = 7 → r < n → DK h q J L a H b t d → (∀ j, j < k → ¬ frc H b t d j true v) → ∃ m h', f_X1_fewestTurns_2 F n q (nI (cs v)) (nI k) h = some (tf m, h') ∧ FQ J h h' ∧ DK h' q J L a H b t d ∧ FV H b t d 6 true v m := by
  intro r
  induction r with
  | zero =>
    intro k n h hk hn c hj
    obtain ⟨n, rfl⟩ : ∃ j, n = j + 1 := ⟨n - 1, by omega⟩
    have e : k = 7 := by omega
    subst e
    refine ⟨268435456, h, ?_, FQ.rf _ _, c, Or.inl ⟨rfl, hj 6 (by decide)⟩⟩
    show f_X1_fewestTurns_2_b F (f_X1_fewestTurns_2 F n) q (nI (cs v)) (nI 7) h = _
    unfold f_X1_fewestTurns_2_b
    rw [if_pos (by decide)]
    rfl
  | succ r ih =>
    intro k n h hk hn c hj
    obtain ⟨n, rfl⟩ : ∃ j, n = j + 1 := ⟨n - 1, by omega⟩
    obtain ⟨h1, e1, f1, c1⟩ := cc_isForced F hF (l := k) (w := true) (by omega) ok c
    show ∃ m h', f_X1_fewestTurns_2_b F (f_X1_fewestTurns_2 F n) q (nI (cs v)) (nI k) h = _ ∧ _
    unfold f_X1_fewestTurns_2_b
    rw [if_neg (show ¬ (6 : Int32) < nI k from fun e => absurd ((nI_ltI (a := 6) (by decide) (by omega)).mp e) (by omega)), cV_n c.1.1 (show f_X1_isForced F q (nI (cs v)) (nI k) 1 h = _ from e1), nI_1]
    cases hz : fb H b t d k true v with
    | true =>
      rw [if_neg (show ¬ nI (b2 true) = 0 by decide)]
      refine ⟨k, h1, ?_, f1, c1, Or.inr ⟨by omega, fb_e.mp hz, hj⟩⟩
      unfold tf
      rw [if_neg (by omega)]
    | false =>
      rw [if_pos (show nI (b2 false) = 0 by decide)]
      obtain ⟨m, h2, e2, f2, c2, v2⟩ := ih (k + 1) n h1 (by omega) (by omega) c1 (fun j hh => by
        rcases (show j = k ∨ j < k by omega) with y | y
        · rw [y]; exact fb_f.mp hz
        · exact hj j y)
      exact ⟨m, h2, e2, f1.tr f2, c2, v2⟩
theorem cc_turns (F : Nat) (hF : 100 ≤ F) {h : Hp} {q J L a : Nat} {H : HM} {b t d v : Nat} (ok : STok H v) (c : DK h q J L a H b t d) : ∃ m h', f_X1_fewestTurns F q (nI (cs v)) h = some (tf m, h') ∧ FQ J h h' ∧ DK h' q J L a H b t d ∧ FV H b t d 6 true v m := by
  unfold f_X1_fewestTurns
  exact cc_turns_r F hF ok 7 0 F h (by omega) (by omega) c (fun j hj => absurd hj (by omega))
theorem cc_first10 (F : Nat) (hF : 100 ≤ F) {q J L a : Nat} {H : HM} {b t d v m told : Nat} (ok : STok H v) (ht : told < 2) (hm : m < 6) (K2 : Nat → Int32 → Int32 → Int32 → Hp → Option (Int32 × Hp)) : ∀ r f n (h : Hp), f + r = hm_f H → r < n → DK h q J L a H b t d → (∀ k u, k < 4 * told + f → mv H b v k = some u → ¬ frc H b t d m false u) → (∃ k u h', f_X1_firstMove_10 F K2 n q (nI (cs v)) (nI (m + 1)) (nI told) (nI f) h = some (tm k, h') ∧ FQ J h h' ∧ k < 9 ∧ mv H b v k = some u ∧ frc H b t d m false u ∧ ∀ j u', j < k → mv H b v j = some u' → ¬ frc H b t d m false u') ∨ ∃ h', f_X1_firstMove_10 F K2 n q (nI (cs v)) (nI (m + 1)) (nI told) (nI f) h = K2 q (nI (cs v)) (nI (m + 1)) (nI (told + 1)) h' ∧ FQ J h h' ∧ DK h' q J L a H b t d ∧ ∀ k u, k < 4 * told + 4 → mv H b v k = some u → ¬ frc H b t d m false u := by
  intro r
  induction r with
  | zero =>
    intro f n h hf hn c no
    obtain ⟨n, rfl⟩ : ∃ j, n = j + 1 := ⟨n - 1, by omega⟩
    have h4 := c.2.2.1.1.f4
    right
    refine ⟨h, ?_, FQ.rf _ _, c, fun k u k1 k2 => ?_⟩
    · show f_X1_firstMove_10_b F K2 (f_X1_firstMove_10 F K2 n) _ _ _ _ _ h = _
      unfold f_X1_firstMove_10_b
      rw [gR_n c.1.1 c.1.2.2, c.2.2.1.1.fs, if_pos (nI_le (by omega) (by omega)), nI_1]
    · by_cases z : k < 4 * told + f
      · exact no k u z k2
      · have := mv_n (H := H) (b := b) (v := v) ht (show k - 4 * told < 4 by omega) (by omega)
        rw [show 4 * told + (k - 4 * told) = k by omega, k2] at this
        cases this
  | succ r ih =>
    intro f n h hf hn c no
    obtain ⟨n, rfl⟩ : ∃ j, n = j + 1 := ⟨n - 1, by omega⟩
    have h4 := c.2.2.1.1.f4
    have hfl : f < hm_f H := by omega
    have em := mv_t (b := b) (v := v) ht h4 hfl
    show (∃ k u h', f_X1_firstMove_10_b F K2 (f_X1_firstMove_10 F K2 n) _ _ _ _ _ h = _ ∧ _) ∨ ∃ h', f_X1_firstMove_10_b F K2 (f_X1_firstMove_10 F K2 n) _ _ _ _ _ h = _ ∧ _
    unfold f_X1_firstMove_10_b f_X1_firstMove_65
    rw [gR_n c.1.1 c.1.2.2, c.2.2.1.1.fs, if_neg (nI_ge (by omega) (by omega)), gR_n c.1.1 c.1.2.2, gI_n c.1.1, c.2.2.2.1.1, cV_n c.2.2.1.1.t (cc_afterTelling F c.2.2.1.1 ok c.2.2.1.2.1 ht hfl), nI_1]
    cases hv : tld H b v told f with
    | none =>
      rw [show oN (Option.map cs none) = -1 from rfl, if_pos (by decide)]
      exact ih (f + 1) n h (by omega) (by omega) c (fun k u k1 k2 => by
        by_cases y : k = 4 * told + f
        · rw [y, em, hv] at k2; cases k2
        · exact no k u (by omega) k2)
    | some u =>
      have hv : mv H b v (4 * told + f) = some u := em.trans hv
      have oku := (mv_ok c.2.2.1.1.2.1 ok (by omega) hv).1
      have cu := cs_lt u
      obtain ⟨h1, e1, f1, c1⟩ := cc_isForced F hF (l := m) (w := false) (by omega) oku c
      rw [show oN (Option.map cs (some u)) = nI (cs u) from rfl, if_neg (nI_pos (by omega)), show nI (m + 1) - 1 = nI m from pk_sub (a := m + 1) (b := 1) (by omega), cV_n c.1.1 (show f_X1_isForced F q (nI (cs u)) (nI m) 0 h = _ from e1)]
      cases hz : fb H b t d m false u with
      | true =>
        left
        rw [if_neg (show ¬ nI (b2 true) = 0 by decide), show 10 * nI told + nI f = nI (10 * told + f) by rw [show 10 * nI told = nI (10 * told) from pk_mul 10 told, nI_add]]
        refine ⟨4 * told + f, u, h1, ?_, f1, by omega, hv, fb_e.mp hz, no⟩
        unfold tm
        rw [if_neg (by omega), show (4 * told + f) / 4 = told by omega, show (4 * told + f) % 4 = f by omega]
      | false =>
        rw [if_pos (show nI (b2 false) = 0 by decide)]
        rcases ih (f + 1) n h1 (by omega) (by omega) c1 (fun k u' k1 k2 => by
          by_cases y : k = 4 * told + f
          · rw [y, hv] at k2
            rw [← Option.some.inj k2]; exact fb_f.mp hz
          · exact no k u' (by omega) k2) with ⟨k, u', h2, e2, f2, r2⟩ | ⟨h2, e2, f2, r2⟩
        · exact Or.inl ⟨k, u', h2, e2, f1.tr f2, r2⟩
        · exact Or.inr ⟨h2, e2, f1.tr f2, r2⟩
theorem cc_firstMove (F : Nat) (hF : 100 ≤ F) {h : Hp} {q J L a : Nat} {H : HM} {b t d v m : Nat} (ok : STok H v) (hm : m < 6) (c : DK h q J L a H b t d) : ∃ z h', f_X1_firstMove F q (nI (cs v)) (nI (m + 1)) h = some (z, h') ∧ FQ J h h' ∧ ((z = -1 ∧ ∀ k u, k < 9 → mv H b v k = some u → ¬ frc H b t d m false u) ∨ ∃ k u, k < 9 ∧ mv H b v k = some u ∧ frc H b t d m false u ∧ (∀ j u', j < k → mv H b v j = some u' → ¬ frc H b t d m false u') ∧ z = tm k) := by
  obtain ⟨F1, hF1⟩ : ∃ j, F = j + 3 := ⟨F - 3, by omega⟩
  have h4 := c.2.2.1.1.f4
  unfold f_X1_firstMove
  rw [congrArg (f_X1_firstMove_2 F) hF1]
  show ∃ z h', f_X1_firstMove_2_b F (f_X1_firstMove_2 F (F1 + 2)) q (nI (cs v)) (nI (m + 1)) (nI 0) h = _ ∧ _
  unfold f_X1_firstMove_2_b
  rw [if_neg (show ¬ (2 : Int32) ≤ nI 0 by decide)]
  rcases cc_first10 F hF (told := 0) ok (by decide) hm (f_X1_firstMove_2 F (F1 + 2)) (hm_f H) 0 F h (by omega) (by omega) c (fun k u hk => absurd hk (by omega)) with ⟨k, u, h1, e1, f1, k9, k1, k2, k3⟩ | ⟨h1, e1, f1, c1, n1⟩
  · rw [show f_X1_firstMove_10 F (f_X1_firstMove_2 F (F1 + 2)) F q (nI (cs v)) (nI (m + 1)) (nI 0) 0 h = _ from e1]
    exact ⟨_, h1, rfl, f1, Or.inr ⟨k, u, k9, k1, k2, k3, rfl⟩⟩
  · rw [show f_X1_firstMove_10 F (f_X1_firstMove_2 F (F1 + 2)) F q (nI (cs v)) (nI (m + 1)) (nI 0) 0 h = _ from e1]
    show ∃ z h', f_X1_firstMove_2_b F (f_X1_firstMove_2 F (F1 + 1)) q (nI (cs v)) (nI (m + 1)) (nI 1) h1 = _ ∧ _
    unfold f_X1_firstMove_2_b
    rw [if_neg (show ¬ (2 : Int32) ≤ nI 1 by decide)]
    rcases cc_first10 F hF (told := 1) ok (by decide) hm (f_X1_firstMove_2 F (F1 + 1)) (hm_f H) 0 F h1 (by omega) (by omega) c1 (fun k u hk => n1 k u (by omega)) with ⟨k, u, h2, e2, f2, k9, k1, k2, k3⟩ | ⟨h2, e2, f2, c2, n2⟩
    · rw [show f_X1_firstMove_10 F (f_X1_firstMove_2 F (F1 + 1)) F q (nI (cs v)) (nI (m + 1)) (nI 1) 0 h1 = _ from e2]
      exact ⟨_, h2, rfl, f1.tr f2, Or.inr ⟨k, u, k9, k1, k2, k3, rfl⟩⟩
    · rw [show f_X1_firstMove_10 F (f_X1_firstMove_2 F (F1 + 1)) F q (nI (cs v)) (nI (m + 1)) (nI 1) 0 h1 = _ from e2]
      show ∃ z h', f_X1_firstMove_2_b F (f_X1_firstMove_2 F F1) q (nI (cs v)) (nI (m + 1)) (nI 2) h2 = _ ∧ _
      unfold f_X1_firstMove_2_b
      obtain ⟨h3, e3, f3, c3⟩ := cc_isForced F hF (l := m) (w := false) (by omega) ok.dy c2
      have hd : mv H b v 8 = some (dy v) := rfl
      rw [if_pos (show (2 : Int32) ≤ nI 2 by decide), bd_n (cc_day F v h2), show nI (m + 1) - 1 = nI m from pk_sub (a := m + 1) (b := 1) (by omega), cV_n c2.1.1 (show f_X1_isForced F q (nI (cs (dy v))) (nI m) 0 h2 = _ from e3)]
      have fr := (f1.tr f2).tr f3
      cases hz : fb H b t d m false (dy v) with
      | true =>
        rw [if_neg (show ¬ nI (b2 true) = 0 by decide)]
        exact ⟨_, h3, rfl, fr, Or.inr ⟨8, dy v, by decide, hd, fb_e.mp hz, fun j u' hj => n2 j u' (by omega), rfl⟩⟩
      | false =>
        rw [if_pos (show nI (b2 false) = 0 by decide)]
        refine ⟨_, h3, rfl, fr, Or.inl ⟨rfl, fun k u k9 k1 => ?_⟩⟩
        by_cases y : k = 8
        · rw [y, hd] at k1
          rw [← Option.some.inj k1]; exact fb_f.mp hz
        · exact n2 k u (by omega) k1
/-- the duel is begun for a call -/
theorem CV.duel (F : Nat) (hF : 70000 ≤ F) {h : Hp} {x a s b : Nat} {ow : Nat → Nat} {hs : Nat → HM} {T : Nat} (c : CV h x a s b ow hs T) {t d : Nat} (ht : t < 2) (hd : d < hm_d (hs a)) : ∃ h1 J L, f_X1_begin F (x + 31) a (nI b) (nI t) (nI d) h = some ((), h1) ∧ DK h1 (x + 31) J L a (hs a) b t d ∧ ∀ h2, FQ J h1 h2 → RC h x a s b ow hs T [31, 205] h2 := by
  obtain ⟨W0, L0, R, la, hT, cl⟩ := c.opL (q := 31) (t := 20) (e := 205) (Or.inr ⟨rfl, rfl, rfl⟩)
  obtain ⟨k, cb, ho, -⟩ := c
  have k31 := k.1 31 (by decide) (by decide)
  obtain ⟨h1, J, L, ow', e1, f1, oe, dk, la1, bu⟩ := cc_dbegin F hF (cb.1.t 31 2 (by decide)) la k31.2 cb.hc (fun j hj => ⟨(ho j hj).2.2, fun e => by have := ho j hj; rw [e, la.2.2.1] at this; omega⟩) cb.b10 ht hd
  have fo1 : FO [31, 205] ow h h1 := f1.mono (fun y _ w => by
    rcases w with w | w
    · rw [w, k31.1]; decide
    · rw [w, la.2.2.1]; decide)
  refine ⟨h1, J, L, e1, dk, fun h2 f2 => ?_⟩
  have fo2 : FO [31, 205] ow h h2 := fo1.tr oe ((f2.f3 (q := J) (P := J)).fw.mono (fun y _ w => by
    rcases w with w | w | w <;> (rw [w, la1.2.2.1]; decide)))
  have n2 : hp_n h2 = hp_n h1 := f2.1.2.2.2.1
  refine ⟨ow', L + R, cl h2 ow' J L fo2 oe ⟨by rw [f2.1.2.2.1]; exact la1.1, ⟨by rw [f2.1.1]; exact la1.2.1.1, by rw [f2.1.2.1]; exact la1.2.1.2.1, la1.2.1.2.2⟩, la1.2.2.1, by rw [n2]; exact la1.2.2.2⟩, oe, fo2, ?_⟩
  rw [hT]
  exact (bu.tr (BU.sh f2.1)).add
theorem RC.cb {h h' : Hp} {x a s b : Nat} {ow : Nat → Nat} {hs : Nat → HM} {T : Nat} {os : List Nat} (r : RC h x a s b ow hs T os h') : CB h' x a (hs a) s b := by
  obtain ⟨ow', T', c, -⟩ := r
  exact c.2.1
theorem cc_forces (F : Nat) (hF : 70000 ≤ F) {h : Hp} {x a s b : Nat} {ow : Nat → Nat} {hs : Nat → HM} {T : Nat} (c : CV h x a s b ow hs T) (y z : Int32) : ∃ v h', f_X11_forces F x y z h = some (v, h') ∧ A_forces (hs a) s b y z v ∧ RC h x a s b ow hs T [31, 205] h' := by
  unfold f_X11_forces A_forces
  rw [cV_n c.2.1.1.t0 (cc_noTwin F x y h)]
  cases hy : vi y 2 with
  | none => rw [if_neg nbs1]; exact ⟨_, h, rfl, rfl, RC.rf c _⟩
  | some t =>
    rw [if_pos (nbs0 t), cV_n c.2.1.1.t0 (cc_noDoing F c.2.1 z)]
    dsimp only
    cases hz : vi z (hm_d (hs a)) with
    | none => rw [if_neg nbs1]; exact ⟨_, h, rfl, rfl, RC.rf c _⟩
    | some d =>
      obtain ⟨t1, rfl⟩ := vi_some hy
      obtain ⟨d1, rfl⟩ := vi_some hz
      obtain ⟨h1, J, L, e1, dk, rc⟩ := c.duel F hF t1 d1
      have cb1 := (rc h1 (FQ.rf _ _)).cb
      obtain ⟨m, h2, e2, f2, dk2, fv⟩ := cc_turns F (by omega) c.2.1.ok dk
      rw [if_pos (nbs0 d), c.2.1.1.g0 14 31 (by decide), c.2.1.home, c.2.1.now, c.2.1.bond, cV_n (c.2.1.1.t 31 2 (by decide)) e1, cb1.1.g0 14 31 (by decide), cb1.now, cb1.ages, cV_n dk.1.1 e2]
      exact ⟨_, h2, rfl, ⟨m, fv, rfl⟩, rc h2 f2⟩
theorem cc_best (F : Nat) (hF : 70000 ≤ F) {h : Hp} {x a s b : Nat} {ow : Nat → Nat} {hs : Nat → HM} {T : Nat} (c : CV h x a s b ow hs T) (y z : Int32) : ∃ v h', f_X11_best F x y z h = some (v, h') ∧ A_best (hs a) s b y z v ∧ RC h x a s b ow hs T [31, 205] h' := by
  unfold f_X11_best A_best
  rw [cV_n c.2.1.1.t0 (cc_noTwin F x y h)]
  cases hy : vi y 2 with
  | none => rw [if_neg nbs1]; exact ⟨_, h, rfl, rfl, RC.rf c _⟩
  | some t =>
    rw [if_pos (nbs0 t), cV_n c.2.1.1.t0 (cc_noDoing F c.2.1 z)]
    dsimp only
    cases hz : vi z (hm_d (hs a)) with
    | none => rw [if_neg nbs1]; exact ⟨_, h, rfl, rfl, RC.rf c _⟩
    | some d =>
      obtain ⟨t1, rfl⟩ := vi_some hy
      obtain ⟨d1, rfl⟩ := vi_some hz
      obtain ⟨h1, J, L, e1, dk, rc⟩ := c.duel F hF t1 d1
      have cb1 := (rc h1 (FQ.rf _ _)).cb
      obtain ⟨m, h2, e2, f2, dk2, fv⟩ := cc_turns F (by omega) c.2.1.ok dk
      have cb2 := (rc h2 f2).cb
      rw [if_pos (nbs0 d), c.2.1.1.g0 14 31 (by decide), c.2.1.home, c.2.1.now, c.2.1.bond, cV_n (c.2.1.1.t 31 2 (by decide)) e1, cb1.1.g0 14 31 (by decide), cb1.now, cb1.ages, cV_n dk.1.1 e2]
      by_cases z0 : m = 268435456
      · subst z0
        rw [if_neg (show ¬ (0 : Int32) < tf 268435456 by decide)]
        exact ⟨_, h2, rfl, Or.inl ⟨fv, rfl⟩, rc h2 f2⟩
      · have m6 : m ≤ 6 := by
          rcases fv with ⟨w, -⟩ | ⟨w, -⟩
          · exact absurd w z0
          · exact w
        have tm' : tf m = nI m := by unfold tf; rw [if_neg z0]
        rw [tm']
        rcases Nat.eq_zero_or_pos m with w | w
        · subst w
          rw [if_neg (show ¬ (0 : Int32) < nI 0 by decide)]
          exact ⟨_, h2, rfl, Or.inr (Or.inl ⟨fv, rfl⟩), rc h2 f2⟩
        · obtain ⟨n, rfl⟩ : ∃ n, m = n + 1 := ⟨m - 1, by omega⟩
          rw [if_pos (show (0 : Int32) < nI (n + 1) from nI_lt (a := 0) (by omega) (by omega)), cb2.1.g0 14 31 (by decide), cb2.now, cb2.ages]
          obtain ⟨v, h3, e3, f3, r3⟩ := cc_firstMove F (by omega) (m := n) c.2.1.ok (by omega) dk2
          rw [cV_n dk2.1.1 e3]
          have eqv : ∀ k u, k < 9 → mv (hs a) b s k = some u → (FV (hs a) b t d 6 false u n ↔ frc (hs a) b t d n false u) := fun k u k9 k1 => by
            constructor
            · rintro (⟨w1, -⟩ | ⟨-, w2, -⟩)
              · omega
              · exact w2
            · intro w1
              refine Or.inr ⟨by omega, w1, fun j hj w2 => ?_⟩
              rcases fv with ⟨y1, -⟩ | ⟨-, -, y3⟩
              · omega
              · exact y3 (j + 1) (by omega) (Or.inr ⟨k, u, k9, k1, w2⟩)
          refine ⟨v, h3, rfl, Or.inr (Or.inr ⟨n, by omega, fv, ?_⟩), rc h3 (f2.tr f3)⟩
          rcases r3 with ⟨r1, r2⟩ | ⟨k, u, k9, k1, k2, k3, k4⟩
          · exact Or.inl ⟨r1, fun k u k9 k1 w => r2 k u k9 k1 ((eqv k u k9 k1).mp w)⟩
          · exact Or.inr ⟨k, u, k9, k1, (eqv k u k9 k1).mpr k2, fun j u' hj hj' w => k3 j u' hj hj' ((eqv j u' (by omega) hj').mp w), k4⟩
