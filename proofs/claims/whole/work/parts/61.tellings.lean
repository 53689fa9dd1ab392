/-! L3, the class: the fewest tellings -/
/-- stands apart, closed under days -/
def TQ (H : HM) (u : Nat → Nat) (n : Nat) : Prop := (∀ i, i < n → STok H (u i)) ∧ ∀ i j, i < n → j < n → u i = u j → i = j
def EU (u u' : Nat → Nat) (n n' : Nat) : Prop := n ≤ n' ∧ ∀ i, i < n → u' i = u i
theorem EU.tr {u u1 u2 : Nat → Nat} {n n1 n2 : Nat} (a : EU u u1 n n1) (b : EU u1 u2 n1 n2) : EU u u2 n n2 := ⟨Nat.le_trans a.1 b.1, fun i hi => (b.2 i (by have := a.1; omega)).trans (a.2 i hi)⟩
theorem cc_addq (F : Nat) {h : Hp} {q P S L : Nat} {H : HM} (h4 : hm_f H ≤ 4) {u p : Nat → Nat} {n v : Nat} (r : RW h q P S L u p n) (t : TQ H u n) (hL : 16 ^ hm_f H ≤ L) (ok : STok H v) : ∃ h' u' p' n', f_X7_add F q 0 (nI (cs v)) h = some ((), h') ∧ F3 q P S h h' ∧ (∀ k, k ≠ 2 → hp_I h' q k = hp_I h q k) ∧ RW h' q P S L u' p' n' ∧ TQ H u' n' ∧ EU u u' n n' ∧ (∃ i, i < n' ∧ u' i = v) ∧ ∀ i, n ≤ i → i < n' → u' i = v := by
  have hr := cs_room ok h4
  by_cases z : ∃ i, i < n ∧ u i = v
  · obtain ⟨i, i1, i2⟩ := z
    exact ⟨h, u, p, n, cc_add1 F r (by omega) ⟨i, i1, by rw [i2]⟩ _, F3.rf _ _ _ _, fun _ _ => rfl, r, t, ⟨Nat.le_refl _, fun _ _ => rfl⟩, ⟨i, i1, i2⟩, fun i h1 h2 => by omega⟩
  · have hn : ∀ i, i < n → cs (u i) ≠ cs v := fun i hi e => z ⟨i, hi, cs_inj (t.1 i hi).1 ok.1 e⟩
    have hL2 : n < 16 ^ hm_f H := pig1 (f := fun i => cs (u i)) (fun i hi => cs_room (t.1 i hi) h4) (fun i j hi hj e => t.2 i j hi hj (cs_inj (t.1 i hi).1 (t.1 j hj).1 e)) hr hn
    obtain ⟨h', e, f, g, r'⟩ := cc_add0 F r (show cs v < L by omega) (show 0 < 65536 by decide) hn (by omega)
    refine ⟨h', _, _, n + 1, e, f, g, r', ⟨fun i hi => ?_, fun i j hi hj => ?_⟩, ⟨by omega, fun i hi => if_neg (by omega)⟩, ⟨n, by omega, if_pos rfl⟩, fun i h1 h2 => if_pos (by omega)⟩
    · show STok H (if i = n then v else u i)
      by_cases e : i = n
      · rw [if_pos e]; exact ok
      · rw [if_neg e]; exact t.1 i (by omega)
    · show (if i = n then v else u i) = (if j = n then v else u j) → i = j
      by_cases e : i = n
      · by_cases e2 : j = n
        · intro _; omega
        · rw [if_pos e, if_neg e2]; intro y; exact absurd ⟨j, by omega, y.symm⟩ z
      · by_cases e2 : j = n
        · rw [if_neg e, if_pos e2]; intro y; exact absurd ⟨i, by omega, y⟩ z
        · rw [if_neg e, if_neg e2]; exact t.2 i j (by omega) (by omega)
theorem dy3 (s : Nat) : dy (dy (dy s)) = dy (dy s) := by
  refine dg_ext (dy_lt _) (dy_lt _) fun k hk => ?_
  rw [dg_dy hk, dg_dy hk, dg_dy hk]
  have : ∀ d, d < 4 → dyv (dyv (dyv d)) = dyv (dyv d) := by decide
  exact this _ (dg_lt _ _)
def DC (u : Nat → Nat) (n : Nat) : Prop := ∀ i, i < n → ∃ j, j < n ∧ u j = dy (u i)
/-- one of the days behind v -/
def DD (v w : Nat) : Prop := w = v ∨ w = dy v ∨ w = dy (dy v)
theorem cc_addDays (F : Nat) (hF : 100 ≤ F) {h : Hp} {q P S L : Nat} {H : HM} (h4 : hm_f H ≤ 4) {u p : Nat → Nat} {n v : Nat} (r : RW h q P S L u p n) (t : TQ H u n) (dc : DC u n) (hL : 16 ^ hm_f H ≤ L) (ok : STok H v) : ∃ h' u' p' n', f_X7_addWithDays F q (nI (cs v)) h = some ((), h') ∧ F3 q P S h h' ∧ (∀ k, k ≠ 2 → hp_I h' q k = hp_I h q k) ∧ RW h' q P S L u' p' n' ∧ TQ H u' n' ∧ DC u' n' ∧ EU u u' n n' ∧ (∃ i, i < n' ∧ u' i = v) ∧ ∀ i, n ≤ i → i < n' → DD v (u' i) := by
  obtain ⟨F1, hF1⟩ : ∃ j, F = j + 4 := ⟨F - 4, by omega⟩
  have ok1 := ok.dy
  have ok2 := ok1.dy
  obtain ⟨h1, u1, p1, n1, e1, f1, g1, r1, t1, x1, y1, z1⟩ := cc_addq F h4 r t hL ok
  obtain ⟨h2, u2, p2, n2, e2, f2, g2, r2, t2, x2, y2, z2⟩ := cc_addq F h4 r1 t1 hL ok1
  obtain ⟨h3, u3, p3, n3, e3, f3, g3, r3, t3, x3, y3, z3⟩ := cc_addq F h4 r2 t2 hL ok2
  have c0 := cs_lt v
  have c1 := cs_lt (dy v)
  have c2 := cs_lt (dy (dy v))
  refine ⟨h3, u3, p3, n3, ?_, (f1.tr f2).tr f3, fun k hk => (g3 k hk).trans ((g2 k hk).trans (g1 k hk)), r3, t3, ?_, (x1.tr x2).tr x3, ?_, ?_⟩
  · unfold f_X7_addWithDays
    rw [congrArg (f_X7_addWithDays_4 F) hF1]
    show f_X7_addWithDays_4_b F (f_X7_addWithDays_4 F (F1 + 3)) q (nI (cs v)) 0 h = _
    unfold f_X7_addWithDays_4_b
    rw [if_neg (by decide), if_neg (nI_pos (by omega)), cV_n r.1.t e1, bd_n (cc_day F v h1)]
    show f_X7_addWithDays_4_b F (f_X7_addWithDays_4 F (F1 + 2)) q (nI (cs (dy v))) 1 h1 = _
    unfold f_X7_addWithDays_4_b
    rw [if_neg (by decide), if_neg (nI_pos (by omega)), cV_n r1.1.t e2, bd_n (cc_day F (dy v) h2)]
    show f_X7_addWithDays_4_b F (f_X7_addWithDays_4 F (F1 + 1)) q (nI (cs (dy (dy v)))) 2 h2 = _
    unfold f_X7_addWithDays_4_b
    rw [if_neg (by decide), if_neg (nI_pos (by omega)), cV_n r2.1.t e3, bd_n (cc_day F (dy (dy v)) h3)]
    show f_X7_addWithDays_4_b F (f_X7_addWithDays_4 F F1) q (nI (cs (dy (dy (dy v))))) 3 h3 = _
    unfold f_X7_addWithDays_4_b
    rw [if_pos (by decide)]
  · have v1 : ∃ j, j < n3 ∧ u3 j = dy v := by
      obtain ⟨j, j1, j2⟩ := y2
      exact ⟨j, by have := x3.1; omega, by rw [x3.2 j j1]; exact j2⟩
    intro i hi
    by_cases q0 : i < n
    · obtain ⟨j, j1, j2⟩ := dc i q0
      have xx := (x1.tr x2).tr x3
      exact ⟨j, by have := xx.1; omega, by rw [xx.2 j j1, xx.2 i q0]; exact j2⟩
    · by_cases q1 : i < n1
      · rw [x3.2 i (by have := x2.1; omega), x2.2 i q1, z1 i (by omega) q1]; exact v1
      · by_cases q2 : i < n2
        · rw [x3.2 i q2, z2 i (by omega) q2]; exact y3
        · rw [z3 i (by omega) hi, dy3]; exact y3
  · obtain ⟨j, j1, j2⟩ := y1
    have xx := x2.tr x3
    exact ⟨j, by have := xx.1; omega, by rw [xx.2 j j1]; exact j2⟩
  · intro i hi hi3
    by_cases q1 : i < n1
    · rw [x3.2 i (by have := x2.1; omega), x2.2 i q1]; exact Or.inl (z1 i hi q1)
    · by_cases q2 : i < n2
      · rw [x3.2 i q2]; exact Or.inr (Or.inl (z2 i (by omega) q2))
      · exact Or.inr (Or.inr (z3 i (by omega) hi3))
theorem cc_addNone (F : Nat) (hF : 100 ≤ F) (q : Nat) (h : Hp) : f_X7_addWithDays F q (-1) h = some ((), h) := by
  obtain ⟨F1, hF1⟩ : ∃ j, F = j + 1 := ⟨F - 1, by omega⟩
  unfold f_X7_addWithDays
  rw [congrArg (f_X7_addWithDays_4 F) hF1]
  show f_X7_addWithDays_4_b F (f_X7_addWithDays_4 F F1) q (-1) 0 h = _
  unfold f_X7_addWithDays_4_b
  rw [if_neg (by decide), if_pos (by decide)]
/-- a row of places for the fewest tellings -/
def TC (h : Hp) (q P S L a : Nat) (H : HM) (b s : Nat) (u p : Nat → Nat) (n : Nat) : Prop := RW h q P S L u p n ∧ (hp_R h q 4 = some a ∧ HC h a H ∧ (∀ j, j < 6 → a + j ≠ P ∧ a + j ≠ S) ∧ 16 ^ hm_f H ≤ L) ∧ (b < 10 ∧ STok H s) ∧ hp_I h q 6 = nI b ∧ TQ H u n ∧ DC u n
theorem TC.mk {h h' : Hp} {q P S L a : Nat} {H : HM} {b s : Nat} {u p u' p' : Nat → Nat} {n n' : Nat} (c : TC h q P S L a H b s u p n) (f : F3 q P S h h') (g : ∀ k, k ≠ 2 → hp_I h' q k = hp_I h q k) (r : RW h' q P S L u' p' n') (t : TQ H u' n') (d : DC u' n') : TC h' q P S L a H b s u' p' n' := by
  obtain ⟨c1, ⟨c2, c3, c4, c5⟩, c6, c7, c8, c9⟩ := c
  exact ⟨r, ⟨by rw [f.1.2.2.1]; exact c2, c3.f3 f c1.1.t c4, c4, c5⟩, c6, by rw [g 6 (by decide)]; exact c7, t, d⟩
theorem TC.g4 {α : Type} {h : Hp} {q P S L a : Nat} {H : HM} {b s : Nat} {u p : Nat → Nat} {n : Nat} (c : TC h q P S L a H b s u p n) (K : Nat → Option α) : gR 8 h q 4 K = K a := gR_n c.1.1.t c.2.1.1 K
theorem TC.agesOf (F : Nat) {h : Hp} {q P S L a : Nat} {H : HM} {b s : Nat} {u p : Nat → Nat} {n : Nat} (c : TC h q P S L a H b s u p n) {i : Nat} (hi : i < n) : f_X7_agesOf F q (nI i) h = some (nI (cs (u i)), h) := by
  obtain ⟨ss, ⟨r1, r2⟩, r3, r4⟩ := c.1
  have L16 := ss.L16
  have e := r3 i hi
  unfold f_X7_agesOf
  rw [if_neg (nI_pos (by omega)), gI_n ss.t, r1, if_neg (nI_ge hi (by omega)), ss.g0, ss.aP, if_neg (nI_ge (by omega) (by omega)), ss.g0, aI_n ss.2.1.1 ss.2.1.2 rfl (by omega) (by omega), e.1, unpack_lo e.2 (cs_lt _)]
/-- what opening a stand by tellings brings -/
def OT (H : HM) (b v : Nat) (u u' : Nat → Nat) (n n' k0 k1 : Nat) : Prop := EU u u' n n' ∧ (∀ k w, k0 ≤ k → k < k1 → mv H b v k = some w → ∃ i, i < n' ∧ u' i = w) ∧ ∀ i, n ≤ i → i < n' → ∃ k w, k0 ≤ k ∧ k < k1 ∧ mv H b v k = some w ∧ DD w (u' i)
theorem OT.tr {H : HM} {b v : Nat} {u u1 u2 : Nat → Nat} {n n1 n2 k0 k1 k2 : Nat} (a : OT H b v u u1 n n1 k0 k1) (c : OT H b v u1 u2 n1 n2 k1 k2) (h1 : k0 ≤ k1) (h2 : k1 ≤ k2) : OT H b v u u2 n n2 k0 k2 := by
  obtain ⟨a1, a2, a3⟩ := a
  obtain ⟨c1, c2, c3⟩ := c
  refine ⟨a1.tr c1, fun k w y1 y2 y3 => ?_, fun i y1 y2 => ?_⟩
  · by_cases z : k < k1
    · obtain ⟨i, i1, i2⟩ := a2 k w y1 z y3
      exact ⟨i, by have := c1.1; omega, by rw [c1.2 i i1]; exact i2⟩
    · exact c2 k w (by omega) y2 y3
  · by_cases z : i < n1
    · obtain ⟨k, w, z1, z2, z3, z4⟩ := a3 i y1 z
      exact ⟨k, w, z1, by omega, z3, by rw [c1.2 i z]; exact z4⟩
    · obtain ⟨k, w, z1, z2, z3, z4⟩ := c3 i (by omega) y2
      exact ⟨k, w, by omega, z2, z3, z4⟩
theorem OT.no {H : HM} {b v : Nat} (u : Nat → Nat) (n : Nat) {k0 k1 : Nat} (h : ∀ k, k0 ≤ k → k < k1 → mv H b v k = none) : OT H b v u u n n k0 k1 := ⟨⟨Nat.le_refl _, fun _ _ => rfl⟩, fun k w y1 y2 y3 => (by rw [h k y1 y2] at y3; cases y3), fun i y1 y2 => (by omega)⟩
theorem cc_ot24 (F : Nat) (hF : 100 ≤ F) {q P S L a : Nat} {H : HM} {b s t v : Nat} (ht : t < 2) (ok : STok H v) (K2 : Nat → Int32 → Int32 → Hp → Option (Unit × Hp)) : ∀ r f m (h : Hp) (u p : Nat → Nat) (n : Nat), f + r = hm_f H → r < m → TC h q P S L a H b s u p n → ∃ h' u' p' n', f_X7_openTellings_24 F K2 m q (nI (cs v)) (nI t) (nI (cpl b t (kn v t) (kn v (1 - t)))) (nI f) h = K2 q (nI (cs v)) (nI (t + 1)) h' ∧ F3 q P S h h' ∧ (∀ k, k ≠ 2 → hp_I h' q k = hp_I h q k) ∧ TC h' q P S L a H b s u' p' n' ∧ OT H b v u u' n n' (4 * t + f) (4 * t + 4) := by
  intro r
  induction r with
  | zero =>
    intro f m h u p n hf hm c
    obtain ⟨m, rfl⟩ : ∃ j, m = j + 1 := ⟨m - 1, by omega⟩
    have h4 := c.2.1.2.1.f4
    show ∃ h' u' p' n', f_X7_openTellings_24_b F K2 (f_X7_openTellings_24 F K2 m) _ _ _ _ _ h = _ ∧ _
    unfold f_X7_openTellings_24_b
    rw [c.g4, c.2.1.2.1.fs, if_pos (nI_le (by omega) (by omega)), nI_1]
    refine ⟨h, u, p, n, rfl, F3.rf _ _ _ _, fun _ _ => rfl, c, OT.no _ _ (fun k y1 y2 => ?_)⟩
    rw [show k = 4 * t + (k - 4 * t) by omega]
    exact mv_n ht (by omega) (by omega)
  | succ r ih =>
    intro f m h u p n hf hm c
    obtain ⟨m, rfl⟩ : ∃ j, m = j + 1 := ⟨m - 1, by omega⟩
    have h4 := c.2.1.2.1.f4
    have hfl : f < hm_f H := by omega
    have em := mv_t (b := b) (v := v) ht h4 hfl
    show ∃ h' u' p' n', f_X7_openTellings_24_b F K2 (f_X7_openTellings_24 F K2 m) _ _ _ _ _ h = _ ∧ _
    unfold f_X7_openTellings_24_b
    rw [c.g4, c.2.1.2.1.fs, if_neg (nI_ge (by omega) (by omega)), c.g4, cV_n c.2.1.2.1.t (cc_afterCase F c.2.1.2.1 ok c.2.2.1.1 ht hfl), nI_1]
    cases hv : tld H b v t f with
    | none =>
      obtain ⟨h2, u2, p2, n2, e2, f2, g2, c2, o2⟩ := ih (f + 1) m h u p n (by omega) (by omega) c
      rw [show oN (Option.map cs none) = -1 from rfl, cV_n c.1.1.t (cc_addNone F hF q h), e2]
      refine ⟨h2, u2, p2, n2, rfl, f2, g2, c2, (OT.no (k0 := 4 * t + f) (k1 := 4 * t + f + 1) u n (fun k y1 y2 => ?_)).tr o2 (by omega) (by omega)⟩
      rw [show k = 4 * t + f by omega, em]; exact hv
    | some w =>
      have okw := tld_ok c.2.1.2.1.2.1 ok ht hfl hv
      obtain ⟨h1, u1, p1, n1, e1, f1, g1, r1, t1, d1, x1, y1, z1⟩ := cc_addDays F hF h4 c.1 c.2.2.2.2.1 c.2.2.2.2.2 c.2.1.2.2.2 okw
      obtain ⟨h2, u2, p2, n2, e2, f2, g2, c2, o2⟩ := ih (f + 1) m h1 u1 p1 n1 (by omega) (by omega) (c.mk f1 g1 r1 t1 d1)
      rw [show oN (Option.map cs (some w)) = nI (cs w) from rfl, cV_n c.1.1.t e1, e2]
      have hv : mv H b v (4 * t + f) = some w := em.trans hv
      refine ⟨h2, u2, p2, n2, rfl, f1.tr f2, fun k hk => (g2 k hk).trans (g1 k hk), c2, OT.tr (k1 := 4 * t + f + 1) ⟨x1, fun k w' y1' y2' y3' => ?_, fun i y1' y2' => ⟨4 * t + f, w, by omega, by omega, hv, z1 i y1' y2'⟩⟩ o2 (by omega) (by omega)⟩
      rw [show k = 4 * t + f by omega, hv] at y3'
      obtain rfl := Option.some.inj y3'
      exact y1
theorem cc_openTellings (F : Nat) (hF : 100 ≤ F) {h : Hp} {q P S L a : Nat} {H : HM} {b s v : Nat} (ok : STok H v) {u p : Nat → Nat} {n : Nat} (c : TC h q P S L a H b s u p n) : ∃ h' u' p' n', f_X7_openTellings F q (nI (cs v)) h = some ((), h') ∧ F3 q P S h h' ∧ (∀ k, k ≠ 2 → hp_I h' q k = hp_I h q k) ∧ TC h' q P S L a H b s u' p' n' ∧ OT H b v u u' n n' 0 8 := by
  obtain ⟨F1, hF1⟩ : ∃ j, F = j + 3 := ⟨F - 3, by omega⟩
  have h4 := c.2.1.2.1.f4
  unfold f_X7_openTellings
  rw [congrArg (f_X7_openTellings_2 F) hF1]
  show ∃ h' u' p' n', f_X7_openTellings_2_b F (f_X7_openTellings_2 F (F1 + 2)) q (nI (cs v)) (nI 0) h = _ ∧ _
  unfold f_X7_openTellings_2_b
  obtain ⟨h1, u1, p1, n1, e1, f1, g1, c1, o1⟩ := cc_ot24 F hF (t := 0) (by decide) ok (f_X7_openTellings_2 F (F1 + 2)) (hm_f H) 0 F h u p n (by omega) (by omega) c
  rw [if_neg (show ¬ (2 : Int32) ≤ nI 0 by decide), c.g4, gI_n c.1.1.t, c.2.2.2.1, cV_n c.2.1.2.1.t (cc_caseAt F (t := 0) (by decide) a b h), show f_X7_openTellings_24 F (f_X7_openTellings_2 F (F1 + 2)) F q (nI (cs v)) (nI 0) (nI (cpl b 0 (kn v 0) (kn v (1 - 0)))) 0 h = _ from e1]
  show ∃ h' u' p' n', f_X7_openTellings_2_b F (f_X7_openTellings_2 F (F1 + 1)) q (nI (cs v)) (nI 1) h1 = _ ∧ _
  unfold f_X7_openTellings_2_b
  obtain ⟨h2, u2, p2, n2, e2, f2, g2, c2, o2⟩ := cc_ot24 F hF (t := 1) (by decide) ok (f_X7_openTellings_2 F (F1 + 1)) (hm_f H) 0 F h1 u1 p1 n1 (by omega) (by omega) c1
  rw [if_neg (show ¬ (2 : Int32) ≤ nI 1 by decide), c1.g4, gI_n c1.1.1.t, c1.2.2.2.1, cV_n c1.2.1.2.1.t (cc_caseAt F (t := 1) (by decide) a b h1), show f_X7_openTellings_24 F (f_X7_openTellings_2 F (F1 + 1)) F q (nI (cs v)) (nI 1) (nI (cpl b 1 (kn v 1) (kn v (1 - 1)))) 0 h1 = _ from e2]
  show ∃ h' u' p' n', f_X7_openTellings_2_b F (f_X7_openTellings_2 F F1) q (nI (cs v)) (nI 2) h2 = _ ∧ _
  unfold f_X7_openTellings_2_b
  rw [if_pos (show (2 : Int32) ≤ nI 2 by decide)]
  exact ⟨h2, u2, p2, n2, rfl, f1.tr f2, fun k hk => (g2 k hk).trans (g1 k hk), c2, o1.tr o2 (by decide) (by decide)⟩
/-! layers -/
/-- a row with the last move first; what it costs in tellings -/
def FR (H : HM) (b s v c : Nat) : Prop := ∃ ms, mo 511 ms ∧ rpt H b ms s = some v ∧ cst true ms ≤ c
theorem FR.day {H : HM} {b s v c : Nat} (h : FR H b s v c) : FR H b s (dy v) c := by
  obtain ⟨ms, h1, h2, h3⟩ := h
  refine ⟨8 :: ms, mo_cons (by decide) (by decide) h1, ?_, h3⟩
  show (rpt H b ms s).bind (fun w => mv H b w 8) = _
  rw [h2]; rfl
theorem FR.dd {H : HM} {b s v w c : Nat} (h : FR H b s v c) (d : DD v w) : FR H b s w c := by
  rcases d with rfl | rfl | rfl
  · exact h
  · exact h.day
  · exact h.day.day
theorem FR.tell {H : HM} {b s v c k w : Nat} (h : FR H b s v c) (hk : k < 8) (hw : mv H b v k = some w) : FR H b s w (c + 1) := by
  obtain ⟨ms, h1, h2, h3⟩ := h
  refine ⟨k :: ms, mo_cons (by omega) (all511 k (by omega)) h1, ?_, ?_⟩
  · show (rpt H b ms s).bind (fun w => mv H b w k) = _
    rw [h2]; exact hw
  · show cst true ms + ck true k ≤ _
    have := ck_le true k
    omega
def FI (H : HM) (b s : Nat) (g : GL) (u : Nat → Nat) (k lay n : Nat) : Prop := (∀ i, i < n → FR H b s (u i) k ∧ (i < lay → ∃ j, j < k ∧ FR H b s (u i) j)) ∧ (∀ i, lay ≤ i → i < n → s + k ≤ u i) ∧ (∀ v, FR H b s v k → ∃ i, i < n ∧ u i = v) ∧ (∀ v j, j < k → FR H b s v j → ∃ i, i < lay ∧ u i = v) ∧ (∀ i, i < lay → gl H g (u i) = false) ∧ k ≤ lay ∧ lay ≤ n
def FIi (H : HM) (b s : Nat) (g : GL) (u0 u : Nat → Nat) (k lay en pl n : Nat) : Prop := FI H b s g u0 k lay en ∧ EU u0 u en n ∧ (∀ i, i < n → FR H b s (u i) (k + 1)) ∧ (∀ i, en ≤ i → i < n → s + k + 1 ≤ u i) ∧ (∀ j m w, lay ≤ j → j < pl → m < 8 → mv H b (u0 j) m = some w → ∃ i, i < n ∧ u i = w) ∧ (∀ i, lay ≤ i → i < pl → gl H g (u0 i) = false) ∧ lay ≤ pl ∧ pl ≤ en
theorem FI.up {H : HM} {b s : Nat} {g : GL} {u0 u : Nat → Nat} {k lay en n : Nat} (f : FIi H b s g u0 u k lay en en n) (dc : DC u n) (hl : lay < en) : FI H b s g u (k + 1) en n := by
  obtain ⟨⟨a1, a2, a3, a4, a5, a6, a7⟩, e, b1, b2, b3, b4, b5, b6⟩ := f
  have com : ∀ ms v, mo 511 ms → rpt H b ms s = some v → cst true ms ≤ k + 1 → ∃ i, i < n ∧ u i = v := by
    intro ms
    induction ms with
    | nil =>
      intro v m1 m2 m3
      obtain ⟨i, i1, i2⟩ := a3 v ⟨[], m1, m2, Nat.zero_le _⟩
      exact ⟨i, by have := e.1; omega, by rw [e.2 i i1]; exact i2⟩
    | cons m ms ih =>
      intro v m1 m2 m3
      have hm := mo_hd m1
      have m2 : (rpt H b ms s).bind (fun w => mv H b w m) = some v := m2
      have m3 : cst true ms + ck true m ≤ k + 1 := m3
      cases hw : rpt H b ms s with
      | none => rw [hw] at m2; cases m2
      | some w =>
        rw [hw] at m2
        have m2 : mv H b w m = some v := m2
        by_cases z : m = 8
        · subst z
          obtain ⟨i, i1, i2⟩ := ih w (mo_tl m1) hw (by omega)
          obtain ⟨j, j1, j2⟩ := dc i i1
          refine ⟨j, j1, ?_⟩
          rw [j2, i2]
          exact Option.some.inj m2
        · have c1 : ck true m = 1 := by unfold ck; rw [if_neg (by simp [z])]
          obtain ⟨i, i1, i2⟩ := a3 w ⟨ms, mo_tl m1, hw, by omega⟩
          by_cases y : i < lay
          · obtain ⟨-, y2⟩ := a1 i i1
            obtain ⟨j, j1, j2⟩ := y2 y
            have : FR H b s v k := by
              obtain ⟨ns, n1, n2, n3⟩ := (j2.tell (show m < 8 by omega) (by rw [i2]; exact m2))
              exact ⟨ns, n1, n2, by omega⟩
            obtain ⟨i', k1, k2⟩ := a3 v this
            exact ⟨i', by have := e.1; omega, by rw [e.2 i' k1]; exact k2⟩
          · exact b3 i m v (by omega) i1 (by omega) (by rw [i2]; exact m2)
  refine ⟨fun i hi => ⟨b1 i hi, fun hl => ⟨k, by omega, ?_⟩⟩, fun i h1 h2 => by have := b2 i h1 h2; omega, fun v hv => ?_, fun v j hj hv => ?_, fun i hi => ?_, by omega, e.1⟩
  · rw [e.2 i hl]; exact (a1 i hl).1
  · obtain ⟨ms, m1, m2, m3⟩ := hv
    exact com ms v m1 m2 m3
  · obtain ⟨ms, m1, m2, m3⟩ := hv
    obtain ⟨i, i1, i2⟩ := a3 v ⟨ms, m1, m2, by omega⟩
    exact ⟨i, i1, by rw [e.2 i i1]; exact i2⟩
  · rw [e.2 i hi]
    by_cases y : i < lay
    · exact a5 i y
    · exact b4 i (by omega) hi
theorem rpt_cst {H : HM} {b : Nat} (ms : List Nat) : cst true ms.reverse = cst true ms := by
  have app : ∀ (xs ys : List Nat), cst true (xs ++ ys) = cst true xs + cst true ys := by
    intro xs ys
    induction xs with
    | nil => show cst true ys = 0 + cst true ys; omega
    | cons x xs ih => show cst true (xs ++ ys) + ck true x = cst true xs + ck true x + cst true ys; omega
  induction ms with
  | nil => rfl
  | cons m ms ih =>
    rw [List.reverse_cons, app, ih]
    show cst true ms + (0 + ck true m) = cst true ms + ck true m
    omega
theorem FR_row {H : HM} {b s v c : Nat} {g : GL} (h : FR H b s v c) (hg : gl H g v = true) : ∃ ms, mo 511 ms ∧ gto H b g s ms ∧ cst true ms ≤ c := by
  obtain ⟨ms, h1, h2, h3⟩ := h
  exact ⟨ms.reverse, fun k hk => h1 k (List.mem_reverse.mp hk), ⟨v, by rw [pth_rpt, List.reverse_reverse]; exact h2, hg⟩, by rw [rpt_cst (H := H) (b := b)]; exact h3⟩
theorem row_FR {H : HM} {b s : Nat} {g : GL} {ms : List Nat} (h1 : mo 511 ms) (h2 : gto H b g s ms) : ∃ v, FR H b s v (cst true ms) ∧ gl H g v = true := by
  obtain ⟨v, v1, v2⟩ := h2
  rw [pth_rpt] at v1
  exact ⟨v, ⟨ms.reverse, fun k hk => h1 k (List.mem_reverse.mp hk), v1, by rw [rpt_cst (H := H) (b := b)]; exact Nat.le_refl _⟩, v2⟩
theorem FI.found {H : HM} {b s : Nat} {g : GL} {u : Nat → Nat} {k lay n i : Nat} (f : FI H b s g u k lay n) (h1 : lay ≤ i) (h2 : i < n) (hu : u i < 65536) (hg : gl H g (u i) = true) : SD H b 511 g true s k := by
  obtain ⟨a1, a2, a3, a4, a5, a6, a7⟩ := f
  have c := a2 i h1 h2
  obtain ⟨ms, m1, m2, m3⟩ := FR_row (a1 i h2).1 hg
  have lo : ∀ ns, mo 511 ns → gto H b g s ns → k ≤ cst true ns := fun ns n1 n2 => by
    by_cases z : k ≤ cst true ns
    · exact z
    · obtain ⟨v, v1, v2⟩ := row_FR n1 n2
      obtain ⟨j, j1, j2⟩ := a4 v _ (show cst true ns < k by omega) v1
      have := a5 j j1
      rw [j2, v2] at this
      exact absurd this (by decide)
  exact Or.inr ⟨by omega, ⟨ms, m1, m2, by have := lo ms m1 m2; omega⟩, lo⟩
theorem FI.none {H : HM} {b s : Nat} {g : GL} {u : Nat → Nat} {k n : Nat} (f : FI H b s g u k n n) (dc : DC u n) (hn : 0 < n) : SD H b 511 g true s 268435456 := by
  obtain ⟨a1, a2, a3, a4, a5, a6, a7⟩ := f
  have com : ∀ ms v, mo 511 ms → rpt H b ms s = some v → ∃ i, i < n ∧ u i = v := by
    intro ms
    induction ms with
    | nil => intro v m1 m2; exact a3 v ⟨[], m1, m2, Nat.zero_le _⟩
    | cons m ms ih =>
      intro v m1 m2
      have hm := mo_hd m1
      have m2 : (rpt H b ms s).bind (fun w => mv H b w m) = some v := m2
      cases hw : rpt H b ms s with
      | none => rw [hw] at m2; cases m2
      | some w =>
        rw [hw] at m2
        have m2 : mv H b w m = some v := m2
        obtain ⟨i, i1, i2⟩ := ih w (mo_tl m1) hw
        by_cases z : m = 8
        · subst z
          obtain ⟨j, j1, j2⟩ := dc i i1
          exact ⟨j, j1, by rw [j2, i2]; exact Option.some.inj m2⟩
        · obtain ⟨j, j1, j2⟩ := (a1 i i1).2 i1
          obtain ⟨ns, n1, n2, n3⟩ := (j2.tell (show m < 8 by omega) (by rw [i2]; exact m2))
          exact a3 v ⟨ns, n1, n2, by omega⟩
  refine SD_none (fun v ⟨ms, m1, m2⟩ => ?_)
  obtain ⟨i, i1, i2⟩ := com ms v m1 m2
  rw [← i2]; exact a5 i i1
