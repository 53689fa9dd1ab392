/-! L4: image, restore -/
theorem RB.cg {A A' : Nat → Int32} {H : HM} {s b : Nat} (e : ∀ j, j < 52 → A' j = A j) (r : RB A H s b) : RB A' H s b := by
  obtain ⟨b0, b1', b2', b3, b4, b5, b6⟩ := r
  exact ⟨by rw [e _ (by decide)]; exact b0, by rw [e _ (by decide)]; exact b1', by rw [e _ (by decide)]; exact b2', fun d f hd hf => by rw [e _ (by omega)]; exact b3 d f hd hf, fun d hd => by rw [e _ (by omega)]; exact b4 d hd, fun k hk => by rw [e _ (by omega)]; exact b5 k hk, by rw [e _ (by decide)]; exact b6⟩
theorem im_R (F : Nat) {h : Hp} {x a : Nat} {H : HM} {s b : Nat} (c : CB h x a H s b) (y : Int32) {v : Int32} {h' : Hp} (e : f_X11_image F x y h = some (v, h')) : ∀ i q, hp_R h' (x + 21) i = some q → q = a ∨ hp_R h (x + 21) i = some q := by
  unfold f_X11_image at e
  rw [cV_n c.1.t0 (cc_noImage F c.1 y)] at e
  cases hy : vi y 2 with
  | none =>
    rw [hy, if_neg nbs1] at e
    injection e with e
    injection e with _ e
    intro i q hq
    rw [← e] at hq
    exact Or.inr hq
  | some j =>
    obtain ⟨hj, rfl⟩ := vi_some hy
    have c1 : CSH (hp_sR h (x + 21) j (some a)) x := c.1.sR (k := 21) _ (fun q hq z => (by decide : ∀ q ∈ crf, q.1 ≠ 21) q hq z.1)
    have st1 : ST (hp_sR h (x + 21) j (some a)) (x + 15) s b := c.2.2.2.1.cg (by rw [hp_t_sR]) (by rw [hp_I_sR])
    obtain ⟨h2, e2, f2, -⟩ := cc_copy F (h := hp_sR h (x + 21) j (some a)) (show x + (46 + j) ≠ x + 15 by omega) (c1.it hj) st1
    have ew : ∀ (K : Hp → Option (Int32 × Hp)), wR 24 h (x + 21) (nI j) a K = K (hp_sR h (x + 21) j (some a)) := fun K => by
      unfold wR
      rw [gd_t ⟨c.1.t 21 24 (by decide), by rw [c.1.l 21 2 (by decide)]; exact inb_n hj (by decide), c.hc.t⟩, ix_n (by omega)]
    have now1 : ∀ (K : Nat → Option (Int32 × Hp)), gR 12 (hp_sR h (x + 21) j (some a)) x 5 K = K (x + 15) := fun K => c1.g0 5 15 (by decide) K
    rw [hy, if_pos (nbs0 j), c.1.g0 9 21 (by decide), c.home, ew, c1.g0 10 22 (by decide), c1.is hj, now1, cV_n (c1.it hj) e2] at e
    injection e with e
    injection e with _ e
    intro i q hq
    rw [← e, f2.1.2.2.1, sR_at] at hq
    by_cases z : i = j
    · rw [if_pos z] at hq
      injection hq with hq
      exact Or.inl hq.symm
    · rw [if_neg z] at hq
      exact Or.inr hq
theorem rs_R (F : Nat) {h : Hp} {x a : Nat} {H : HM} {s b : Nat} {ow : Nat → Nat} {hs : Nat → HM} {im : IMG} (c : CB h x a H s b) (ci : CIM h x ow hs im) (y : Int32) {v : Int32} {h' : Hp} (e : f_X11_restore F x y h = some (v, h')) : hp_R h' x 3 = some a ∨ ∃ i q, i < 2 ∧ hp_R h (x + 21) i = some q ∧ hp_R h' x 3 = some q := by
  unfold f_X11_restore at e
  rw [cV_n c.1.t0 (cc_noImage F c.1 y)] at e
  cases hy : vi y 2 with
  | none =>
    rw [hy, if_neg nbs1] at e
    injection e with e
    injection e with _ e
    rw [← e]
    exact Or.inl c.2.1
  | some i =>
    obtain ⟨hi, rfl⟩ := vi_some hy
    have ea : ∀ (kn : Option (Int32 × Hp)) (ks : Nat → Option (Int32 × Hp)), aO 24 h (x + 21) (nI i) kn ks = oc (hp_R h (x + 21) i) kn ks := fun kn ks => by
      unfold aO
      rw [gd_t ⟨c.1.t 21 24 (by decide), by rw [c.1.l 21 2 (by decide)]; exact inb_n hi (by decide)⟩, ix_n (by omega)]
    have cii := ci i hi
    rw [hy, if_pos (nbs0 i), c.1.g0 9 21 (by decide), ea] at e
    cases hr : hp_R h (x + 21) i with
    | none =>
      rw [hr] at e
      have e : some ((-5 : Int32), h) = some (v, h') := e
      injection e with e
      injection e with _ e
      rw [← e]
      exact Or.inl c.2.1
    | some q =>
      rw [hr] at e
      have e : (pR 12 h x 3 q fun h6 => gR 12 h6 x 5 fun v7 => gR 12 h6 x 10 fun v8 => aR 25 h6 v8 (nI i) fun v9 => cV 9 h6 v7 (f_X8_copy F v7 v9 h6) fun v10 h11 => gR 12 h11 x 7 fun v12 => cV 5 h11 v12 (f_X4_clear F v12 h11) fun v13 h14 => some ((0 : Int32), h14)) = some (v, h') := e
      have sti : ∃ s1 b1, ST h (x + (46 + i)) s1 b1 := by
        cases hm : im i with
        | none =>
          rw [hm] at cii
          have cii : hp_R h (x + 21) i = none := cii
          rw [hr] at cii; injection cii
        | some w =>
          rw [hm] at cii
          obtain ⟨a', -, -, -, -, d5, -⟩ := cii
          exact ⟨_, _, d5⟩
      obtain ⟨s1', b1', sti⟩ := sti
      have s1 : CSH (hp_sR h x 3 (some q)) x := c.1.sR (k := 0) (some q) (by decide)
      have st1 : ST (hp_sR h x 3 (some q)) (x + (46 + i)) s1' b1' := sti.cg (by rw [hp_t_sR]) (by rw [hp_I_sR])
      obtain ⟨h2, e2, f2, -⟩ := cc_copy F (h := hp_sR h x 3 (some q)) (show x + 15 ≠ x + (46 + i) by omega) (s1.t 15 9 (by decide)) st1
      have c2 : CSH h2 x := s1.sh f2.1
      have ecl : f_X4_clear F (x + 17) h2 = some ((), hp_sI h2 (x + 17) 0 0) := by
        unfold f_X4_clear
        rw [pI_n (c2.t 17 5 (by decide))]
      rw [pR_n c.1.t0, s1.g0 5 15 (by decide), s1.g0 10 22 (by decide), s1.is hi, cV_n (s1.t 15 9 (by decide)) e2, c2.g0 7 17 (by decide), cV_n (c2.t 17 5 (by decide)) ecl] at e
      injection e with e
      injection e with _ e
      right
      refine ⟨i, q, hi, hr, ?_⟩
      rw [← e, hp_R_sI, f2.1.2.2.1, sR_at, if_pos rfl]
section calls
variable {F x : Nat} {h : Hp} {ow : Nat → Nat} {hs : Nat → HM} {T P : Nat} {S : Stt}
theorem S_image (hF : 70000 ≤ F) (I : INV h x ow hs T P S) (y : Int32) : ∃ v h1 h2 ow' hs' T' P' S', f_X11_image F x y h = some (v, h1) ∧ f_X12_image F (x + 48) y h1 = some (v, h2) ∧ INV h2 x ow' hs' T' P' S' ∧ RMm T P h T' P' h2 ∧ KPt x h ow h1 h2 ow' := by
  obtain ⟨⟨a, p, c, r⟩, -, so⟩ := id I
  refine STEP_mk (fc := fun h => f_X11_image F x y h) (fm := fun h => f_X12_image F (x + 48) y h) I ?_
  obtain ⟨h1, e1, fo, -, ⟨n1, s1⟩, cv, ci⟩ := cc_image F c.1 r.2.2.1 y
  have iR := im_R F c.1.2.1 y e1
  obtain ⟨r1, r2, r3, r4, ⟨r5, r6⟩, r7, r8⟩ := r
  rw [c.2.1] at ci
  have k := c.1.1
  have oe := OE.rf h ow
  have e9 := (k.I fo (q := 9) (by decide) (by decide)).1
  have e13 := (k.I fo (q := 13) (by decide) (by decide)).1
  refine ⟨_, h1, (S.1, S.2.1, S.2.2.1, S.2.2.2.1, imU S.2.2.2.2.1 (sp_image y).2 (S.1.1, S.1.2.1, S.1.2.2), S.2.2.2.2.2), e1, ⟨ow, hs, T, P, [21, 46, 47], ⟨a, p, ⟨cv, c.2.1, c.2.2.fo k c.1.2.2.1 fo (by unfold OKs; decide) (by decide)⟩, r1.foA k fo (by decide), r2.fo k fo (by decide), ci, by rw [e9]; exact r4, ⟨r5.fo k fo oe (by decide), fun q hq => ?_⟩, r7.fo fo oe (by decide), by rw [e13]; exact r8⟩, oe, fo, by decide, ⟨by omega, by omega, Nat.le_refl _, Nat.le_refl _⟩⟩, ⟨so.1, fun i q hq => ?_⟩, fun ra => ?_⟩
  · refine r6 q ?_
    rcases hq with z | z | z
    · exact Or.inl z
    · rcases iR 0 q z with w | w
      · exact Or.inl w.symm
      · exact Or.inr (Or.inl w)
    · rcases iR 1 q z with w | w
      · exact Or.inl w.symm
      · exact Or.inr (Or.inr w)
  · have hq : imU S.2.2.2.2.1 (sp_image y).2 (S.1.1, S.1.2.1, S.1.2.2) i = some q := hq
    unfold imU at hq
    cases ho : (sp_image y).2 with
    | none => rw [ho] at hq; exact so.2 i q hq
    | some j =>
      rw [ho] at hq
      dsimp only at hq
      by_cases z : i = j
      · rw [if_pos z] at hq
        injection hq with hq
        rw [← hq]; exact so.1
      · rw [if_neg z] at hq; exact so.2 i q hq
  · obtain ⟨h2, e2, c2, j2, ri2⟩ := rc_image F (by omega) ra.1.1 ra.2.2.2.1 y
    refine ⟨h2, e2, (c2.j []).ro (by decide) (by decide) ?_⟩
    obtain ⟨⟨⟨s, q2, q3, q4, q5, q6⟩, pa, pk⟩, rt, rtp, ri, f1, f2⟩ := ra
    refine ⟨⟨⟨s.sh c2.1, q2, q3.cg (fun j hj => j2 j (by omega)), q4.cg (fun j hj => j2 j (by omega)) q2.1, q5, q6⟩, pa.cg (fun j hj => j2 j (by omega)), pk⟩, rt.ci c2 (by decide) (by decide), ?_, ri2, by rw [c2.2.1.2 13 (by decide)]; exact f1, by rw [c2.2.1.2 14 (by decide)]; exact f2⟩
    unfold RTp
    rw [c2.2.1.2 5 (by decide), c2.at (by decide)]
    exact rtp
theorem S_restore (hF : 70000 ≤ F) (I : INV h x ow hs T P S) (y : Int32) : ∃ v h1 h2 ow' hs' T' P' S', f_X11_restore F x y h = some (v, h1) ∧ f_X12_restore F (x + 48) y h1 = some (v, h2) ∧ INV h2 x ow' hs' T' P' S' ∧ RMm T P h T' P' h2 ∧ KPt x h ow h1 h2 ow' := by
  obtain ⟨⟨a, p, c, r⟩, -, so⟩ := id I
  refine STEP_mk (fc := fun h => f_X11_restore F x y h) (fm := fun h => f_X12_restore F (x + 48) y h) I ?_
  obtain ⟨h1, e1, fo, ix, ⟨n1, s1⟩, ci, mt⟩ := cc_restore F c.1 c.2.2 r.2.2.1 y
  have iR := rs_R F c.1.2.1 r.2.2.1 y e1
  obtain ⟨r1, r2, r3, r4, ⟨r5, r6⟩, r7, r8⟩ := r
  have k := c.1.1
  have oe := OE.rf h ow
  have e9 := (k.I fo (q := 9) (by decide) (by decide)).1
  have e13 := (k.I fo (q := 13) (by decide) (by decide)).1
  have e21 := (k.I fo (q := 21) (by decide) (by decide)).2.2
  have tp1 : CTp h1 x S.2.2.2.1.1 S.2.2.2.1.2 := by
    unfold CTp
    rw [ix, (k.I fo (q := 1) (by decide) (by decide)).1]
    exact r2
  have up : ∀ a', hp_R h1 x 3 = some a' → ∀ q, inU h1 x a' q → ∃ k, k < P ∧ q = p k := fun a' ea q hq => by
    refine r6 q ?_
    unfold inU at hq ⊢
    rw [e21] at hq
    rcases hq with z | z | z
    · rcases iR with w | ⟨i, q', i2, w1, w2⟩
      · rw [ea] at w
        injection w with w
        exact Or.inl (by rw [← w, z])
      · rw [ea] at w2
        injection w2 with w2
        rw [← z, w2]
        rcases (show i = 0 ∨ i = 1 by omega) with rfl | rfl
        · exact Or.inr (Or.inl w1)
        · exact Or.inr (Or.inr w1)
    · exact Or.inr (Or.inl z)
    · exact Or.inr (Or.inr z)
  have mk : ∀ a' (S1 : HM × Nat × Nat) (S2 : Nat × (Nat → Nat × Nat)), CV h1 x a' S1.2.1 S1.2.2 ow hs T → hs a' = S1.1 → CP h1 x a' (hs a') S1.2.1 S1.2.2 S2.1 S2.2 → CO h x ow T P h1 (S1, S2, S.2.2) := fun a' S1 S2 cv eh cp => ⟨ow, hs, T, P, [0, 15, 17], ⟨a', p, ⟨cv, eh, cp⟩, r1.foA k fo (by decide), tp1, ci, by rw [e9]; exact r4, ⟨r5.fo k fo oe (by decide), up a' cp.1.2.1⟩, r7.fo fo oe (by decide), by rw [e13]; exact r8⟩, oe, fo, by decide, ⟨by omega, by omega, Nat.le_refl _, Nat.le_refl _⟩⟩
  have rm : ∀ (S1 : HM × Nat × Nat) (S2 : Nat × (Nat → Nat × Nat)) (h2 : Hp), RA h1 (x + 48) S → CI (x + 48) [0, 1] h1 h2 → RP h2 (x + 48) S1.1 S1.2.1 S1.2.2 S2.1 S2.2 → RI h2 (x + 48) S.2.2.2.2.1 → RO h1 (x + 48) h2 (S1, S2, S.2.2) := fun S1 S2 h2 ra c2 rp ri => by
    obtain ⟨-, rt, rtp, -, f1, f2⟩ := ra
    refine (c2.j []).ro (by decide) (by decide) ⟨rp, rt.ci c2 (by decide) (by decide), ?_, ri, by rw [c2.2.1.2 13 (by decide)]; exact f1, by rw [c2.2.1.2 14 (by decide)]; exact f2⟩
    unfold RTp
    rw [c2.2.1.2 5 (by decide), c2.at (by decide)]
    exact rtp
  cases hq : (sp_restore S.2.2.2.2.1 y).2 with
  | none =>
    rw [hq] at mt
    refine ⟨_, h1, (S.1, S.2.1, S.2.2), e1, mk a S.1 S.2.1 mt.1 c.2.1 mt.2, so, fun ra => ?_⟩
    obtain ⟨h2, e2, c2, m2, ri2⟩ := rc_restore F (by omega) ra.1 ra.2.2.2.1 y
    rw [hq] at m2
    exact ⟨h2, e2, rm S.1 S.2.1 h2 ra c2 m2 ri2⟩
  | some q =>
    rw [hq] at mt
    obtain ⟨a', ea, cv, cp⟩ := mt
    have hn : HMn q.1 := by
      unfold sp_restore at hq
      cases hv : vb y 0 1 with
      | none => rw [hv] at hq; injection hq
      | some i =>
        rw [hv] at hq
        dsimp only at hq
        cases hm : S.2.2.2.2.1 i with
        | none => rw [hm] at hq; injection hq
        | some w =>
          rw [hm] at hq
          injection hq with hq
          rw [← hq]
          exact so.2 i w hm
    refine ⟨_, h1, (q, (0, S.2.1.2), S.2.2), e1, mk a' q (0, S.2.1.2) cv ea cp, ⟨hn, so.2⟩, fun ra => ?_⟩
    obtain ⟨h2, e2, c2, m2, ri2⟩ := rc_restore F (by omega) ra.1 ra.2.2.2.1 y
    rw [hq] at m2
    exact ⟨h2, e2, rm q (0, S.2.1.2) h2 ra c2 m2 ri2⟩
end calls
