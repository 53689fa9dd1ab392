/-! L3: the calls that do deeds, in the reference -/
/-- house, stand, bond, and what can be undone -/
def RP (h : Hp) (m : Nat) (H : HM) (s b n : Nat) (ps : Nat → Nat × Nat) : Prop := RS h m H s b ∧ PA (hp_I h (m + 1)) n ps ∧ ∀ i, i < n → STok H (ps i).1 ∧ (ps i).2 < 10
theorem RP.ci {h h' : Hp} {m : Nat} {H : HM} {s b n : Nat} {ps : Nat → Nat × Nat} {ks : List Nat} (r : RP h m H s b n ps) (c : CI m ks h h') (hk : 1 ∉ ks) : RP h' m H s b n ps := ⟨r.1.ci c hk, by rw [c.at hk]; exact r.2.1, r.2.2⟩
theorem PA.cg {A A' : Nat → Int32} {n : Nat} {ps : Nat → Nat × Nat} (h : PA A n ps) (hA : ∀ j, 52 ≤ j ∧ j < 143 → A' j = A j) : PA A' n ps := by
  obtain ⟨h1, h2, h3⟩ := h
  refine ⟨by rw [hA 52 (by omega)]; exact h1, h2, fun i hi => ⟨fun k hk => ?_, ?_⟩⟩
  · rw [hA _ (by omega)]; exact (h3 i hi).1 k hk
  · rw [hA _ (by omega)]; exact (h3 i hi).2
/-- a call did some: the stand was kept, the deeds done, what was is noted -/
theorem RP.note {h0 h : Hp} {m : Nat} {H : HM} {s b s' b' n : Nat} {ps : Nat → Nat × Nat} (F : Nat) (hF : 100 ≤ F) (r0 : RP h0 m H s b n ps) (r : RS h m H s' b') (hA : ∀ j, (52 ≤ j ∧ j < 143) → hp_I h (m + 1) j = hp_I h0 (m + 1) j) (hw : ∀ j, j < 9 → hp_I h (m + 7) j = hp_I h0 (m + 1) (43 + j)) : ∃ h', f_X12_notes F m h = some ((), h') ∧ CI m [1] h h' ∧ RP h' m H s' b' (pun n) (pus n ps (s, b)) ∧ ∀ j, (j < 52 ∨ 143 ≤ j) → hp_I h' (m + 1) j = hp_I h (m + 1) j := by
  obtain ⟨rs, rp, rq⟩ := r0
  obtain ⟨h', e, c, p, w⟩ := rc_notes F hF r.1 (rp.cg hA) (s := s) (b := b) (fun k hk => by rw [hw k (by omega)]; exact rs.2.2.1.2.2.2.2.2.1 k hk) (by rw [hw 8 (by omega)]; exact rs.2.2.1.2.2.2.2.2.2)
  refine ⟨h', e, c, ⟨?_, p, fun i hi => ?_⟩, w⟩
  · refine r.upd (c.1.SR r.1) (fun k hk => w k (by omega)) (fun k hk => ?_) ?_ r.2.2.2.2.1 r.2.2.2.2.2
    · rw [w _ (by omega)]; exact r.2.2.1.2.2.2.2.2.1 k hk
    · rw [w _ (by omega)]; exact r.2.2.1.2.2.2.2.2.2
  · have hn := rp.2.1
    unfold pus
    unfold pun at hi
    by_cases q : n = 10
    · rw [if_pos q] at hi ⊢
      by_cases q9 : i = 9
      · rw [if_pos q9]; exact ⟨rs.2.2.2.2.1, rs.2.2.2.2.2⟩
      · rw [if_neg q9]; exact rq (i + 1) (by omega)
    · rw [if_neg q] at hi ⊢
      by_cases q9 : i = n
      · rw [if_pos q9]; exact ⟨rs.2.2.2.2.1, rs.2.2.2.2.2⟩
      · rw [if_neg q9]; exact rq i (by omega)
theorem m10 {k : Nat} (hk : k < 100) : (-10 : Int32) - nI k = -(nI (10 + k)) := by
  have : ∀ k, k < 100 → (-10 : Int32) - nI k = -(nI (10 + k)) := by decide +kernel
  exact this k hk
/-- tell: the answer, the new stand -/
def sp_tell (H : HM) (s b : Nat) (x y : Int32) : Int32 × Option Nat := match vi x 2, vi y (hm_f H) with
  | some t, some f => (match tld H b s t f with
    | some s' => (nI (dg s' (4 * (1 - t) + f)), some s')
    | none => (-13, none))
  | _, _ => (-11, none)
def aft (s b : Nat) (o : Option Nat) : Nat := o.getD s
theorem vi_lt {x : Int32} {n : Nat} : vi x n = if 0 ≤ x.toInt ∧ x.toInt < n then some x.toInt.toNat else none := rfl
theorem rc_tell (F : Nat) (hF : 2000 ≤ F) {m : Nat} {h : Hp} {H : HM} {s b n : Nat} {ps : Nat → Nat × Nat} (r : RP h m H s b n ps) (x y : Int32) : ∃ h', f_X12_tell F m x y h = some ((sp_tell H s b x y).1, h') ∧ CI m [0, 1, 5, 6, 7] h h' ∧ (match (sp_tell H s b x y).2 with
    | none => RP h' m H s b n ps
    | some s' => RP h' m H s' b (pun n) (pus n ps (s, b))) ∧ ∀ j, 143 ≤ j → hp_I h' (m + 1) j = hp_I h (m + 1) j := by
  have h4 := r.1.f4
  have r1 : RP (hp_sI h m 0 0) m H s b n ps := r.ci CI.f0 (by decide)
  have c0 : CI m [0, 1, 5, 6, 7] h (hp_sI h m 0 0) := (CI.f0).mono (by decide)
  obtain ⟨h2, e2, c2⟩ := rc_whyTellL F hF r1.1 x.toInt64 y.toInt64
  have r2 : RP h2 m H s b n ps := r1.ci c2 (by decide)
  have c02 := c0.tr (c2.mono (by decide) : CI m [0, 1, 5, 6, 7] _ _)
  rw [i64_toInt, i64_toInt] at e2
  unfold f_X12_tell sp_tell
  rw [pI_n r.1.1.1, cV_n r1.1.1.1 e2]
  have bad : ¬ ((0 ≤ x.toInt ∧ x.toInt ≤ 1) ∧ 0 ≤ y.toInt ∧ y.toInt < hm_f H) → ∀ o : Int32 × Option Nat, o = (-11, none) → ∃ h', (if nI (if (0 ≤ x.toInt ∧ x.toInt ≤ 1) ∧ 0 ≤ y.toInt ∧ y.toInt < hm_f H then (if tel H b s x.toInt.toNat y.toInt.toNat = none then 3 else 0) else 1) = 0 then (cV 13 h2 m (f_X12_keeps F m h2) fun v5 h6 => cV 13 h6 m (f_X12_standNow F m h6) fun v7 h8 => cV 13 h8 m (f_X12_toldTo F m v7 x y h8) fun v9 h10 => cV 13 h10 m (f_X12_isStand F m v9 h10) fun v11 h12 => cV 13 h12 m (f_X12_notes F m h12) fun v13 h14 => gR 13 h14 m 1 fun v15 => aI 20 h14 v15 (43 + 4 * (1 - x) + y) fun v16 => some (v16, h14)) else some (-10 - nI (if (0 ≤ x.toInt ∧ x.toInt ≤ 1) ∧ 0 ≤ y.toInt ∧ y.toInt < hm_f H then (if tel H b s x.toInt.toNat y.toInt.toNat = none then 3 else 0) else 1), h2)) = some (o.1, h') ∧ CI m [0, 1, 5, 6, 7] h h' ∧ (match o.2 with
    | none => RP h' m H s b n ps
    | some s' => RP h' m H s' b (pun n) (pus n ps (s, b))) ∧ ∀ j, 143 ≤ j → hp_I h' (m + 1) j = hp_I h (m + 1) j := by
    intro q o ho
    subst ho
    rw [if_neg q, if_neg (by decide)]
    exact ⟨h2, by rfl, c02, r2, fun j _ => by rw [c2.at (by decide), (CI.f0 (m := m) (v := 0) (k := 0) (h := h)).at (by decide)]⟩
  cases hx : vi x 2 with
  | none => exact bad (fun z => vi_none hx (by omega)) _ rfl
  | some t =>
    obtain ⟨t1, t2⟩ := vi_some hx
    cases hy : vi y (hm_f H) with
    | none => exact bad (fun z => vi_none hy z.2) _ rfl
    | some f =>
      obtain ⟨f1, f2⟩ := vi_some hy
      clear bad
      dsimp only
      have ex : x.toInt = t := by rw [t2, nI_toInt (by omega)]
      have ey : y.toInt = f := by rw [f2, nI_toInt (by omega)]
      rw [if_pos (show (0 ≤ x.toInt ∧ x.toInt ≤ 1) ∧ 0 ≤ y.toInt ∧ y.toInt < hm_f H by omega), ex, ey, Int.toNat_natCast, Int.toNat_natCast]
      unfold tld
      cases ht : tel H b s t f with
      | none =>
        rw [if_pos rfl, if_neg (by decide)]
        exact ⟨h2, by rfl, c02, r2, fun j _ => by rw [c2.at (by decide), (CI.f0 (m := m) (v := 0) (k := 0) (h := h)).at (by decide)]⟩
      | some c =>
        have hc4 : c < 4 := r.1.2.1.2.2.2.2.1 _ _ _ _ _ _ ht
        rw [if_neg (show ¬ (some c : Option Nat) = none by simp), if_pos (show nI 0 = 0 from rfl)]
        obtain ⟨h3, e3, c3, w3⟩ := rc_keeps F (by omega) r2.1.1
        have r3 : RP h3 m H s b n ps := r2.ci c3 (by decide)
        obtain ⟨h5, e5, c5⟩ := rc_toldTo F hF r3.1.1 r3.1.2.1 r3.1.2.2.1 r3.1.2.2.2.1 r3.1.2.2.2.2.2 r3.1.2.2.2.2.1 t1 f1 ht
        have r5 : RP h5 m H s b n ps := r3.ci c5 (by decide)
        have ok := tos_ok r.1.2.2.2.2.1 t1 f1 h4 hc4
        obtain ⟨h6, e6, c6, r6, w6⟩ := r5.1.isStand F (by omega) ok
        obtain ⟨h7, e7, c7, r7, w7⟩ := RP.note F (by omega) r5 r6 (fun j hj => w6 j (by omega)) (fun j hj => by
          rw [c6.at (by decide), c5.at (by decide), w3 j hj]
          rw [c5.at (by decide), c3.at (by decide)])
        rw [cV_n r2.1.1.1 e3, cV_n r3.1.1.1 (r3.1.stand F (by omega)), t2, f2, cV_n r3.1.1.1 e5, cV_n r5.1.1.1 e6, cV_n r6.1.1 e7, r7.1.1.g 1 1 (by decide) rfl, one_sub t1, r7.1.1.a 1 (43 + 4 * (1 - t) + f) (i43 _ _) (by decide) (show _ < 3132 by omega), r7.1.ageIn (show 1 - t < 2 by omega) (by omega)]
        refine ⟨h7, rfl, (((c02.tr (c3.mono (by decide))).tr (c5.mono (by decide))).tr (c6.mono (by decide))).tr (c7.mono (by decide)), r7, fun j hj => ?_⟩
        rw [w7 j (by omega), w6 j (by omega), c5.at (by decide), c3.at (by decide), c2.at (by decide), (CI.f0 (m := m) (v := 0) (k := 0) (h := h)).at (by decide)]
