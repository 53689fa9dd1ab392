/-! L3, the class: told, whom, surely -/
theorem i64_lt0 {v : Int64} : v < 0 ↔ v.toInt < 0 := Int64.lt_iff_toInt_lt
theorem cc_refT_r (F : Nat) {h : Hp} {x a tq N : Nat} {H : HM} {s b : Nat} {ce : Nat → Int64} (c : CB h x a H s b) (ty : TY h tq N ce) (z w : Int32) : ∀ r k n, k + r = N → r < n → f_X11_refusalOfTold_55 F n x z w tq (nI k) h = some ((if allf H ce k r = true then (match gsets H z w with | none => -3 | some _ => 0) else -3), h) := by
  have ty' := ty
  obtain ⟨tc, r1, r2, r3, r4, r5, r6, r7⟩ := ty'
  have f4 := c.hc.f4
  intro r
  induction r with
  | zero =>
    intro k n hk hn
    obtain ⟨n, rfl⟩ : ∃ j, n = j + 1 := ⟨n - 1, by omega⟩
    show f_X11_refusalOfTold_55_b F (f_X11_refusalOfTold_55 F n) x z w tq (nI k) h = _
    unfold f_X11_refusalOfTold_55_b
    rw [gI_n r1, r5, if_pos (nI_le (by omega) (by omega)), cc_sets F c z w (fun h => some ((-3 : Int32), h)) (fun h => some (0, h)), if_pos (show allf H ce k 0 = true from rfl)]
    cases gsets H z w <;> rfl
  | succ r ih =>
    intro k n hk hn
    obtain ⟨n, rfl⟩ : ∃ j, n = j + 1 := ⟨n - 1, by omega⟩
    show f_X11_refusalOfTold_55_b F (f_X11_refusalOfTold_55 F n) x z w tq (nI k) h = _
    unfold f_X11_refusalOfTold_55_b
    have e : allf H ce k (r + 1) = ((decide (0 ≤ (ce k).toInt) && decide ((ce k).toInt < hm_f H)) && allf H ce (k + 1) r) := rfl
    rw [gI_n r1, r5, if_neg (nI_ge (by omega) (by omega)), cV_n r1 (cc_at F ty (show k < N by omega)), cV_n r1 (cc_at F ty (show k < N by omega)), c.home, c.hc.fs, i64_nI (by omega), nI_1, ih (k + 1) n (by omega) (by omega), e]
    by_cases z1 : ce k < 0
    · rw [if_pos z1, decide_eq_false (show ¬ 0 ≤ (ce k).toInt from fun y => by have := i64_lt0.mp z1; omega), Bool.false_and, Bool.false_and, if_neg (by decide)]
    · rw [if_neg z1, decide_eq_true (show 0 ≤ (ce k).toInt by by_cases y : (ce k).toInt < 0; exact absurd (i64_lt0.mpr y) z1; omega), Bool.true_and]
      by_cases z2 : ce k < lN (hm_f H)
      · rw [if_pos z2, decide_eq_true ((l_lt (by omega)).mp z2), Bool.true_and]
      · rw [if_neg z2, decide_eq_false (fun y => z2 ((l_lt (by omega)).mpr y)), Bool.false_and, if_neg (by decide)]
theorem cc_refT (F : Nat) (hF : 100 ≤ F) {h : Hp} {x a : Nat} {H : HM} {s b : Nat} (c : CB h x a H s b) {tr : TRY} (rt : CTR h x tr) (y z w : Int32) : f_X11_refusalOfTold F x y z w h = some (tdc (tdk H tr y z w), h) := by
  unfold f_X11_refusalOfTold tdk tra trc
  rw [cV_n c.1.t0 (cc_noTray F c.1 y)]
  cases hy : vi y 4 with
  | none => rw [if_neg nbs1]; rfl
  | some i =>
    obtain ⟨hi, rfl⟩ := vi_some hy
    have tt := c.1.tt hi
    rw [if_pos (nbs0 i), c.1.g0 8 20 (by decide), c.1.tray hi, show (some i).bind tr = tr i from rfl]
    cases hq : tr i with
    | none => rw [cV_n tt.1 (cc_miss1 F rt c.1 hi hq), if_neg (by decide)]; rfl
    | some q =>
      have ty := rt.ty c.1 hi hq
      have ty' := ty
      obtain ⟨tc, r1, r2, r3, r4, r5, r6, r7⟩ := ty'
      rw [cV_n tt.1 (cc_miss0 F ty), if_pos rfl, gI_n r1, r5, gI_n r1, r5]
      dsimp only
      by_cases z1 : 1 ≤ q.2.1 ∧ q.2.1 ≤ 10
      · rw [if_pos z1, if_neg (show ¬ nI q.2.1 < 1 from fun e => absurd ((nI_ltI (b := 1) (by omega) (by decide)).mp e) (by omega)), if_pos (show nI q.2.1 ≤ 10 from nI_le (b := 10) z1.2 (by decide)), show f_X11_refusalOfTold_55 F F x z w (x + (38 + 2 * i)) 0 h = _ from cc_refT_r F c ty z w q.2.1 0 F (by omega) (by omega)]
        by_cases z2 : allf H q.2.2 0 q.2.1 = true
        · rw [if_pos z2, if_pos z2]; cases gsets H z w <;> rfl
        · rw [if_neg z2, if_neg z2]; rfl
      · rw [if_neg z1]
        by_cases z2 : q.2.1 < 1
        · rw [if_pos (show nI q.2.1 < 1 from nI_lt (b := 1) z2 (by decide))]; rfl
        · rw [if_neg (show ¬ nI q.2.1 < 1 from fun e => z2 ((nI_ltI (b := 1) (by omega) (by decide)).mp e)), if_neg (show ¬ nI q.2.1 ≤ 10 from nI_ge (a := 10) (by omega) (by omega))]; rfl
theorem cc_ask (F : Nat) (hF : 70000 ≤ F) {h : Hp} {x a s b : Nat} {ow : Nat → Nat} {hs : Nat → HM} {T : Nat} (c : CV h x a s b ow hs T) {tr : TRY} (rt : CTR h x tr) {i so N A C : Nat} {ce : Nat → Int64} (hi : i < 4) (hq : tr i = some (so, N, ce)) (hN : N ≤ 10) (hf : FTS (hs a) ce N) (hA : A < 64) (hC : C < 64) : ∃ h', f_X10_ask F (x + 35) a (x + 15) (x + (38 + 2 * i)) (nI A) (nI C) h = some ((), h') ∧ RC h x a s b ow hs T [35] h' ∧ CTR h' x tr ∧ WI h' (x + 35) N (itr (hs a) s b (N, ce, A, C)) (2 ^ N) := by
  have t := c.2.1.1.t 35 11 (by decide)
  have k35 := c.1.1 35 (by decide) (by decide)
  have st := c.2.1.2.2.2.1
  have ty := rt.ty c.2.1.1 hi hq
  obtain ⟨q, hqq⟩ : ∃ q, q = x + 35 := ⟨_, rfl⟩
  rw [← hqq] at t k35 ⊢
  have n15 : x + 15 ≠ q := by omega
  let h1 := hp_sR h q 4 (some a)
  let h2 := hp_sI h1 q 5 (nI b)
  let h3 := hp_sR h2 q 6 (some (x + (38 + 2 * i)))
  let h4 := hp_sI h3 q 7 (nI A)
  let h5 := hp_sI h4 q 8 (nI C)
  let h6 := hp_sI h5 q 0 0
  let h7 := hp_sI h6 q 1 0
  let h8 := hp_sI h7 q 2 0
  let h9 := hp_sI h8 q 3 0
  let Wp : Nat → Prop := fun y => y = q
  have f9 : FW Wp h h9 := (((((((((FW.sR (W := Wp) (h := h) (a := q) (k := 4) (v := some a) rfl).tr (FW.sI (W := Wp) (h := h1) (a := q) (k := 5) (v := nI b) rfl) (fun _ _ z => z)).tr (FW.sR (W := Wp) (h := h2) (a := q) (k := 6) (v := some (x + (38 + 2 * i))) rfl) (fun _ _ z => z)).tr (FW.sI (W := Wp) (h := h3) (a := q) (k := 7) (v := nI A) rfl) (fun _ _ z => z)).tr (FW.sI (W := Wp) (h := h4) (a := q) (k := 8) (v := nI C) rfl) (fun _ _ z => z)).tr (FW.sI (W := Wp) (h := h5) (a := q) (k := 0) (v := 0) rfl) (fun _ _ z => z)).tr (FW.sI (W := Wp) (h := h6) (a := q) (k := 1) (v := 0) rfl) (fun _ _ z => z)).tr (FW.sI (W := Wp) (h := h7) (a := q) (k := 2) (v := 0) rfl) (fun _ _ z => z)).tr (FW.sI (W := Wp) (h := h8) (a := q) (k := 3) (v := 0) rfl) (fun _ _ z => z))
  have fo9 : FO [35] ow h h9 := f9.mono (fun y _ w => by
    have w : y = q := w
    rw [w, k35.1]; decide)
  have c9 : CV h9 x a s b ow hs T := c.fo fo9 (by unfold OKv OKs; decide)
  have rt9 : CTR h9 x tr := rt.fo c.1 fo9 (by decide)
  have ty9 := rt9.ty c9.2.1.1 hi hq
  have I9 : ∀ k, hp_I h9 q k = if k = 3 then 0 else if k = 2 then 0 else if k = 1 then 0 else if k = 0 then 0 else if k = 8 then nI C else if k = 7 then nI A else if k = 5 then nI b else hp_I h q k := fun k => by
    show hp_I (hp_sI (hp_sI (hp_sI (hp_sI h5 q 0 0) q 1 0) q 2 0) q 3 0) q k = _
    rw [sI_at, sI_at, sI_at, sI_at]
    show (if k = 3 then (0 : Int32) else if k = 2 then 0 else if k = 1 then 0 else if k = 0 then 0 else hp_I (hp_sI (hp_sI h3 q 7 (nI A)) q 8 (nI C)) q k) = _
    rw [sI_at, sI_at]
    show (if k = 3 then (0 : Int32) else if k = 2 then 0 else if k = 1 then 0 else if k = 0 then 0 else if k = 8 then nI C else if k = 7 then nI A else hp_I (hp_sI h1 q 5 (nI b)) q k) = _
    rw [sI_at]; rfl
  have wk : WK h9 q a (x + (38 + 2 * i)) (hs a) b N ce A C := by
    refine ⟨⟨t, ?_, ?_⟩, c9.2.1.hc, ty9, ⟨?_, ?_, ?_⟩, c.2.1.b10, hA, hC⟩
    · show hp_R (hp_sR h2 q 6 _) q 4 = _
      rw [sR_at, if_neg (by decide)]
      show hp_R (hp_sR h q 4 (some a)) q 4 = _
      rw [sR_at, if_pos rfl]
    · show hp_R (hp_sR h2 q 6 _) q 6 = _
      rw [sR_at, if_pos rfl]
    · rw [I9]; rfl
    · rw [I9]; rfl
    · rw [I9]; rfl
  have wi0 : WI h9 q N (itr (hs a) s b (N, ce, A, C)) (2 ^ N * 0) := by
    rw [Nat.mul_zero]
    exact ⟨by rw [I9]; rfl, Or.inl ⟨fun r hr => absurd hr (by omega), by rw [I9]; rfl, by rw [I9]; rfl⟩⟩
  obtain ⟨h', e', f', wk', wi'⟩ := cc_go F (by omega) hN hf N 16 0 h9 s 0 0 (by omega) (by omega) c.2.1.ok wk wi0 (by omega) (fun j _ _ => rfl) (by decide) (fun i hi => absurd hi (by omega))
  rw [Nat.mul_zero, Nat.zero_add] at wi'
  unfold f_X10_ask f_X10_go
  rw [pR_n t, gI_n (show hp_t h1 (x + 15) = 9 from st.1), show hp_I h1 (x + 15) 1 = nI b from st.2.2, pI_n (show hp_t h1 q = 11 from t), pR_n (show hp_t h2 q = 11 from t), pI_n (show hp_t h3 q = 11 from t), pI_n (show hp_t h4 q = 11 from t), pI_n (show hp_t h5 q = 11 from t), pI_n (show hp_t h6 q = 11 from t), pI_n (show hp_t h7 q = 11 from t), pI_n (show hp_t h8 q = 11 from t)]
  show ∃ h', (gI 9 h9 (x + 15) 0 fun v11 => cV 11 h9 q (f_grp_X10_go F 16 0 q v11 0 0 h9) fun v12 h13 => some ((), h13)) = _ ∧ _
  have st9 := c9.2.1.2.2.2.1
  rw [gI_n st9.1, st9.2.1, cV_n (show hp_t h9 q = 11 from t) (show f_grp_X10_go F 16 0 q (nI (cs s)) 0 0 h9 = some ((), h') from e')]
  have fo' : FO [35] ow h9 h' := (f'.f3 (q := q) (P := q)).fw.mono (fun y _ w => by
    rcases w with w | w | w <;> (rw [w, k35.1]; decide))
  have n' : hp_n h' = hp_n h := f'.1.2.2.2.1
  have s' : hp_s h' = hp_s h := f'.1.2.2.2.2.1
  exact ⟨h', rfl, ⟨ow, T, c9.fo fo' (by unfold OKv OKs; decide), OE.rf _ _, fo9.tr (OE.rf _ _) fo', ⟨by rw [n']; exact Nat.le_refl _, by rw [s']; exact Nat.le_refl _, Nat.le_refl _⟩⟩, rt9.fo c9.1 fo' (by decide), wi'⟩
theorem cc_told (F : Nat) (hF : 70000 ≤ F) {h : Hp} {x a s b : Nat} {ow : Nat → Nat} {hs : Nat → HM} {T : Nat} (c : CV h x a s b ow hs T) {tr : TRY} (rt : CTR h x tr) (y z w : Int32) : ∃ h', f_X11_told F x y z w h = some (sp_told (hs a) s b tr y z w, h') ∧ RC h x a s b ow hs T [35] h' ∧ CTR h' x tr := by
  unfold f_X11_told sp_told
  rw [cV_n c.2.1.1.t0 (cc_refT F (by omega) c.2.1 rt y z w)]
  cases hk : tdk (hs a) tr y z w with
  | inl k => rw [if_neg (show ¬ tdc (Sum.inl k) = 0 from tdk_ne hk)]; exact ⟨h, rfl, RC.rf c _, rt⟩
  | inr p =>
    obtain ⟨p1, p2, p3, rfl, rfl, p6, p7, i, so, hi, rfl, ht⟩ := tdk_inr c.2.1.hc.d6 hk
    obtain ⟨h', e, rc, rt', wi⟩ := cc_ask F hF c rt hi ht p2 p3 p6 p7
    rw [if_pos (show tdc (Sum.inr p) = 0 from rfl), c.2.1.1.g0 16 35 (by decide), c.2.1.home, c.2.1.now, c.2.1.1.g0 8 20 (by decide), c.2.1.1.tray hi, cV_n (c.2.1.1.t 35 11 (by decide)) e, rc.cb.1.g0 16 35 (by decide), gI_n (rc.cb.1.t 35 11 (by decide)), wi.1]
    exact ⟨h', rfl, rc, rt'⟩
