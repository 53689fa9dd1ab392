/-! L3, the class: bonds, attempt -/
theorem l_rem {k : Nat} (hk : k < 20) : lN k - lN k / 10 * 10 = lN (k % 10) := l10 k hk
theorem i64_m1 {v : Int64} : v = -1 ↔ v.toInt = -1 := by
  constructor
  · intro h; rw [h]; rfl
  · intro h; exact Int64.toInt_inj.mp (by rw [h]; rfl)
theorem cc_tod (F : Nat) {h : Hp} {x a : Nat} {H : HM} {s b : Nat} (c : CB h x a H s b) (v : Int64) : f_X11_isTellingOrDay F x v h = some (nI (b2 (istb H v.toInt)), h) := by
  have f4 := c.hc.f4
  have yes : (v.toInt = -1 ∨ ist H v.toInt) → some ((1 : Int32), h) = some (nI (b2 (istb H v.toInt)), h) := fun z => by rw [istb_e.mpr z]; rfl
  have no : ¬ (v.toInt = -1 ∨ ist H v.toInt) → some ((0 : Int32), h) = some (nI (b2 (istb H v.toInt)), h) := fun z => by
    cases y : istb H v.toInt with
    | true => exact absurd (istb_e.mp y) z
    | false => rfl
  unfold f_X11_isTellingOrDay
  by_cases z1 : v = -1
  · rw [if_pos z1]; exact yes (Or.inl (i64_m1.mp z1))
  · have z1' : ¬ v.toInt = -1 := fun y => z1 (i64_m1.mpr y)
    rw [if_neg z1]
    by_cases z2 : v < 0
    · rw [if_pos z2]
      have := i64_lt0.mp z2
      exact no (fun y => by rcases y with y | y; exact z1' y; have := y.1; omega)
    · have z2' : 0 ≤ v.toInt := by
        by_cases y : v.toInt < 0
        · exact absurd (i64_lt0.mpr y) z2
        · omega
      rw [if_neg z2]
      by_cases z3 : (20 : Int64) ≤ v
      · rw [if_pos z3]
        have := (l_le (n := 20) (by decide)).mp z3
        exact no (fun y => by rcases y with y | y; exact z1' y; have := y.2.1; omega)
      · have z3' : v.toInt < 20 := by
          by_cases y : (20 : Nat) ≤ v.toInt
          · exact absurd ((l_le (n := 20) (by decide)).mpr y) z3
          · omega
        obtain ⟨k, hk, rfl⟩ : ∃ k, k < 20 ∧ v = lN k := ⟨v.toInt.toNat, by omega, l64 z2' (by omega)⟩
        have e1 : (lN k).toInt = k := lN_toInt (by omega)
        rw [if_neg z3, c.home, c.hc.fs, l_rem hk, i64_nI (by omega)]
        by_cases z4 : k % 10 < hm_f H
        · rw [if_neg (fun y => absurd ((lN_le (by omega) (by omega)).mp y) (by omega))]
          exact yes (Or.inr ⟨by omega, by omega, by rw [e1, Int.toNat_natCast]; exact z4⟩)
        · rw [if_pos ((lN_le (by omega) (by omega)).mpr (by omega))]
          exact no (fun y => by rcases y with y | y; exact z1' y; have := y.2.2; rw [e1, Int.toNat_natCast] at this; exact z4 this)
theorem cc_refB_r (F : Nat) {h : Hp} {x a tq N : Nat} {H : HM} {s b : Nat} {ce : Nat → Int64} (c : CB h x a H s b) (ty : TY h tq N ce) (z w : Int32) : ∀ r k n, k + r = N → r < n → f_X11_refusalOfBonds_55 F n x z w tq (nI k) h = some ((if allt H ce k r = true then (match gsets H z w with | none => -3 | some _ => 0) else -3), h) := by
  have ty' := ty
  obtain ⟨tc, r1, r2, r3, r4, r5, r6, r7⟩ := ty'
  have f4 := c.hc.f4
  intro r
  induction r with
  | zero =>
    intro k n hk hn
    obtain ⟨n, rfl⟩ : ∃ j, n = j + 1 := ⟨n - 1, by omega⟩
    show f_X11_refusalOfBonds_55_b F (f_X11_refusalOfBonds_55 F n) x z w tq (nI k) h = _
    unfold f_X11_refusalOfBonds_55_b
    rw [gI_n r1, r5, if_pos (nI_le (by omega) (by omega)), cc_sets F c z w (fun h => some ((-3 : Int32), h)) (fun h => some (0, h)), if_pos (show allt H ce k 0 = true from rfl)]
    cases gsets H z w <;> rfl
  | succ r ih =>
    intro k n hk hn
    obtain ⟨n, rfl⟩ : ∃ j, n = j + 1 := ⟨n - 1, by omega⟩
    show f_X11_refusalOfBonds_55_b F (f_X11_refusalOfBonds_55 F n) x z w tq (nI k) h = _
    unfold f_X11_refusalOfBonds_55_b
    have e : allt H ce k (r + 1) = (istb H (ce k).toInt && allt H ce (k + 1) r) := rfl
    rw [gI_n r1, r5, if_neg (nI_ge (by omega) (by omega)), cV_n r1 (cc_at F ty (show k < N by omega)), cV_n c.1.t0 (cc_tod F c (ce k)), nI_1, ih (k + 1) n (by omega) (by omega), e]
    cases istb H (ce k).toInt with
    | true => rw [if_neg (show ¬ nI (b2 true) = 0 by decide), Bool.true_and]
    | false => rw [if_pos (show nI (b2 false) = 0 by decide), Bool.false_and, if_neg (by decide)]
theorem cc_refB (F : Nat) (hF : 100 ≤ F) {h : Hp} {x a : Nat} {H : HM} {s b : Nat} (c : CB h x a H s b) {tr : TRY} (rt : CTR h x tr) (y z w : Int32) : f_X11_refusalOfBonds F x y z w h = some (tdc (bdk H tr y z w), h) := by
  unfold f_X11_refusalOfBonds bdk tra trc
  rw [cV_n c.1.t0 (cc_noTray F c.1 y)]
  cases hy : vi y 4 with
  | none => rw [if_neg nbs1]; rfl
  | some i =>
    obtain ⟨hi, rfl⟩ := vi_some hy
    have tt := c.1.tt hi
    rw [if_pos (nbs0 i), c.1.g0 8 20 (by decide), c.1.tray hi, show (some i).bind tr = tr i from rfl]
    cases hq : tr i with
    | none => rw [cV_n tt.1 (cc_miss1 F rt c.1 hi hq), if_neg (by decide)]; rfl
    | some q =>
      have ty := rt.ty c.1 hi hq
      have ty' := ty
      obtain ⟨tc, r1, r2, r3, r4, r5, r6, r7⟩ := ty'
      rw [cV_n tt.1 (cc_miss0 F ty), if_pos rfl, gI_n r1, r5, gI_n r1, r5]
      dsimp only
      by_cases z1 : 1 ≤ q.2.1 ∧ q.2.1 ≤ 12
      · rw [if_pos z1, if_neg (show ¬ nI q.2.1 < 1 from fun e => absurd ((nI_ltI (b := 1) (by omega) (by decide)).mp e) (by omega)), if_pos (show nI q.2.1 ≤ 12 from nI_le (b := 12) z1.2 (by decide)), show f_X11_refusalOfBonds_55 F F x z w (x + (38 + 2 * i)) 0 h = _ from cc_refB_r F c ty z w q.2.1 0 F (by omega) (by omega)]
        by_cases z2 : allt H q.2.2 0 q.2.1 = true
        · rw [if_pos z2, if_pos z2]; cases gsets H z w <;> rfl
        · rw [if_neg z2, if_neg z2]; rfl
      · rw [if_neg z1]
        by_cases z2 : q.2.1 < 1
        · rw [if_pos (show nI q.2.1 < 1 from nI_lt (b := 1) z2 (by decide))]; rfl
        · rw [if_neg (show ¬ nI q.2.1 < 1 from fun e => z2 ((nI_ltI (b := 1) (by omega) (by decide)).mp e)), if_neg (show ¬ nI q.2.1 ≤ 12 from nI_ge (a := 12) (by omega) (by omega))]; rfl
theorem rnT_n (H : HM) (ce : Nat → Int64) : ∀ r k s b, (rnT H ce k r s b).1 ≤ r ∧ ((rnT H ce k r s b).1 = r ↔ (rnT H ce k r s b).2.1 = 0) := by
  intro r
  induction r with
  | zero => intro k s b; exact ⟨Nat.le_refl _, ⟨fun _ => rfl, fun _ => rfl⟩⟩
  | succ r ih =>
    intro k s b
    rw [rnT]
    by_cases q : dwhy H s b (ce k).toInt = 0
    · rw [if_pos q]
      have := ih (k + 1) (dact H s b (ce k).toInt).1 (dact H s b (ce k).toInt).2
      refine ⟨by show _ + 1 ≤ _; omega, ?_⟩
      show _ + 1 = r + 1 ↔ _
      rw [← this.2]
      omega
    · rw [if_neg q]
      refine ⟨Nat.zero_le _, ?_⟩
      show 0 = r + 1 ↔ dwhy H s b (ce k).toInt = 0
      exact ⟨fun z => by omega, fun z => absurd z q⟩
theorem cc_bondBits_r (F : Nat) (hF : 100 ≤ F) {h0 : Hp} {x a : Nat} {H : HM} {s b n : Nat} {ps : Nat → Nat × Nat} (r0 : CP h0 x a H s b n ps) {tr : TRY} (rt0 : CTR h0 x tr) {i so N A C : Nat} {ce : Nat → Int64} (hi : i < 4) (hq : tr i = some (so, N, ce)) (hA : A < 64) (hC : C < 64) : ∀ r k m (h : Hp), FA x [16] h0 h → k + r = 10 → r < m → ∃ h', f_X11_bondBits_6 F m x (x + (38 + 2 * i)) (nI A) (nI C) (nI (msk (bdb H s (N, ce, A, C)) k)) (nI k) h = some (nI (msk (bdb H s (N, ce, A, C)) 10), h') ∧ FA x [16] h0 h' := by
  intro r
  induction r with
  | zero =>
    intro k m h f hk hm
    obtain ⟨m, rfl⟩ : ∃ j, m = j + 1 := ⟨m - 1, by omega⟩
    show ∃ h', f_X11_bondBits_6_b F (f_X11_bondBits_6 F m) x (x + (38 + 2 * i)) (nI A) (nI C) _ (nI k) h = _ ∧ _
    unfold f_X11_bondBits_6_b
    have e : k = 10 := by omega
    subst e
    rw [if_pos (by decide)]
    exact ⟨h, rfl, f⟩
  | succ r ih =>
    intro k m h f hk hm
    obtain ⟨m, rfl⟩ : ∃ j, m = j + 1 := ⟨m - 1, by omega⟩
    have rk := r0.fa f (by decide)
    have rtk := rt0.fa f (by decide)
    obtain ⟨h1, e1, f1, s1⟩ := rk.try F
    have f1' := f.tr f1
    have r1 := r0.fa f1' (by decide)
    have f2 : FA x [16] h0 (hp_sI h1 (x + 16) 1 (nI k)) := f1'.tr (FA.sI (by decide))
    have r2 := r0.fa f2 (by decide)
    have rt2 := rt0.fa f2 (by decide)
    have s2 : ST (hp_sI h1 (x + 16) 1 (nI k)) (x + 16) s k := ⟨s1.1, by rw [sI_at, if_neg (by decide)]; exact s1.2.1, by rw [sI_at, if_pos rfl]⟩
    obtain ⟨h3, e3, f3, s3, y3⟩ := r0.deeds F hF rt0 hi hq f2 s2 r0.1.ok (show k < 10 by omega)
    dsimp only at e3 s3 y3
    have r3 := r0.fa f3 (by decide)
    have okn := rnT_ok r0.1.hc.2.1 ce N 0 s k r0.1.ok (show k < 10 by omega)
    have em := or_msk (p := bdb H s (N, ce, A, C)) (n := k) (by omega)
    obtain ⟨h4, e4, f4⟩ := ih (k + 1) m h3 f3 (by omega) (by omega)
    have rn := rnT_n H ce N 0 s k
    have bd : bdb H s (N, ce, A, C) k = (decide ((rnT H ce 0 N s k).1 = N) && (decide (dsa H (rnT H ce 0 N s k).2.2.1 0 = A) && decide (dsa H (rnT H ce 0 N s k).2.2.1 1 = C))) := rfl
    have nof : bdb H s (N, ce, A, C) k = false → nI (msk (bdb H s (N, ce, A, C)) k) = nI (msk (bdb H s (N, ce, A, C)) (k + 1)) := msk_s
    have wl : (rnT H ce 0 N s k).2.1 < 2 ^ 31 := by
      have : ∀ r k s b, (rnT H ce k r s b).2.1 < 4 := by
        intro r
        induction r with
        | zero => intro k s b; show 0 < 4; omega
        | succ r ih =>
          intro k s b
          rw [rnT]
          by_cases q : dwhy H s b (ce k).toInt = 0
          · rw [if_pos q]; exact ih _ _ _
          · rw [if_neg q]; exact Nat.lt_succ_of_le (dwhy_lt H s b _)
      have := this N 0 s k
      omega
    show ∃ h', f_X11_bondBits_6_b F (f_X11_bondBits_6 F m) x (x + (38 + 2 * i)) (nI A) (nI C) _ (nI k) h = _ ∧ _
    unfold f_X11_bondBits_6_b f_X11_bondBits_84
    rw [if_neg (show ¬ (10 : Int32) ≤ nI k from i_ge (a := 10) (by omega) (by decide)), rk.1.1.g0 6 16 (by decide), rk.1.now, cV_n (rk.1.1.t 16 9 (by decide)) e1, r1.1.1.g0 6 16 (by decide), pI_n s1.1, r2.1.1.g0 6 16 (by decide), r2.1.home, cV_n s2.1 e3, r3.1.1.g0 6 16 (by decide), gI_n s3.1, y3, nI_1]
    by_cases z : (rnT H ce 0 N s k).2.1 = 0
    · rw [if_pos (show nI _ = 0 by rw [z]; rfl), r3.1.home, r3.1.1.g0 6 16 (by decide), gI_n s3.1, s3.2.1, cV_n r3.1.hc.t (cc_doJust F r3.1.hc okn.1 hA hC), lt_e, shl1 k (by omega)]
      rw [decide_eq_true (rn.2.mpr z), Bool.true_and] at bd
      rw [← bd]
      cases hb : bdb H s (N, ce, A, C) k with
      | true =>
        rw [hb, if_pos rfl] at em
        rw [if_neg (show ¬ nI (b2 true) = 0 by decide), em]
        exact ⟨h4, e4, f4⟩
      | false =>
        rw [if_pos (show nI (b2 false) = 0 by decide), nof hb]
        exact ⟨h4, e4, f4⟩
    · rw [if_neg (nI_ne0 (by omega) wl)]
      rw [decide_eq_false (fun y => z (rn.2.mp y)), Bool.false_and] at bd
      rw [nof bd]
      exact ⟨h4, e4, f4⟩
theorem cc_bondBits (F : Nat) (hF : 100 ≤ F) {h : Hp} {x a : Nat} {H : HM} {s b n : Nat} {ps : Nat → Nat × Nat} (r : CP h x a H s b n ps) {tr : TRY} (rt : CTR h x tr) {i so N A C : Nat} {ce : Nat → Int64} (hi : i < 4) (hq : tr i = some (so, N, ce)) (hA : A < 64) (hC : C < 64) : ∃ h', f_X11_bondBits F x (x + (38 + 2 * i)) (nI A) (nI C) h = some (nI (msk (bdb H s (N, ce, A, C)) 10), h') ∧ FA x [16] h h' := by
  unfold f_X11_bondBits
  exact cc_bondBits_r F hF r rt hi hq hA hC 10 0 F h (FA.rf _ _ _) (by omega) (by omega)
theorem cc_bonds (F : Nat) (hF : 100 ≤ F) {h : Hp} {x a : Nat} {H : HM} {s b n : Nat} {ps : Nat → Nat × Nat} (r : CP h x a H s b n ps) {tr : TRY} (rt : CTR h x tr) (y z w : Int32) : ∃ h', f_X11_bonds F x y z w h = some (sp_bonds H s tr y z w, h') ∧ FA x [16] h h' := by
  unfold f_X11_bonds sp_bonds
  rw [cV_n r.1.1.t0 (cc_refB F hF r.1 rt y z w)]
  cases hk : bdk H tr y z w with
  | inl k => rw [if_neg (show ¬ tdc (Sum.inl k) = 0 from bdk_ne hk)]; exact ⟨h, rfl, FA.rf _ _ _⟩
  | inr p =>
    obtain ⟨p1, p2, rfl, rfl, p6, p7, i, so, hi, rfl, ht⟩ := bdk_inr r.1.hc.d6 hk
    obtain ⟨h', e, f⟩ := cc_bondBits F hF r rt hi ht p6 p7
    rw [if_pos (show tdc (Sum.inr p) = 0 from rfl), r.1.1.g0 8 20 (by decide), r.1.1.tray hi, cV_n r.1.1.t0 e]
    exact ⟨h', rfl, f⟩
/-! what to tell next -/
theorem cc_left18 (F : Nat) {h : Hp} {x a : Nat} {H : HM} {s b t f S A g : Nat} (c : CB h x a H s b) (ht : t < 2) (hf : f < hm_f H) (hS : S < 2 ^ 31) (hall : ∀ bo, bo < 10 → tel H bo s t f ≠ none) (hA : A < 4) (hg : g ≤ 10) (K6 : Nat → Int32 → Int32 → Int32 → Int32 → Int32 → Hp → Option (Int32 × Hp)) : ∀ r k n, k + r = 10 → r < n → f_X11_mostLeft_18 F K6 n x (nI S) (nI t) (nI f) (nI g) (nI A) (nI (cag H s t f S A k)) (nI k) h = K6 x (nI S) (nI t) (nI f) (nI (max g (cag H s t f S A 10))) (nI (A + 1)) h := by
  have f4 := c.hc.f4
  intro r
  induction r with
  | zero =>
    intro k n hk hn
    obtain ⟨n, rfl⟩ : ∃ j, n = j + 1 := ⟨n - 1, by omega⟩
    show f_X11_mostLeft_18_b F K6 (f_X11_mostLeft_18 F K6 n) x _ _ _ _ _ _ (nI k) h = _
    unfold f_X11_mostLeft_18_b
    have e : k = 10 := by omega
    subst e
    have l : cag H s t f S A 10 ≤ 10 := cb_le _ 10
    rw [if_pos (by decide), bd_n (jmax F (by omega) (by omega) h), nI_1]
  | succ r ih =>
    intro k n hk hn
    obtain ⟨n, rfl⟩ : ∃ j, n = j + 1 := ⟨n - 1, by omega⟩
    have ih1 := ih (k + 1) n (by omega) (by omega)
    have es : cag H s t f S A (k + 1) = cag H s t f S A k + b2 (S.testBit k && decide (agb H s t f k = A)) := rfl
    rw [es] at ih1
    show f_X11_mostLeft_18_b F K6 (f_X11_mostLeft_18 F K6 n) x _ _ _ _ _ _ (nI k) h = _
    unfold f_X11_mostLeft_18_b f_X11_mostLeft_76
    rw [if_neg (show ¬ (10 : Int32) ≤ nI k from i_ge (a := 10) (by omega) (by decide)), tb_and hS (by omega), nI_1 k]
    cases hb : S.testBit k with
    | false =>
      rw [hb, Bool.false_and, show b2 false = 0 from rfl, Nat.add_zero] at ih1
      rw [if_pos (show nI (b1 (false = true)) = 0 by decide)]
      exact ih1
    | true =>
      rw [hb, Bool.true_and] at ih1
      rw [if_neg (show ¬ nI (b1 (true = true)) = 0 by decide), c.home, c.now, c.ages, cV_n c.hc.t (cc_afterTelling F c.hc c.ok (show k < 10 by omega) ht hf)]
      cases hv : tld H k s t f with
      | none =>
        have : tel H k s t f = none := by
          unfold tld at hv
          cases y : tel H k s t f with
          | none => rfl
          | some v => rw [y] at hv; cases hv
        exact absurd this (hall k (by omega))
      | some u =>
        have cu := cs_lt u
        have ea : agb H s t f k = dg u (4 * (1 - t) + f) := by unfold agb; rw [hv]
        have dl := dg_lt u (4 * (1 - t) + f)
        rw [show oN (Option.map cs (some u)) = nI (cs u) from rfl, if_neg (nI_pos (by omega)), one_sub ht, bd_n (cc_ageIn F (show 1 - t < 2 by omega) (by omega) h), ← ea, nI_1]
        rw [← ea] at dl
        by_cases y : agb H s t f k = A
        · rw [decide_eq_true y, show b2 true = 1 from rfl] at ih1
          rw [if_pos (by rw [y])]
          exact ih1
        · rw [decide_eq_false y, show b2 false = 0 from rfl, Nat.add_zero] at ih1
          rw [if_neg (fun e => y (nI_inj (by omega) (by omega) e))]
          exact ih1
theorem cc_mostLeft (F : Nat) (hF : 100 ≤ F) {h : Hp} {x a : Nat} {H : HM} {s b t f S : Nat} (c : CB h x a H s b) (ht : t < 2) (hf : f < hm_f H) (hS : S < 2 ^ 31) (hall : ∀ bo, bo < 10 → tel H bo s t f ≠ none) : f_X11_mostLeft F x (nI S) (nI t) (nI f) h = some (nI (mof H s t f S), h) := by
  obtain ⟨F1, hF1⟩ : ∃ j, F = j + 5 := ⟨F - 5, by omega⟩
  have l : ∀ A, cag H s t f S A 10 ≤ 10 := fun A => cb_le _ 10
  have step : ∀ A g n, A < 4 → g ≤ 10 → f_X11_mostLeft_6 F (n + 1) x (nI S) (nI t) (nI f) (nI g) (nI A) h = f_X11_mostLeft_6 F n x (nI S) (nI t) (nI f) (nI (max g (cag H s t f S A 10))) (nI (A + 1)) h := fun A g n hA hg => by
    show f_X11_mostLeft_6_b F (f_X11_mostLeft_6 F n) x _ _ _ _ (nI A) h = _
    unfold f_X11_mostLeft_6_b
    rw [if_neg (show ¬ (3 : Int32) < nI A from fun e => absurd ((nI_ltI (a := 3) (by decide) (by omega)).mp e) (by omega))]
    exact cc_left18 F c ht hf hS hall hA hg (f_X11_mostLeft_6 F n) 10 0 F (by omega) (by omega)
  have l0 := l 0; have l1 := l 1; have l2 := l 2; have l3 := l 3
  unfold f_X11_mostLeft
  rw [congrArg (f_X11_mostLeft_6 F) hF1]
  refine (show f_X11_mostLeft_6 F (F1 + 5) x (nI S) (nI t) (nI f) 0 0 h = _ from step 0 0 (F1 + 4) (by decide) (by decide)).trans ?_
  refine (step 1 _ (F1 + 3) (by decide) (by omega)).trans ?_
  refine (step 2 _ (F1 + 2) (by decide) (by omega)).trans ?_
  refine (step 3 _ (F1 + 1) (by decide) (by omega)).trans ?_
  show f_X11_mostLeft_6_b F (f_X11_mostLeft_6 F F1) x _ _ _ _ (nI 4) h = _
  unfold f_X11_mostLeft_6_b
  rw [if_pos (by decide)]
  unfold mof mx4
  rw [Nat.max_eq_right (Nat.zero_le (cag H s t f S 0 10))]
theorem tel_tld {H : HM} {b s t f : Nat} : tld H b s t f = none ↔ tel H b s t f = none := by
  unfold tld
  cases tel H b s t f <;> simp
theorem cc_next17 (F : Nat) (hF : 100 ≤ F) {h : Hp} {x a : Nat} {H : HM} (hn : HMn H) {s b t S : Nat} (c : CB h x a H s b) (ht : t < 2) (hS : S < 2 ^ 31) {N : Nat} (K8 : Nat → Int32 → Int32 → Int32 → Int32 → Hp → Option (Int32 × Hp)) : ∀ r f n v l, f + r = hm_f H → r < n → l ≤ 11 → ∃ v' l', l' ≤ 11 ∧ f_X11_tellingNext_17 F K8 n x (nI S) v (nI l) (nI t) (nI f) h = K8 x (nI S) v' (nI l') (nI (t + 1)) h ∧ attr H s b S (4 * t + f) (N + 4 - f) v l = attr H s b S (4 * t + 4) N v' l' := by
  have f4 := c.hc.f4
  have skip : ∀ q k v l, hm_f H ≤ k % 4 → attr H s b S k (q + 1) v l = attr H s b S (k + 1) q v l := fun q k v l hk => by
    rw [attr, if_neg (fun y => by omega)]
  intro r
  induction r with
  | zero =>
    intro f n v l hf hn' hl
    obtain ⟨n, rfl⟩ : ∃ j, n = j + 1 := ⟨n - 1, by omega⟩
    refine ⟨v, l, hl, ?_, ?_⟩
    · show f_X11_tellingNext_17_b F K8 (f_X11_tellingNext_17 F K8 n) x _ _ _ _ (nI f) h = _
      unfold f_X11_tellingNext_17_b
      rw [c.home, c.hc.fs, if_pos (nI_le (by omega) (by omega)), nI_1]
    · have e : f = hm_f H := by omega
      rcases (show f = 0 ∨ f = 1 ∨ f = 2 ∨ f = 3 ∨ f = 4 by omega) with rfl | rfl | rfl | rfl | rfl
      · rw [show N + 4 - 0 = N + 1 + 1 + 1 + 1 by omega, skip _ _ _ _ (by omega), skip _ _ _ _ (by omega), skip _ _ _ _ (by omega), skip _ _ _ _ (by omega)]
      · rw [show N + 4 - 1 = N + 1 + 1 + 1 by omega, skip _ _ _ _ (by omega), skip _ _ _ _ (by omega), skip _ _ _ _ (by omega)]
      · rw [show N + 4 - 2 = N + 1 + 1 by omega, skip _ _ _ _ (by omega), skip _ _ _ _ (by omega)]
      · rw [show N + 4 - 3 = N + 1 by omega, skip _ _ _ _ (by omega)]
      · rw [show N + 4 - 4 = N by omega]
  | succ r ih =>
    intro f n v l hf hn' hl
    obtain ⟨n, rfl⟩ : ∃ j, n = j + 1 := ⟨n - 1, by omega⟩
    have hfl : f < hm_f H := by omega
    have k1 := kn_f c.ok ht f4
    have k2 := kn_f c.ok (show 1 - t < 2 by omega) f4
    have ea : N + 4 - f = (N + 4 - (f + 1)) + 1 := by omega
    have e1 : (4 * t + f) % 4 = f := by omega
    have e2 : (4 * t + f) / 4 = t := by omega
    rw [ea, attr, e1, e2]
    show ∃ v' l', l' ≤ 11 ∧ f_X11_tellingNext_17_b F K8 (f_X11_tellingNext_17 F K8 n) x _ _ _ _ (nI f) h = _ ∧ _
    unfold f_X11_tellingNext_17_b f_X11_tellingNext_86
    rw [c.home, c.hc.fs, if_neg (nI_ge (by omega) (by omega)), c.home, c.now, c.ages, c.now, c.bond, cV_n c.hc.t (cc_afterTelling F c.hc c.ok c.b10 ht hfl), nI_1]
    cases hv : tld H b s t f with
    | none =>
      rw [show oN (Option.map cs none) = -1 from rfl, if_pos (by decide), if_neg (fun y => y.2 (tel_tld.mp hv))]
      exact ih (f + 1) n v l (by omega) (by omega) hl
    | some u =>
      have cu := cs_lt u
      have nt : tel H b s t f ≠ none := fun y => by rw [tel_tld.mpr y] at hv; cases hv
      have hall : ∀ bo, bo < 10 → tel H bo s t f ≠ none := fun bo hbo y => nt (hn bo b t f _ _ hbo c.b10 ht hfl k1 k2 y)
      have ml : mof H s t f S ≤ 10 := by
        have l0 : cag H s t f S 0 10 ≤ 10 := cb_le _ 10
        have l1 : cag H s t f S 1 10 ≤ 10 := cb_le _ 10
        have l2 : cag H s t f S 2 10 ≤ 10 := cb_le _ 10
        have l3 : cag H s t f S 3 10 ≤ 10 := cb_le _ 10
        unfold mof mx4
        dsimp only
        omega
      rw [show oN (Option.map cs (some u)) = nI (cs u) from rfl, if_neg (nI_pos (by omega)), cV_n c.1.t0 (cc_mostLeft F hF c ht hfl hS hall), if_pos (show f < hm_f H ∧ tel H b s t f ≠ none from ⟨hfl, nt⟩)]
      by_cases y : mof H s t f S < l
      · rw [if_neg (nI_ge y (by omega)), lt_e, if_pos y, show 10 * nI t + nI f = tm (4 * t + f) by
          unfold tm
          rw [if_neg (by omega), e1, e2, show 10 * nI t = nI (10 * t) from pk_mul 10 t, nI_add]]
        exact ih (f + 1) n _ _ (by omega) (by omega) (by omega)
      · rw [if_pos (nI_le (by omega) (by omega)), if_neg y]
        exact ih (f + 1) n v l (by omega) (by omega) hl
theorem cc_next (F : Nat) (hF : 100 ≤ F) {h : Hp} {x a : Nat} {H : HM} (hn : HMn H) {s b S : Nat} (c : CB h x a H s b) (hS : S < 2 ^ 31) : f_X11_tellingNext F x (nI S) h = some (attr H s b S 0 8 (-1) 11, h) := by
  obtain ⟨F1, hF1⟩ : ∃ j, F = j + 3 := ⟨F - 3, by omega⟩
  have f4 := c.hc.f4
  unfold f_X11_tellingNext
  rw [congrArg (f_X11_tellingNext_8 F) hF1]
  show f_X11_tellingNext_8_b F (f_X11_tellingNext_8 F (F1 + 2)) x (nI S) (-1) (nI 11) (nI 0) h = _
  unfold f_X11_tellingNext_8_b
  obtain ⟨v1, l1, w1, e1, a1⟩ := cc_next17 F hF hn c (t := 0) (by decide) hS (N := 4) (f_X11_tellingNext_8 F (F1 + 2)) (hm_f H) 0 F (-1) 11 (by omega) (by omega) (by omega)
  rw [if_neg (show ¬ (2 : Int32) ≤ nI 0 by decide), show f_X11_tellingNext_17 F (f_X11_tellingNext_8 F (F1 + 2)) F x (nI S) (-1) (nI 11) (nI 0) 0 h = _ from e1]
  show f_X11_tellingNext_8_b F (f_X11_tellingNext_8 F (F1 + 1)) x (nI S) v1 (nI l1) (nI 1) h = _
  unfold f_X11_tellingNext_8_b
  obtain ⟨v2, l2, w2, e2, a2⟩ := cc_next17 F hF hn c (t := 1) (by decide) hS (N := 0) (f_X11_tellingNext_8 F (F1 + 1)) (hm_f H) 0 F v1 l1 (by omega) (by omega) w1
  rw [if_neg (show ¬ (2 : Int32) ≤ nI 1 by decide), show f_X11_tellingNext_17 F (f_X11_tellingNext_8 F (F1 + 1)) F x (nI S) v1 (nI l1) (nI 1) 0 h = _ from e2]
  show f_X11_tellingNext_8_b F (f_X11_tellingNext_8 F F1) x (nI S) v2 (nI l2) (nI 2) h = _
  unfold f_X11_tellingNext_8_b
  rw [if_pos (show (2 : Int32) ≤ nI 2 by decide)]
  have b1 : attr H s b S 0 8 (-1) 11 = attr H s b S 4 4 v1 l1 := a1
  have b2 : attr H s b S 4 4 v1 l1 = attr H s b S 8 0 v2 l2 := a2
  rw [b1, b2]
  rfl
theorem cc_attempt (F : Nat) (hF : 100 ≤ F) {h : Hp} {x a : Nat} {H : HM} (hn : HMn H) {s b n : Nat} {ps : Nat → Nat × Nat} (r : CP h x a H s b n ps) {tr : TRY} (rt : CTR h x tr) (y z w : Int32) : ∃ h', f_X11_attempt F x y z w h = some (sp_attempt H s b tr y z w, h') ∧ FA x [16] h h' := by
  unfold f_X11_attempt sp_attempt
  rw [cV_n r.1.1.t0 (cc_refB F hF r.1 rt y z w)]
  cases hk : bdk H tr y z w with
  | inl k => rw [if_neg (show ¬ tdc (Sum.inl k) = 0 from bdk_ne hk)]; exact ⟨h, rfl, FA.rf _ _ _⟩
  | inr p =>
    obtain ⟨p1, p2, rfl, rfl, p6, p7, i, so, hi, rfl, ht⟩ := bdk_inr r.1.hc.d6 hk
    obtain ⟨h', e, f⟩ := cc_bondBits F hF r rt hi ht p6 p7
    have r' := r.fa f (by decide)
    have ml := msk_lt (bdb H s p) 10
    have m10 : (2 : Nat) ^ 10 = 1024 := rfl
    rw [if_pos (show tdc (Sum.inr p) = 0 from rfl), r.1.1.g0 8 20 (by decide), r.1.1.tray hi, cV_n r.1.1.t0 e]
    dsimp only
    by_cases z0 : msk (bdb H s p) 10 = 0
    · rw [if_pos (show nI (msk (bdb H s (p.1, p.2.1, p.2.2.1, p.2.2.2)) 10) = 0 by show nI (msk (bdb H s p) 10) = 0; rw [z0]; rfl), if_pos z0]
      exact ⟨h', rfl, f⟩
    · rw [if_neg (show ¬ nI (msk (bdb H s (p.1, p.2.1, p.2.2.1, p.2.2.2)) 10) = 0 from nI_ne0 (n := msk (bdb H s p) 10) (by omega) (by omega)), if_neg z0, cV_n r'.1.1.t0 (show f_X11_tellingNext F x (nI (msk (bdb H s p) 10)) h' = _ from cc_next F hF hn r'.1 (by omega))]
      exact ⟨h', rfl, f⟩
