/-! L3, the class: trays; judge, perform, year, secret; numbers, write; feed, fault -/
def CTR (h : Hp) (x : Nat) (tr : TRY) : Prop := ∀ i, i < 4 → match tr i with
  | none => hp_I h (x + (38 + 2 * i)) 0 = -1
  | some q => hp_I h (x + (38 + 2 * i)) 0 = nI q.2.1 ∧ q.2.1 ≤ 40 ∧ hp_I h (x + (38 + 2 * i)) 1 = nI q.1 ∧ q.1 ≤ 3 ∧ ∀ k, k < q.2.1 → hp_L h (x + (39 + 2 * i)) k = q.2.2 k
theorem CTR.cg {h h' : Hp} {x : Nat} {tr : TRY} (r : CTR h x tr) (e : ∀ k, 38 ≤ k → k < 46 → hp_I h' (x + k) = hp_I h (x + k) ∧ hp_L h' (x + k) = hp_L h (x + k)) : CTR h' x tr := by
  intro i hi
  have := r i hi
  rw [(e (38 + 2 * i) (by omega) (by omega)).1, (e (39 + 2 * i) (by omega) (by omega)).2]
  exact this
theorem CTR.fa {h h' : Hp} {x : Nat} {tr : TRY} {ks : List Nat} (r : CTR h x tr) (f : FA x ks h h') (hk : ∀ k ∈ ks, k < 38 ∨ 46 ≤ k) : CTR h' x tr :=
  r.cg fun k h1 h2 => ⟨f.at (fun q => by have := hk k q; omega), f.atL (fun q => by have := hk k q; omega)⟩
theorem CTR.ty {h : Hp} {x : Nat} {tr : TRY} (r : CTR h x tr) (c : CSH h x) {i : Nat} (hi : i < 4) {q : Nat × Nat × (Nat → Int64)} (hq : tr i = some q) : TY h (x + (38 + 2 * i)) q.2.1 q.2.2 := by
  have := r i hi
  rw [hq] at this
  obtain ⟨a1, a2, a3, a4, a5⟩ := this
  obtain ⟨t1, t2, t3, t4⟩ := c.tt hi
  exact ⟨_, t1, t2, t3, t4, a1, a2, a5⟩
theorem cc_noTray (F : Nat) {h : Hp} {x : Nat} (c : CSH h x) (y : Int32) : f_X11_noTray F x y h = some (nbs (vi y 4), h) := by
  unfold f_X11_noTray
  rw [c.g0 8 20 (by decide), al_n (c.t 20 26 (by decide)) (c.l 20 4 (by decide))]
  cases hx : vi y 4 with
  | none =>
    rcases viN (by decide) hx with z | z
    · rw [if_pos z]; rfl
    · rw [if_neg (not_lt_le z)]
      by_cases q : y < 0
      · rw [if_pos q]; rfl
      · rw [if_neg q]; rfl
  | some t =>
    obtain ⟨t1, rfl⟩ := vi_some hx
    rw [if_neg (nI_pos (by omega)), if_pos (nI_lt t1 (by decide))]; rfl
theorem cc_miss1 (F : Nat) {h : Hp} {x : Nat} {tr : TRY} (r : CTR h x tr) (c : CSH h x) {i : Nat} (hi : i < 4) (hq : tr i = none) : f_X9_isMissing F (x + (38 + 2 * i)) h = some (1, h) := by
  have := r i hi
  rw [hq] at this
  unfold f_X9_isMissing
  rw [gI_n (c.tt hi).1, show hp_I h (x + (38 + 2 * i)) 0 = -1 from this, if_neg (by decide)]
theorem cc_miss0 (F : Nat) {h : Hp} {tq N : Nat} {ce : Nat → Int64} (r : TY h tq N ce) : f_X9_isMissing F tq h = some (0, h) := by
  obtain ⟨tc, r1, r2, r3, r4, r5, r6, r7⟩ := r
  unfold f_X9_isMissing
  rw [gI_n r1, r5, if_pos (nI_pos' (by omega))]
theorem rnT_ok {H : HM} (hH : HMok H) (ce : Nat → Int64) : ∀ r k s b, STok H s → b < 10 → STok H (rnT H ce k r s b).2.2.1 ∧ (rnT H ce k r s b).2.2.2 < 10 := by
  intro r
  induction r with
  | zero => intro k s b hs hb; exact ⟨hs, hb⟩
  | succ r ih =>
    intro k s b hs hb
    rw [rnT]
    by_cases q : dwhy H s b (ce k).toInt = 0
    · rw [if_pos q]
      have := dact_ok hH hs hb q
      exact ih (k + 1) _ _ this.1 this.2
    · rw [if_neg q]; exact ⟨hs, hb⟩
theorem yrn_ok {H : HM} (hH : HMok H) : ∀ r x s b, STok H s → b < 10 → STok H (yrn H r x s b).2.1 ∧ (yrn H r x s b).2.2 < 10 := by
  intro r
  induction r with
  | zero => intro x s b hs hb; exact ⟨hs, hb⟩
  | succ r ih =>
    intro x s b hs hb
    rw [yrn]
    by_cases q : dwhy H s b (drn x).1.toInt = 0
    · rw [if_pos q]
      have := dact_ok hH hs hb q
      exact ih _ _ _ this.1 this.2
    · rw [if_neg q]; exact ih _ _ _ hs hb
theorem yrn_le (H : HM) : ∀ r x s b, (yrn H r x s b).1 ≤ r := by
  intro r
  induction r with
  | zero => intro x s b; exact Nat.le_refl _
  | succ r ih =>
    intro x s b
    rw [yrn]
    by_cases q : dwhy H s b (drn x).1.toInt = 0
    · rw [if_pos q]; exact Nat.succ_le_succ (ih _ _ _)
    · rw [if_neg q]; exact Nat.le_succ_of_le (ih _ _ _)
/-- the deeds of a tray, tried -/
theorem CP.deeds {h : Hp} {x a : Nat} {H : HM} {s b n : Nat} {ps : Nat → Nat × Nat} (F : Nat) (hF : 100 ≤ F) (r : CP h x a H s b n ps) {tr : TRY} (rt : CTR h x tr) {i : Nat} (hi : i < 4) {q : Nat × Nat × (Nat → Int64)} (hq : tr i = some q) {h1 : Hp} {s' b' : Nat} (f1 : FA x [16] h h1) (s1 : ST h1 (x + 16) s' b') (hs : STok H s') (hb : b' < 10) : ∃ h2, f_X8_deeds F (x + 16) a (x + (38 + 2 * i)) h1 = some (nI (rnT H q.2.2 0 q.2.1 s' b').1, h2) ∧ FA x [16] h h2 ∧ ST h2 (x + 16) (rnT H q.2.2 0 q.2.1 s' b').2.2.1 (rnT H q.2.2 0 q.2.1 s' b').2.2.2 ∧ hp_I h2 (x + 16) 2 = nI (rnT H q.2.2 0 q.2.1 s' b').2.1 := by
  have r1 := r.fa f1 (by decide)
  have t1 := (rt.fa f1 (by decide)).ty r1.1.1 hi hq
  obtain ⟨h2, e2, f2, s2, y2⟩ := cc_deeds F hF (show x + 16 ≠ x + (38 + 2 * i) by omega) (hqa16 r1.1) r1.1.hc s1 hs hb t1
  exact ⟨h2, e2, f1.tr (f2.fa (by decide)), s2, y2⟩
theorem cc_judge (F : Nat) (hF : 100 ≤ F) {h : Hp} {x a : Nat} {H : HM} {s b n : Nat} {ps : Nat → Nat × Nat} (r : CP h x a H s b n ps) {tr : TRY} (rt : CTR h x tr) (y z : Int32) : ∃ h', f_X11_judge F x y z h = some (sp_judge H s b tr y z, h') ∧ FA x [16] h h' := by
  have fr : FA x [16] h h := FA.rf _ _ _
  unfold f_X11_judge sp_judge tra trc
  rw [cV_n r.1.1.t0 (cc_noTray F r.1.1 y)]
  cases hy : vi y 4 with
  | none =>
    rw [if_neg nbs1]
    refine ⟨h, ?_, fr⟩
    cases vb z 0 3 <;> rfl
  | some i =>
    obtain ⟨hi, rfl⟩ := vi_some hy
    rw [if_pos (nbs0 i)]
    cases hz : vb z 0 3 with
    | none =>
      by_cases q : z < 0
      · rw [if_pos q]; exact ⟨h, rfl, fr⟩
      · rw [if_neg q]
        rcases vb_n (by decide) (by decide) hz with w | w
        · exact absurd w q
        · rw [if_neg (show ¬ z ≤ 3 from not_le_lt w)]; exact ⟨h, rfl, fr⟩
    | some w =>
      obtain ⟨-, w3, rfl, -⟩ := vb_some hz
      rw [if_neg (nI_pos (by omega)), if_pos (show nI w ≤ 3 from nI_le (b := 3) w3 (by decide)), r.1.1.g0 8 20 (by decide), r.1.1.tray hi]
      cases hq : tr i with
      | none =>
        rw [cV_n (r.1.1.tt hi).1 (cc_miss1 F rt r.1.1 hi hq), if_neg (by decide)]
        rw [show (some i).bind tr = none from hq]
        exact ⟨h, rfl, fr⟩
      | some q =>
        obtain ⟨h1, e1, f1, s1⟩ := r.try F
        obtain ⟨h2, e2, f2, s2, y2⟩ := r.deeds F hF rt hi hq f1 s1 r.1.ok r.1.b10
        have r1 := r.fa f1 (by decide)
        have r2 := r.fa f2 (by decide)
        have ok := rnT_ok r.1.hc.2.1 q.2.2 q.2.1 0 s b r.1.ok r.1.b10
        rw [cV_n (r.1.1.tt hi).1 (cc_miss0 F (rt.ty r.1.1 hi hq)), if_pos rfl, r.1.1.g0 6 16 (by decide), r.1.now, cV_n (r.1.1.t 16 9 (by decide)) e1, r1.1.1.g0 6 16 (by decide), r1.1.home, r1.1.1.g0 8 20 (by decide), r1.1.1.tray hi, cV_n s1.1 e2]
        refine ⟨h2, ?_, f2⟩
        rw [show (some i).bind tr = some q from hq]
        dsimp only
        rw [r2.1.1.g0 6 16 (by decide), gI_n s2.1, y2]
        have wy := rnT_why H q.2.2 q.2.1 0 s b
        rcases (show w = 0 ∨ w = 1 ∨ 2 ≤ w by omega) with e | e | e
        · subst e
          rw [if_pos (show nI 0 = 0 from rfl), if_pos rfl]
          by_cases q0 : (rnT H q.2.2 0 q.2.1 s b).2.1 = 0
          · rw [if_pos (show nI _ = 0 by rw [q0]; rfl), if_pos q0]
          · rw [if_neg (nI_ne0 (by omega) (by omega)), if_neg q0]
        · subst e
          rw [if_neg (show ¬ nI 1 = 0 by decide), if_pos (show nI 1 = 1 from rfl), if_neg (by decide), if_pos rfl, r2.1.1.g0 6 16 (by decide), gI_n s2.1, y2]
        · rw [if_neg (nI_ne0 (by omega) (by omega)), if_neg (show ¬ nI w = 1 from fun z => by have := nI_inj (a := w) (b := 1) (by omega) (by decide) z; omega), if_neg (by omega), if_neg (by omega), r2.1.home, r2.1.1.g0 6 16 (by decide), gI_n s2.1, s2.2.1, show nI w - 2 = nI (w - 2) from pk_sub (b := 2) e, cV_n r2.1.hc.t (cc_doneBy F r2.1.hc ok.1 (show w - 2 < 2 by omega))]
theorem cc_perform (F : Nat) (hF : 100 ≤ F) {h : Hp} {x a : Nat} {H : HM} {s b n : Nat} {ps : Nat → Nat × Nat} (r : CP h x a H s b n ps) {tr : TRY} (rt : CTR h x tr) (y : Int32) : ∃ h', f_X11_perform F x y h = some ((sp_perform H s b tr y).1, h') ∧ FA x [15, 16, 17, 18, 19] h h' ∧ CPo h' x a H s b n ps (sp_perform H s b tr y).2 := by
  have fr : FA x [15, 16, 17, 18, 19] h h := FA.rf _ _ _
  unfold f_X11_perform sp_perform tra trc
  rw [cV_n r.1.1.t0 (cc_noTray F r.1.1 y)]
  cases hy : vi y 4 with
  | none =>
    rw [if_neg nbs1]
    exact ⟨h, rfl, fr, r⟩
  | some i =>
    obtain ⟨hi, rfl⟩ := vi_some hy
    rw [if_pos (nbs0 i), r.1.1.g0 8 20 (by decide), r.1.1.tray hi]
    rw [show (some i).bind tr = tr i from rfl]
    cases hq : tr i with
    | none =>
      rw [cV_n (r.1.1.tt hi).1 (cc_miss1 F rt r.1.1 hi hq), if_neg (by decide)]
      exact ⟨h, rfl, fr, r⟩
    | some q =>
      obtain ⟨h1, e1, f1, s1⟩ := r.try F
      obtain ⟨h2, e2, f2, s2, y2⟩ := r.deeds F hF rt hi hq f1 s1 r.1.ok r.1.b10
      have r1 := r.fa f1 (by decide)
      have r2 := r.fa f2 (by decide)
      have ok := rnT_ok r.1.hc.2.1 q.2.2 q.2.1 0 s b r.1.ok r.1.b10
      have le := rnT_le H q.2.2 q.2.1 0 s b
      have q40 : q.2.1 ≤ 40 := by have := rt i hi; rw [hq] at this; exact this.2.1
      rw [cV_n (r.1.1.tt hi).1 (cc_miss0 F (rt.ty r.1.1 hi hq)), if_pos rfl, r.1.1.g0 6 16 (by decide), r.1.now, cV_n (r.1.1.t 16 9 (by decide)) e1, r1.1.1.g0 6 16 (by decide), r1.1.home, r1.1.1.g0 8 20 (by decide), r1.1.1.tray hi, cV_n s1.1 e2]
      dsimp only
      by_cases q0 : (rnT H q.2.2 0 q.2.1 s b).1 = 0
      · rw [if_pos (show nI _ ≤ 0 by rw [q0]; decide), if_pos q0]
        exact ⟨h2, rfl, f2.mono (by decide), r2⟩
      · obtain ⟨h3, e3, f3, r3⟩ := r.take F f2 s2 ok.1 ok.2
        rw [if_neg (nI_nle (by omega) (by omega)), if_neg q0, cV_n r2.1.1.t0 e3]
        exact ⟨h3, rfl, f3, r3⟩
theorem cc_year (F : Nat) (hF : 100 ≤ F) {h : Hp} {x a : Nat} {H : HM} {s b n : Nat} {ps : Nat → Nat × Nat} (r : CP h x a H s b n ps) (y z : Int32) : ∃ h', f_X11_year F x y z h = some ((sp_year H s b y z).1, h') ∧ FA x [15, 16, 17, 18, 19] h h' ∧ CPo h' x a H s b n ps (sp_year H s b y z).2 := by
  have fr : FA x [15, 16, 17, 18, 19] h h := FA.rf _ _ _
  unfold f_X11_year sp_year
  cases hz : vb z 1 40 with
  | none =>
    by_cases q : z < 1
    · rw [if_pos q]; exact ⟨h, rfl, fr, r⟩
    · rw [if_neg q]
      rcases vb_n (by decide) (by decide) hz with w | w
      · exact absurd w q
      · rw [if_neg (show ¬ z ≤ 40 from not_le_lt w)]; exact ⟨h, rfl, fr, r⟩
  | some k =>
    obtain ⟨k1, k2, rfl, -⟩ := vb_some hz
    obtain ⟨h1, e1, f1, s1⟩ := r.try F
    have r1 := r.fa f1 (by decide)
    obtain ⟨h2, e2, f2, s2⟩ := cc_drawnDeeds F hF (hqa16 r1.1) k2 y r1.1.hc s1 r.1.ok r.1.b10
    have f2' : FA x [16] h h2 := f1.tr (f2.fa (by decide))
    have r2 := r.fa f2' (by decide)
    have ok := yrn_ok r.1.hc.2.1 k y s b r.1.ok r.1.b10
    have le := yrn_le H k y s b
    rw [if_neg (show ¬ nI k < 1 from nI_nlt (b := 1) k1 (by omega)), if_pos (show nI k ≤ 40 from nI_le (b := 40) k2 (by decide)), r.1.1.g0 6 16 (by decide), r.1.now, cV_n (r.1.1.t 16 9 (by decide)) e1, r1.1.1.g0 6 16 (by decide), r1.1.home, cV_n s1.1 e2]
    dsimp only
    by_cases q0 : (yrn H k y s b).1 = 0
    · rw [if_pos (show nI _ ≤ 0 by rw [q0]; decide), if_pos q0]
      exact ⟨h2, rfl, f2'.mono (by decide), r2⟩
    · obtain ⟨h3, e3, f3, r3⟩ := r.take F f2' s2 ok.1 ok.2
      rw [if_neg (nI_nle (by omega) (by omega)), if_neg q0, cV_n r2.1.1.t0 e3]
      exact ⟨h3, rfl, f3, r3⟩
theorem msk_s {p : Nat → Bool} {n : Nat} (h : p n = false) : nI (msk p n) = nI (msk p (n + 1)) := by rw [msk, h]; rfl
theorem cc_secret_r (F : Nat) {h : Hp} {x a : Nat} {H : HM} {s b f : Nat} (c : CB h x a H s b) (hf : f < hm_f H) : ∀ r k n, k + r = 2 → r < n → f_X11_secret_15 F n x (nI f) (nI (msk (scb H b s f) k)) (nI k) h = some (nI (msk (scb H b s f) 2), h) := by
  have f4 := c.hc.f4
  intro r
  induction r with
  | zero =>
    intro k n hk hn
    obtain ⟨n, rfl⟩ : ∃ j, n = j + 1 := ⟨n - 1, by omega⟩
    show f_X11_secret_15_b F (f_X11_secret_15 F n) x (nI f) (nI (msk (scb H b s f) k)) (nI k) h = _
    unfold f_X11_secret_15_b
    rw [if_pos (show (2 : Int32) ≤ nI k from nI_le (a := 2) (by omega) (by omega)), show k = 2 by omega]
  | succ r ih =>
    intro k n hk hn
    obtain ⟨n, rfl⟩ : ∃ j, n = j + 1 := ⟨n - 1, by omega⟩
    show f_X11_secret_15_b F (f_X11_secret_15 F n) x (nI f) (nI (msk (scb H b s f) k)) (nI k) h = _
    unfold f_X11_secret_15_b f_X11_secret_68
    have hk2 : k < 2 := by omega
    have ih1 := ih (k + 1) n (by omega) (by omega)
    have em := or_msk (p := scb H b s f) (n := k) (by omega)
    rw [if_neg (show ¬ (2 : Int32) ≤ nI k from i_ge hk2 (by decide)), c.home, c.now, c.ages, c.now, c.bond, cV_n c.hc.t (cc_afterTelling F c.hc c.ok c.b10 hk2 hf), nI_1]
    cases hu : tld H b s k f with
    | none =>
      have z : scb H b s f k = false := by unfold scb; rw [hu]
      rw [if_pos (show oN (Option.map cs none) < 0 by decide), msk_s z, ih1]
    | some u =>
      have hd := dg_lt u (4 * (1 - k) + f)
      rw [if_neg (oNm_n u)]
      show bd (f_X2_ageIn F (nI (cs u)) (1 - nI k) (nI f) h) _ = _
      rw [one_sub hk2, bd_n (cc_ageIn F (show 1 - k < 2 by omega) (by omega) h), lt_e, shl1 k (by omega)]
      by_cases q : dg u (4 * (1 - k) + f) = 0
      · have z : scb H b s f k = true := by unfold scb; rw [hu]; exact decide_eq_true q
        rw [if_pos z] at em
        rw [if_pos (show nI _ = 0 by rw [q]; rfl), em, ih1]
      · have z : scb H b s f k = false := by unfold scb; rw [hu]; exact decide_eq_false q
        rw [if_neg (nI_ne0 (by omega) (by omega)), msk_s z, ih1]
theorem cc_secret (F : Nat) (hF : 100 ≤ F) {h : Hp} {x a : Nat} {H : HM} {s b : Nat} (c : CB h x a H s b) (y : Int32) : f_X11_secret F x y h = some (sp_secret H s b y, h) := by
  unfold f_X11_secret sp_secret
  rw [cV_n c.1.t0 (cc_noFact F c y)]
  cases hy : vi y (hm_f H) with
  | none => rw [if_neg nbs1]
  | some f =>
    obtain ⟨f1, rfl⟩ := vi_some hy
    rw [if_pos (nbs0 f)]
    exact cc_secret_r F c f1 2 0 F (by omega) (by omega)
theorem cc_fault (F : Nat) {h : Hp} {x : Nat} (c : CSH h x) {fk : Nat} {fp : Int32} (h1 : hp_I h (x + 9) 0 = nI fk) (h2 : hp_I h (x + 9) 1 = fp) (y : Int32) : f_X11_fault F x y h = some (sp_fault fk fp y, h) := by
  unfold f_X11_fault sp_fault
  rw [c.g0 4 9 (by decide), gI_n (c.t 9 6 (by decide)), c.g0 4 9 (by decide), gI_n (c.t 9 6 (by decide)), h1, h2]
  by_cases q : y = 0
  · rw [if_pos q, if_pos q]
  · rw [if_neg q, if_neg q]
    by_cases q2 : y = 1
    · rw [if_pos q2, if_pos q2]
    · rw [if_neg q2, if_neg q2]
/-! trays laid and written -/
theorem fillL_r (F : Nat) {a N : Nat} (hN : N < 2 ^ 31) : ∀ r k n (h : Hp), hp_t h a = 23 → hp_l h a = N → k + r = N → r < n → ∃ h', f_J7_fill_d0a16_6 F n a 0 (nI k) (nI N) h = some ((), h') ∧ SH h h' ∧ hp_I h' = hp_I h ∧ (∀ y, y ≠ a → hp_L h' y = hp_L h y) ∧ ∀ j, hp_L h' a j = if k ≤ j ∧ j < N then 0 else hp_L h a j := by
  intro r
  induction r with
  | zero =>
    intro k n h t l hk hn
    obtain ⟨n, rfl⟩ : ∃ j, n = j + 1 := ⟨n - 1, by omega⟩
    show ∃ h', f_J7_fill_d0a16_6_b F (f_J7_fill_d0a16_6 F n) a 0 (nI k) (nI N) h = _ ∧ _
    unfold f_J7_fill_d0a16_6_b
    rw [if_pos (nI_le (by omega) (by omega))]
    exact ⟨h, rfl, SH.rf h, rfl, fun _ _ => rfl, fun j => by rw [if_neg (by omega)]⟩
  | succ r ih =>
    intro k n h t l hk hn
    obtain ⟨n, rfl⟩ : ∃ j, n = j + 1 := ⟨n - 1, by omega⟩
    show ∃ h', f_J7_fill_d0a16_6_b F (f_J7_fill_d0a16_6 F n) a 0 (nI k) (nI N) h = _ ∧ _
    unfold f_J7_fill_d0a16_6_b
    rw [if_neg (nI_ge (by omega) hN), wL_n t l rfl (show k < N by omega) hN, nI_1]
    obtain ⟨h', e, s, i, o, v⟩ := ih (k + 1) n (hp_sL h a k 0) t l (by omega) (by omega)
    refine ⟨h', e, s, i, fun y hy => by rw [o y hy, sL_ne h k 0 hy], fun j => ?_⟩
    rw [v j, sL_at]
    by_cases q : k + 1 ≤ j ∧ j < N
    · rw [if_pos q, if_pos (by omega)]
    · rw [if_neg q]
      by_cases q2 : j = k
      · rw [if_pos q2, if_pos (by omega)]
      · rw [if_neg q2, if_neg (by omega)]
theorem fillL (F : Nat) {a N : Nat} (hN : N < 2 ^ 31) (hF : N < F) {h : Hp} (t : hp_t h a = 23) (l : hp_l h a = N) : ∃ h', f_J7_fill_d0a16 F a 0 h = some ((), h') ∧ SH h h' ∧ hp_I h' = hp_I h ∧ (∀ y, y ≠ a → hp_L h' y = hp_L h y) ∧ ∀ j, hp_L h' a j = if j < N then 0 else hp_L h a j := by
  unfold f_J7_fill_d0a16
  rw [al_n t l]
  obtain ⟨h', e, s, i, o, v⟩ := fillL_r F hN N 0 F h t l (by omega) hF
  refine ⟨h', e, s, i, o, fun j => ?_⟩
  rw [v j]
  by_cases q : j < N
  · rw [if_pos q, if_pos (by omega)]
  · rw [if_neg q, if_neg (by omega)]
def trks : List Nat := [38, 39, 40, 41, 42, 43, 44, 45]
theorem trks_m {k : Nat} (h1 : 38 ≤ k) (h2 : k < 46) : k ∈ trks := by
  have : ∀ k, k < 46 → 38 ≤ k → k ∈ trks := by decide
  exact this k h2 h1
theorem cc_numbers (F : Nat) (hF : 100 ≤ F) {h : Hp} {x : Nat} (c : CSH h x) {tr : TRY} (rt : CTR h x tr) (y z w : Int32) : ∃ h', f_X11_numbers F x y z w h = some ((sp_numbers y z w).1, h') ∧ FA x trks h h' ∧ CTR h' x (trL tr (sp_numbers y z w).2) := by
  have fr : FA x trks h h := FA.rf _ _ _
  unfold f_X11_numbers sp_numbers
  rw [cV_n c.t0 (cc_noTray F c y)]
  have v4 : vi y 4 = vb y 0 3 := by
    unfold vi vb
    by_cases q : 0 ≤ y.toInt ∧ y.toInt < (4 : Nat)
    · rw [if_pos q, if_pos (by omega)]
    · rw [if_neg q, if_neg (by omega)]
  rw [v4]
  cases hy : vb y 0 3 with
  | none => rw [if_neg nbs1]; exact ⟨h, rfl, fr, rt⟩
  | some i =>
    obtain ⟨-, i3, rfl, -⟩ := vb_some hy
    have hi : i < 4 := by omega
    rw [if_pos (nbs0 i)]
    cases hz : vb z 0 3 with
    | none =>
      by_cases q : z < 0
      · rw [if_pos q]; exact ⟨h, rfl, fr, rt⟩
      · rw [if_neg q]
        rcases vb_n (by decide) (by decide) hz with u | u
        · exact absurd u q
        · rw [if_neg (show ¬ z ≤ 3 from not_le_lt u)]; exact ⟨h, rfl, fr, rt⟩
    | some so =>
      obtain ⟨-, so3, rfl, -⟩ := vb_some hz
      rw [if_neg (nI_pos (by omega)), if_pos (show nI so ≤ 3 from nI_le (b := 3) so3 (by decide))]
      cases hw : vb w 0 40 with
      | none =>
        by_cases q : w < 0
        · rw [if_pos q]; exact ⟨h, rfl, fr, rt⟩
        · rw [if_neg q]
          rcases vb_n (by decide) (by decide) hw with u | u
          · exact absurd u q
          · rw [if_neg (show ¬ w ≤ 40 from not_le_lt u)]; exact ⟨h, rfl, fr, rt⟩
      | some N =>
        obtain ⟨-, N3, rfl, -⟩ := vb_some hw
        obtain ⟨t1, t2, t3, t4⟩ := c.tt hi
        have e : ∃ h', f_X9_lay F (x + (38 + 2 * i)) (nI so) (nI N) h = some ((), h') ∧ FA x trks h h' ∧ CTR h' x (trL tr (some (i, so, N))) := by
          unfold f_X9_lay
          rw [pI_n t1, pI_n (show hp_t (hp_sI h (x + (38 + 2 * i)) 1 (nI so)) _ = 10 from t1), gR_n (show hp_t (hp_sI (hp_sI h (x + (38 + 2 * i)) 1 (nI so)) (x + (38 + 2 * i)) 0 (nI N)) _ = 10 from t1) (show hp_R (hp_sI (hp_sI h (x + (38 + 2 * i)) 1 (nI so)) (x + (38 + 2 * i)) 0 (nI N)) _ 2 = some (x + (39 + 2 * i)) from t2)]
          obtain ⟨h', e, s, ii, o, v⟩ := fillL F (N := 40) (by decide) (by omega) (h := hp_sI (hp_sI h (x + (38 + 2 * i)) 1 (nI so)) (x + (38 + 2 * i)) 0 (nI N)) t3 t4
          rw [bd_n e]
          refine ⟨h', rfl, ⟨s, fun a ha => ⟨?_, ?_⟩⟩, fun j hj => ?_⟩
          · rw [ii, sI_ne _ 0 _ (ha _ (trks_m (by omega) (by omega))), sI_ne _ 1 _ (ha _ (trks_m (by omega) (by omega)))]
          · rw [o a (ha _ (trks_m (by omega) (by omega)))]; rfl
          · show match (if j = i then some (so, N, fun _ => (0 : Int64)) else tr j) with | none => _ | some q => _
            rw [ii]
            by_cases q : j = i
            · subst q
              rw [if_pos rfl]
              refine ⟨?_, N3, ?_, so3, fun k hk => ?_⟩
              · rw [sI_at, if_pos rfl]
              · rw [sI_at, if_neg (by decide), sI_at, if_pos rfl]
              · rw [v k, if_pos (show k < 40 from Nat.lt_of_lt_of_le hk N3)]
            · rw [if_neg q]
              have := rt j hj
              rw [sI_ne _ 0 _ (show x + (38 + 2 * j) ≠ x + (38 + 2 * i) by omega), sI_ne _ 1 _ (show x + (38 + 2 * j) ≠ x + (38 + 2 * i) by omega), o _ (show x + (39 + 2 * j) ≠ x + (39 + 2 * i) by omega)]
              exact this
        obtain ⟨h', e1, e2, e3⟩ := e
        rw [if_neg (nI_pos (by omega)), if_pos (show nI N ≤ 40 from nI_le (b := 40) N3 (by decide)), c.g0 8 20 (by decide), c.tray hi, cV_n t1 e1]
        exact ⟨h', rfl, e2, e3⟩
theorem cc_cut (F : Nat) {h : Hp} {q so : Nat} (t : hp_t h q = 10) (e : hp_I h q 1 = nI so) (hs : so ≤ 3) (v : Int64) : f_X9_cut F q v h = some (cutL so v, h) := by
  unfold f_X9_cut cutL
  rw [gI_n t, e]
  rcases (show so = 0 ∨ so = 1 ∨ so = 2 ∨ so = 3 by omega) with rfl | rfl | rfl | rfl
  · rfl
  · rw [if_neg (show ¬ nI 1 = 0 by decide), if_pos (show nI 1 = 1 by decide)]; rfl
  · rw [if_neg (show ¬ nI 2 = 0 by decide), if_neg (show ¬ nI 2 = 1 by decide), if_pos (show nI 2 = 2 by decide)]; rfl
  · rw [if_neg (show ¬ nI 3 = 0 by decide), if_neg (show ¬ nI 3 = 1 by decide), if_neg (show ¬ nI 3 = 2 by decide)]; rfl
theorem cc_put (F : Nat) {h : Hp} {x : Nat} (c : CSH h x) {tr : TRY} (rt : CTR h x tr) {i k : Nat} (hi : i < 4) {q : Nat × Nat × (Nat → Int64)} (hq : tr i = some q) (hk : k < q.2.1) (v : Int64) : f_X9_put F (x + (38 + 2 * i)) (nI k) v h = some ((), hp_sL h (x + (39 + 2 * i)) k (cutL q.1 v)) := by
  obtain ⟨t1, t2, t3, t4⟩ := c.tt hi
  have := rt i hi
  rw [hq] at this
  obtain ⟨a1, a2, a3, a4, a5⟩ := this
  unfold f_X9_put
  rw [if_neg (nI_pos (by omega)), gR_n t1 t2, al_n t3 t4, if_neg (nI_ge (by omega) (by decide)), gR_n t1 t2, cV_n t1 (cc_cut F t1 a3 a4 v), wL_n t3 t4 rfl (by omega) (by decide)]
theorem CTR.put {h : Hp} {x : Nat} {tr : TRY} (rt : CTR h x tr) {i k : Nat} (hi : i < 4) {q : Nat × Nat × (Nat → Int64)} (hq : tr i = some q) (v : Int64) : CTR (hp_sL h (x + (39 + 2 * i)) k v) x (trW tr (some (i, k, v))) := by
  intro j hj
  have := rt j hj
  show match (if j = i then (tr j).map (fun q => (q.1, q.2.1, fun l => if l = k then v else q.2.2 l)) else tr j) with | none => _ | some q => _
  by_cases e : j = i
  · subst e
    rw [if_pos rfl, hq]
    rw [hq] at this
    refine ⟨this.1, this.2.1, this.2.2.1, this.2.2.2.1, fun l hl => ?_⟩
    rw [sL_at]
    by_cases z : l = k
    · rw [if_pos z]; show _ = (if l = k then v else q.2.2 l); rw [if_pos z]
    · rw [if_neg z]; show _ = (if l = k then v else q.2.2 l); rw [if_neg z]; exact this.2.2.2.2 l hl
  · rw [if_neg e, sL_ne _ k _ (show x + (39 + 2 * j) ≠ x + (39 + 2 * i) by omega)]
    exact this
theorem cc_write (F : Nat) {h : Hp} {x : Nat} (c : CSH h x) {tr : TRY} (rt : CTR h x tr) (y z : Int32) (v : Int64) : ∃ h', f_X11_write F x y z v h = some ((sp_write tr y z v).1, h') ∧ FA x trks h h' ∧ CTR h' x (trW tr (sp_write tr y z v).2) := by
  have fr : FA x trks h h := FA.rf _ _ _
  unfold f_X11_write sp_write tra trc
  rw [cV_n c.t0 (cc_noTray F c y)]
  cases hy : vi y 4 with
  | none => rw [if_neg nbs1]; exact ⟨h, rfl, fr, rt⟩
  | some i =>
    obtain ⟨hi, rfl⟩ := vi_some hy
    obtain ⟨t1, t2, t3, t4⟩ := c.tt hi
    rw [if_pos (nbs0 i), c.g0 8 20 (by decide), c.tray hi]
    rw [show (some i).bind tr = tr i from rfl]
    cases hq : tr i with
    | none =>
      rw [cV_n t1 (cc_miss1 F rt c hi hq), if_neg (by decide)]
      exact ⟨h, rfl, fr, rt⟩
    | some q =>
      have ty := rt.ty c hi hq
      have := rt i hi
      rw [hq] at this
      obtain ⟨a1, a2, a3, a4, a5⟩ := this
      rw [cV_n t1 (cc_miss0 F ty), if_pos rfl, c.g0 8 20 (by decide), c.tray hi, gI_n t1, a1]
      dsimp only
      cases hz : vi z q.2.1 with
      | none =>
        by_cases u : z < 0
        · rw [if_pos u]; exact ⟨h, rfl, fr, rt⟩
        · rw [if_neg u]
          rcases viN (by omega) hz with w | w
          · exact absurd w u
          · rw [if_neg (not_lt_le w)]; exact ⟨h, rfl, fr, rt⟩
      | some k =>
        obtain ⟨k1, rfl⟩ := vi_some hz
        have rt2 := rt.put (k := k) hi hq (cutL q.1 v)
        have c2 : CSH (hp_sL h (x + (39 + 2 * i)) k (cutL q.1 v)) x := c.sh (SH.rf h)
        have hq2 : trW tr (some (i, k, cutL q.1 v)) i = some (q.1, q.2.1, fun l => if l = k then cutL q.1 v else q.2.2 l) := by
          show (if i = i then (tr i).map _ else tr i) = _
          rw [if_pos rfl, hq]; rfl
        rw [if_neg (nI_pos (by omega)), if_pos (nI_lt k1 (by omega)), c.g0 8 20 (by decide), c.tray hi, cV_n t1 (cc_put F c rt hi hq k1 v), c2.g0 8 20 (by decide), c2.tray hi, cV_n (show hp_t (hp_sL h _ k _) _ = 10 from t1) (cc_at F (rt2.ty c2 hi hq2) (show k < q.2.1 from k1))]
        refine ⟨hp_sL h (x + (39 + 2 * i)) k (cutL q.1 v), ?_, FA.sL (trks_m (by omega) (by omega)), ?_⟩
        · show some ((if k = k then cutL q.1 v else _), _) = _
          rw [if_pos rfl]
        · rw [show (nI i).toInt.toNat = i by rw [nI_toInt (by omega)]; rfl]
          exact rt2
