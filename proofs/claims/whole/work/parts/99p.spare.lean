/-! L3, the class: a spare house -/
/-- a house at q in the making: c arrays are there -/
def NHs (g0 g : Hp) (q c : Nat) : Prop := (hp_t g q = 3 ∧ hp_n g = q + 1 + c ∧ q = hp_n g0) ∧ (∀ k, 0 < k → k ≤ c → hp_R g q (4 + k) = some (q + k) ∧ hp_t g (q + k) = 20 ∧ hp_l g (q + k) = hs_l k) ∧ (∀ k j, k ≤ c → hp_I g (q + k) j = 0) ∧ FW (fun _ => False) g0 g
theorem nw_t (h : Hp) (t n w y : Nat) : hp_t (hp_nw h t n w) y = if y = hp_n h then t else hp_t h y := rfl
theorem nw_l (h : Hp) (t n w y : Nat) : hp_l (hp_nw h t n w) y = if y = hp_n h then n else hp_l h y := rfl
theorem nw_I (h : Hp) (t n w y j : Nat) : hp_I (hp_nw h t n w) y j = if y = hp_n h then 0 else hp_I h y j := rfl
theorem nw_L (h : Hp) (t n w y j : Nat) : hp_L (hp_nw h t n w) y j = if y = hp_n h then 0 else hp_L h y j := rfl
theorem nw_R (h : Hp) (t n w y j : Nat) : hp_R (hp_nw h t n w) y j = if y = hp_n h then none else hp_R h y j := rfl
theorem nw_n (h : Hp) (t n w : Nat) : hp_n (hp_nw h t n w) = hp_n h + 1 := rfl
theorem nw_s (h : Hp) (t n w : Nat) : hp_s (hp_nw h t n w) = hp_s h + w := rfl
theorem nw_k (h : Hp) (t n w : Nat) : hp_k (hp_nw h t n w) = hp_k h := rfl
theorem nh_0 (h : Hp) : NHs h (hp_nw h 3 0 10) (hp_n h) 0 := by
  refine ⟨⟨by rw [nw_t, if_pos rfl], by rw [nw_n], rfl⟩, fun k h1 h2 => by omega, fun k j hk => ?_, FW.nw⟩
  rw [nw_I, if_pos (by omega)]
theorem nh_s {g0 g : Hp} {q c : Nat} (c0 : NHs g0 g q c) (hc : c < 5) {i : Int32} (hi : i = nI (hs_l (c + 1))) {f : Nat} (hf : f = 5 + c) (K : Hp → Option (Unit × Hp)) : ∃ g', NHs g0 g' q (c + 1) ∧ hp_s g' = hp_s g + hs_l (c + 1) ∧ (nA 20 g i fun b h2 => pR 3 h2 q f b fun h3 => K h3) = K g' := by
  obtain ⟨⟨a1, a2, a3⟩, b, z, w⟩ := c0
  have l6 : hs_l (c + 1) ≤ 1000000 := by
    rcases (show c = 0 ∨ c = 1 ∨ c = 2 ∨ c = 3 ∨ c = 4 by omega) with rfl | rfl | rfl | rfl | rfl <;> decide
  have nq : q ≠ hp_n g := by omega
  refine ⟨hp_sR (hp_nw g 20 (hs_l (c + 1)) (hs_l (c + 1))) q f (some (hp_n g)), ⟨⟨?_, ?_, a3⟩, fun k h1 h2 => ?_, fun k j hk => ?_, ?_⟩, ?_, ?_⟩
  · rw [hp_t_sR, nw_t, if_neg nq]; exact a1
  · rw [hp_n_sR, nw_n]; omega
  · rw [hp_t_sR, hp_l_sR, sR_at, nw_t, nw_l]
    by_cases y : k = c + 1
    · rw [if_pos (by omega), if_pos (by omega), if_pos (by omega), y, show hp_n g = q + (c + 1) by omega]
      exact ⟨rfl, rfl, rfl⟩
    · rw [if_neg (by omega), if_neg (by omega), if_neg (by omega), nw_R, if_neg nq]
      exact b k h1 (by omega)
  · rw [hp_I_sR, nw_I]
    by_cases y : q + k = hp_n g
    · rw [if_pos y]
    · rw [if_neg y]; exact z k j (by omega)
  · refine FW.tr w (FW.tr FW.nw (FW.sR (W := fun y => y = q) rfl) (fun y hy e => ?_)) (fun y hy e => ?_) (W' := fun y => y = q)
    · exact e
    · omega
  · rw [hp_s_sR, nw_s]
  · rw [nA_n hi l6, pR_n (by rw [nw_t, if_neg nq]; exact a1)]
theorem mk_house (F : Nat) {ρ : Type} (h : Hp) : ∃ h', HSh h' (hp_n h) ∧ (∀ k j, k ≤ 5 → hp_I h' (hp_n h + k) j = 0) ∧ FW (fun _ => False) h h' ∧ hp_n h' = hp_n h + 6 ∧ hp_s h' = hp_s h + 2300 ∧ ∀ K : Nat → Hp → Option (ρ × Hp), (nO 3 h fun b h5 => bd (f_X2_init F b h5) fun _ h7 => K b h7) = K (hp_n h) h' := by
  have c0 := nh_0 h
  obtain ⟨g1, c1, s1, -⟩ := nh_s c0 (by decide) (i := 4) rfl (f := 5) rfl (fun h => some ((), h))
  obtain ⟨g5, -, -, -⟩ := nh_s c0 (by decide) (i := 4) rfl (f := 5) rfl (fun h => some ((), h))
  have run : ∃ h', NHs h h' (hp_n h) 5 ∧ hp_s h' = hp_s h + 2300 ∧ f_X2_init F (hp_n h) (hp_nw h 3 0 10) = some ((), h') := by
    obtain ⟨g1, c1, s1, e1⟩ := nh_s c0 (by decide) (i := 4) rfl (f := 5) rfl (fun h3 => nA 20 h3 24 fun b4 h5 => pR 3 h5 (hp_n h) 6 b4 fun h6 => nA 20 h6 6 fun b7 h8 => pR 3 h8 (hp_n h) 7 b7 fun h9 => nA 20 h9 256 fun b10 h11 => pR 3 h11 (hp_n h) 8 b10 fun h12 => nA 20 h12 2000 fun b13 h14 => pR 3 h14 (hp_n h) 9 b13 fun h15 => some ((), h15))
    obtain ⟨g2, c2, s2, e2⟩ := nh_s c1 (by decide) (i := 24) rfl (f := 6) rfl (fun h6 => nA 20 h6 6 fun b7 h8 => pR 3 h8 (hp_n h) 7 b7 fun h9 => nA 20 h9 256 fun b10 h11 => pR 3 h11 (hp_n h) 8 b10 fun h12 => nA 20 h12 2000 fun b13 h14 => pR 3 h14 (hp_n h) 9 b13 fun h15 => some ((), h15))
    obtain ⟨g3, c3, s3, e3⟩ := nh_s c2 (by decide) (i := 6) rfl (f := 7) rfl (fun h9 => nA 20 h9 256 fun b10 h11 => pR 3 h11 (hp_n h) 8 b10 fun h12 => nA 20 h12 2000 fun b13 h14 => pR 3 h14 (hp_n h) 9 b13 fun h15 => some ((), h15))
    obtain ⟨g4, c4, s4, e4⟩ := nh_s c3 (by decide) (i := 256) rfl (f := 8) rfl (fun h12 => nA 20 h12 2000 fun b13 h14 => pR 3 h14 (hp_n h) 9 b13 fun h15 => some ((), h15))
    obtain ⟨g5, c5, s5, e5⟩ := nh_s c4 (by decide) (i := 2000) rfl (f := 9) rfl (fun h15 => some ((), h15))
    refine ⟨g5, c5, ?_, ?_⟩
    · rw [s5, s4, s3, s2, s1, nw_s]
      show hp_s h + 10 + 4 + 24 + 6 + 256 + 2000 = hp_s h + 2300
      omega
    · unfold f_X2_init
      exact (((e1.trans e2).trans e3).trans e4).trans e5
  obtain ⟨h', ⟨⟨a1, a2, -⟩, b, z, w⟩, s, e⟩ := run
  refine ⟨h', ⟨a1, fun k h1 h2 => b k h1 (by omega)⟩, fun k j hk => z k j hk, w, by omega, s, fun K => ?_⟩
  show (bd (f_X2_init F (hp_n h) (hp_nw h 3 0 (kc_n 3))) fun _ h7 => K (hp_n h) h7) = _
  rw [bd_n (show f_X2_init F (hp_n h) (hp_nw h 3 0 (kc_n 3)) = _ from e)]
/-- the pool: P houses, the k-th at p k -/
def POo (h : Hp) (x : Nat) (ow : Nat → Nat) (P : Nat) (p : Nat → Nat) : Prop := (1 ≤ P ∧ P ≤ 4) ∧ (∀ k, k < P → hp_R h (x + 2) k = some (p k) ∧ HSh h (p k) ∧ ∀ j, j < 6 → ow (p k + j) = 100 + k ∧ p k + j < hp_n h) ∧ ∀ k, P ≤ k → k < 4 → hp_R h (x + 2) k = none
theorem POo.ne {h : Hp} {x : Nat} {ow : Nat → Nat} {P : Nat} {p : Nat → Nat} (c : POo h x ow P p) {j k : Nat} (hj : j < P) (hk : k < P) (e : p j = p k) : j = k := by
  have a := ((c.2.1 j hj).2.2 0 (by decide)).1
  have b := ((c.2.1 k hk).2.2 0 (by decide)).1
  rw [e] at a
  omega
/-- an address is in use: home or an image's -/
def inU (h : Hp) (x a q : Nat) : Prop := a = q ∨ hp_R h (x + 21) 0 = some q ∨ hp_R h (x + 21) 1 = some q
theorem iu_s (F : Nat) {h : Hp} {x : Nat} (c : CSH h x) {i : Nat} (hi : i < 2) (q : Nat) (n : Nat) : f_X11_isInUse_2 F (n + 1) x q (nI i) h = if hp_R h (x + 21) i = some q then some (1, h) else f_X11_isInUse_2 F n x q (nI (i + 1)) h := by
  show f_X11_isInUse_2_b F (f_X11_isInUse_2 F n) x q (nI i) h = _
  unfold f_X11_isInUse_2_b
  rw [c.g0 9 21 (by decide), al_n (c.t 21 24 (by decide)) (c.l 21 2 (by decide)), if_neg (nI_ge hi (by decide)), c.g0 9 21 (by decide), nI_1]
  unfold aO
  rw [gd_t ⟨c.t 21 24 (by decide), by rw [c.l 21 2 (by decide)]; exact inb_n hi (by decide)⟩, ix_n (by omega)]
  cases hr : hp_R h (x + 21) i with
  | none => rw [if_neg (fun e => by injection e)]; rfl
  | some v =>
    show (if v = q then _ else _) = _
    by_cases z : v = q
    · rw [if_pos z, if_pos (by rw [z])]
    · rw [if_neg z, if_neg (fun e => z (by injection e))]
theorem iu (F : Nat) (hF : 100 ≤ F) {h : Hp} {x a : Nat} (c : CSH h x) (r : hp_R h x 3 = some a) (q : Nat) : (inU h x a q ∧ f_X11_isInUse F x q h = some (1, h)) ∨ (¬ inU h x a q ∧ f_X11_isInUse F x q h = some (0, h)) := by
  obtain ⟨G, rfl⟩ : ∃ G, F = G + 1 + 1 + 1 := ⟨F - 3, by omega⟩
  unfold f_X11_isInUse
  have e0 := iu_s (G + 1 + 1 + 1) c (i := 0) (by decide) q (G + 1 + 1)
  have e1 := iu_s (G + 1 + 1 + 1) c (i := 1) (by decide) q (G + 1)
  have e2 : f_X11_isInUse_2 (G + 1 + 1 + 1) (G + 1) x q (nI 2) h = if a = q then some (1, h) else some (0, h) := by
    show f_X11_isInUse_2_b (G + 1 + 1 + 1) (f_X11_isInUse_2 (G + 1 + 1 + 1) G) x q (nI 2) h = _
    unfold f_X11_isInUse_2_b
    rw [c.g0 9 21 (by decide), al_n (c.t 21 24 (by decide)) (c.l 21 2 (by decide)), if_pos (show nI 2 ≤ nI 2 by decide), gR_n c.t0 r]
  rw [show f_X11_isInUse_2 (G + 1 + 1 + 1) (G + 1 + 1 + 1) x q 0 h = _ from e0, e1, e2]
  by_cases z0 : hp_R h (x + 21) 0 = some q
  · rw [if_pos z0]; exact Or.inl ⟨Or.inr (Or.inl z0), rfl⟩
  · rw [if_neg z0]
    by_cases z1 : hp_R h (x + 21) 1 = some q
    · rw [if_pos z1]; exact Or.inl ⟨Or.inr (Or.inr z1), rfl⟩
    · rw [if_neg z1]
      by_cases z2 : a = q
      · rw [if_pos z2]; exact Or.inl ⟨Or.inl z2, rfl⟩
      · rw [if_neg z2]
        exact Or.inr ⟨fun w => w.elim z2 (fun w => w.elim z0 z1), rfl⟩
theorem sp_33 (F : Nat) (hF : 100 ≤ F) {h : Hp} {x a k q : Nat} (c : CSH h x) (r : hp_R h x 3 = some a) (hk : k < 4) (hq : hp_R h (x + 2) k = some q) (K2 : Nat → Int32 → Hp → Option (Nat × Hp)) : (inU h x a q ∧ f_X11_spareHouse_33 F K2 x (nI k) h = K2 x (nI (k + 1)) h) ∨ (¬ inU h x a q ∧ f_X11_spareHouse_33 F K2 x (nI k) h = some (q, h)) := by
  have ea : ∀ (K : Nat → Option (Nat × Hp)), aR 24 h (x + 2) (nI k) K = K q := fun K => by
    unfold aR
    rw [gd_t ⟨c.t 2 24 (by decide), by rw [c.l 2 4 (by decide)]; exact inb_n hk (by decide)⟩, ix_n (by omega), hq]
    rfl
  unfold f_X11_spareHouse_33
  rw [c.g0 2 2 (by decide), ea]
  rcases iu F hF c r q with ⟨u, e⟩ | ⟨u, e⟩
  · left
    rw [cV_n c.t0 e, if_neg (show ¬ (1 : Int32) = 0 by decide), nI_1]
    exact ⟨u, rfl⟩
  · right
    rw [cV_n c.t0 e, if_pos rfl, c.g0 2 2 (by decide), ea]
    exact ⟨u, rfl⟩
/-- how a spare house is found: q, the k-th of the pool -/
def SPf (h : Hp) (x a : Nat) (ow : Nat → Nat) (P : Nat) (p : Nat → Nat) (q : Nat) (h' : Hp) : Prop := ∃ ow' P' p' k, POo h' x ow' P' p' ∧ (k < P' ∧ q = p' k ∧ ¬ inU h x a q) ∧ OE h ow ow' ∧ FO [2] ow h h' ∧ (P ≤ P' ∧ hp_n h' + 6 * P = hp_n h + 6 * P' ∧ hp_s h' + 2300 * P = hp_s h + 2300 * P') ∧ (∀ j, j < P → p' j = p j)
theorem sp_r (F : Nat) (hF : 100 ≤ F) {h : Hp} {x a : Nat} {ow : Nat → Nat} {P : Nat} {p : Nat → Nat} (c : CSH h x) (ka : KA h x ow) (r : hp_R h x 3 = some a) (po : POo h x ow P p) (ua : ∀ q, inU h x a q → ∃ k, k < P ∧ q = p k) : ∀ d k n, k + d = 4 → d < n → k ≤ P → (∀ j, j < k → inU h x a (p j)) → ∃ q h', f_X11_spareHouse_2 F n x (nI k) h = some (q, h') ∧ SPf h x a ow P p q h' := by
  intro d
  induction d with
  | zero =>
    intro k n hk hn hP hu
    obtain rfl : k = 4 := by omega
    exfalso
    have P4 : P = 4 := by have := po.1.2; omega
    obtain ⟨ka', ka1, ka2⟩ := ua a (Or.inl rfl)
    -- the three in use have at most three places
    have key : ∃ k0 k1, ∀ j, j < 4 → j = ka' ∨ j = k0 ∨ j = k1 := by
      have one : ∀ i, (∃ k0, ∀ q, hp_R h (x + 21) i = some q → ∀ j, j < 4 → q = p j → j = k0) := fun i => by
        cases hr : hp_R h (x + 21) i with
        | none => exact ⟨0, fun q e => by injection e⟩
        | some v =>
          by_cases w : ∃ j, j < 4 ∧ v = p j
          · obtain ⟨j0, j1, j2⟩ := w
            refine ⟨j0, fun q e j hj ej => ?_⟩
            injection e with e
            exact po.ne (by omega) (by omega) (by rw [← ej, ← e, j2])
          · exact ⟨0, fun q e j hj ej => by
              injection e with e
              exact absurd ⟨j, hj, by rw [e]; exact ej⟩ w⟩
      obtain ⟨k0, h0⟩ := one 0
      obtain ⟨k1, h1⟩ := one 1
      refine ⟨k0, k1, fun j hj => ?_⟩
      rcases hu j hj with u | u | u
      · left; exact po.ne (by omega) ka1 (by rw [← u]; exact ka2)
      · right; left; exact h0 _ u j hj rfl
      · right; right; exact h1 _ u j hj rfl
    obtain ⟨k0, k1, hh⟩ := key
    have := hh 0 (by decide); have := hh 1 (by decide); have := hh 2 (by decide); have := hh 3 (by decide)
    omega
  | succ d ih =>
    intro k n hk hn hP hu
    obtain ⟨n, rfl⟩ : ∃ j, n = j + 1 := ⟨n - 1, by omega⟩
    have hk4 : k < 4 := by omega
    have go : f_X11_spareHouse_2 F (n + 1) x (nI k) h = oc (hp_R h (x + 2) k) (nO 3 h fun b11 h12 => bd (f_X2_init F b11 h12) fun _ h14 => wR 24 h14 (x + 2) (nI k) b11 fun h15 => f_X11_spareHouse_33 F (f_X11_spareHouse_2 F n) x (nI k) h15) (fun _ => f_X11_spareHouse_33 F (f_X11_spareHouse_2 F n) x (nI k) h) := by
      show f_X11_spareHouse_2_b F (f_X11_spareHouse_2 F n) x (nI k) h = _
      unfold f_X11_spareHouse_2_b
      rw [c.g0 2 2 (by decide), al_n (c.t 2 24 (by decide)) (c.l 2 4 (by decide)), if_neg (nI_ge hk4 (by decide)), c.g0 2 2 (by decide)]
      unfold aO
      rw [gd_t ⟨c.t 2 24 (by decide), by rw [c.l 2 4 (by decide)]; exact inb_n hk4 (by decide)⟩, ix_n (by omega), c.g0 2 2 (by decide)]
    by_cases kP : k < P
    · obtain ⟨r1, r2, r3⟩ := po.2.1 k kP
      rw [go, r1]
      show ∃ q h', f_X11_spareHouse_33 F (f_X11_spareHouse_2 F n) x (nI k) h = _ ∧ _
      rcases sp_33 F hF c r hk4 r1 (f_X11_spareHouse_2 F n) with ⟨u, e⟩ | ⟨u, e⟩
      · rw [e]
        refine ih (k + 1) n (by omega) (by omega) (by omega) (fun j hj => ?_)
        by_cases y : j = k
        · rw [y]; exact u
        · exact hu j (by omega)
      · exact ⟨p k, h, e, ow, P, p, k, po, ⟨kP, rfl, u⟩, OE.rf _ _, FO.rf _ _ _, ⟨Nat.le_refl _, rfl, rfl⟩, fun _ _ => rfl⟩
    · obtain rfl : k = P := by omega
      have k2 := ka.1 2 (by decide) (by decide)
      rw [go, po.2.2 k (Nat.le_refl _) hk4]
      show ∃ q h', (nO 3 h fun b11 h12 => bd (f_X2_init F b11 h12) fun _ h14 => wR 24 h14 (x + 2) (nI k) b11 fun h15 => f_X11_spareHouse_33 F (f_X11_spareHouse_2 F n) x (nI k) h15) = _ ∧ _
      obtain ⟨h1, hs1, z1, w1, n1, s1, e1⟩ := mk_house F (ρ := Nat) h
      rw [e1]
      have c1 : CSH h1 x := c.fo ka (show FO [] ow h h1 from w1.mono (fun _ _ y => y.elim)) (by decide)
      have ew : ∀ (K : Hp → Option (Nat × Hp)), wR 24 h1 (x + 2) (nI k) (hp_n h) K = K (hp_sR h1 (x + 2) k (some (hp_n h))) := fun K => by
        unfold wR
        rw [gd_t ⟨c1.t 2 24 (by decide), by rw [c1.l 2 4 (by decide)]; exact inb_n hk4 (by decide), hs1.1⟩, ix_n (by omega)]
      rw [ew]
      have c2 : CSH (hp_sR h1 (x + 2) k (some (hp_n h))) x := c1.sR (k := 2) _ (fun q hq z => (by decide : ∀ q ∈ crf, q.1 ≠ 2) q hq z.1)
      have f2 : FO [2] ow h (hp_sR h1 (x + 2) k (some (hp_n h))) := FW.tr (w1.mono (fun _ _ y => y.elim)) (FW.sR (W := fun y => y = x + 2) rfl) (fun y _ e => by
        show ow y ∈ [2]
        rw [e, k2.1]; decide)
      have R2 : ∀ y, y < hp_n h → y ≠ x + 2 → hp_R (hp_sR h1 (x + 2) k (some (hp_n h))) y = hp_R h y := fun y hy ne => by
        rw [sR_ne _ _ _ ne]
        exact ((w1.2.2 y hy).2 (fun z => z)).2.2
      have k0 := ka.1 0 (by decide) (by decide)
      rw [Nat.add_zero] at k0
      have k21 := ka.1 21 (by decide) (by decide)
      have r2 : hp_R (hp_sR h1 (x + 2) k (some (hp_n h))) x 3 = some a := by rw [R2 x k0.2 (by omega)]; exact r
      have u2 : ∀ q, inU (hp_sR h1 (x + 2) k (some (hp_n h))) x a q ↔ inU h x a q := fun q => by
        unfold inU
        rw [R2 (x + 21) k21.2 (by omega)]
      have nu : ¬ inU h x a (hp_n h) := fun u => by
        obtain ⟨j, j1, j2⟩ := ua _ u
        have := ((po.2.1 j j1).2.2 0 (by decide)).2
        omega
      rcases sp_33 F hF c2 r2 hk4 (show hp_R (hp_sR h1 (x + 2) k (some (hp_n h))) (x + 2) k = some (hp_n h) by rw [sR_at, if_pos rfl]) (f_X11_spareHouse_2 F n) with ⟨u, -⟩ | ⟨-, e⟩
      · exact absurd ((u2 _).mp u) nu
      · have oe : OE h ow (fun y => if y < hp_n h then ow y else 100 + k) := fun y hy => if_pos hy
        refine ⟨hp_n h, _, e, fun y => if y < hp_n h then ow y else 100 + k, k + 1, fun j => if j = k then hp_n h else p j, k, ⟨⟨by omega, by omega⟩, fun j hj => ?_, fun j h1 h2 => ?_⟩, ⟨by omega, (if_pos rfl).symm, nu⟩, oe, f2, ⟨by omega, by rw [hp_n_sR, n1]; omega, by rw [hp_s_sR, s1]; omega⟩, fun j hj => if_neg (by omega)⟩
        · show hp_R (hp_sR h1 (x + 2) k (some (hp_n h))) (x + 2) j = some (if j = k then hp_n h else p j) ∧ HSh (hp_sR h1 (x + 2) k (some (hp_n h))) (if j = k then hp_n h else p j) ∧ ∀ i, i < 6 → (if (if j = k then hp_n h else p j) + i < hp_n h then ow ((if j = k then hp_n h else p j) + i) else 100 + k) = 100 + j ∧ (if j = k then hp_n h else p j) + i < hp_n (hp_sR h1 (x + 2) k (some (hp_n h)))
          rw [hp_n_sR, n1]
          by_cases y : j = k
          · rw [if_pos y]
            refine ⟨by rw [sR_at, if_pos y], hs1.cg (fun i _ => ⟨by rw [hp_t_sR], by rw [hp_l_sR]⟩) (sR_ne _ _ _ (by omega)), fun i hi => ⟨by rw [if_neg (by omega), y], by omega⟩⟩
          · rw [if_neg y]
            obtain ⟨r1, r2, r3⟩ := po.2.1 j (by omega)
            have e0 := r3 0 (by decide)
            refine ⟨?_, r2.cg (fun i hi => ?_) (R2 _ e0.2 (fun e' => by have h1 := e0.1; rw [Nat.add_zero] at h1; rw [e', k2.1] at h1; omega)), fun i hi => ?_⟩
            · rw [sR_at, if_neg y, ((w1.2.2 _ k2.2).2 (fun z => z)).2.2]; exact r1
            · rw [hp_t_sR, hp_l_sR]
              exact (w1.2.2 _ (r3 i hi).2).1
            · have := r3 i hi
              exact ⟨by rw [if_pos this.2]; exact this.1, by omega⟩
        · rw [sR_at, if_neg (by omega), ((w1.2.2 _ k2.2).2 (fun z => z)).2.2]
          exact po.2.2 j (by omega) h2
theorem cc_spare (F : Nat) (hF : 100 ≤ F) {h : Hp} {x a : Nat} {ow : Nat → Nat} {P : Nat} {p : Nat → Nat} (c : CSH h x) (ka : KA h x ow) (r : hp_R h x 3 = some a) (po : POo h x ow P p) (ua : ∀ q, inU h x a q → ∃ k, k < P ∧ q = p k) : ∃ q h', f_X11_spareHouse F x h = some (q, h') ∧ SPf h x a ow P p q h' := by
  unfold f_X11_spareHouse
  exact sp_r F hF c ka r po ua 4 0 F (by omega) (by omega) (Nat.zero_le _) (fun j hj => absurd hj (Nat.not_lt_zero j))
