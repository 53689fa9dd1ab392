/-! L3, the class: chance, likeliest -/
theorem crf33 : ∀ q ∈ crf, (q.1 ∉ [33, 34]) ∨ q = (33, 1, 34) := by decide
theorem CV.fo33 {h h' : Hp} {x a s b : Nat} {ow : Nat → Nat} {hs : Nat → HM} {T : Nat} (c : CV h x a s b ow hs T) (f : FO [33, 34] ow h h') (e : hp_R h' (x + 33) 1 = hp_R h (x + 33) 1) : CV h' x a s b ow hs T := by
  obtain ⟨k, cb, ho, P1, S1, L1, P2, S2, L2, W, L3, J, L4, s1, s2, l3, l4, rfl⟩ := c
  have oe := OE.rf h ow
  refine ⟨k.oe oe f.1, ?_, ho.oe oe f.1, P1, S1, L1, P2, S2, L2, W, L3, J, L4, s1.fo k (by decide) f oe (by decide), s2.fo k (by decide) f oe (by decide), l3.fo f oe (k.q 29 (by decide)), l4.fo f oe (k.q 31 (by decide)), rfl⟩
  obtain ⟨c1, c2, c3, c4, c5⟩ := cb
  have k0 := k.1 0 (by decide) (by decide)
  rw [Nat.add_zero] at k0
  have k15 := k.1 15 (by decide) (by decide)
  refine ⟨⟨fun j hj h0 => ?_, fun q hq => ?_⟩, ?_, c3.fw f (fun j hj => ⟨(ho j hj).2.2, fun z => ?_⟩), c4.fw f k15.2 (fun z => ?_), c5⟩
  · have a := (f.2.2 _ (k.1 j hj h0).2).1
    rw [a.1, a.2]; exact c1.1 j hj h0
  · have b := crf_k q hq
    have a := k.1 q.1 b.1 b.2
    rcases crf33 q hq with z | z
    · rw [((f.2.2 _ a.2).2 (fun y => z (by have y : ow (x + q.1) ∈ [33, 34] := y; rw [a.1] at y; exact y))).2.2]
      exact c1.2 q hq
    · subst z
      rw [e]; exact c1.2 _ hq
  · rw [((f.2.2 x k0.2).2 (fun z => by have z : ow x ∈ [33, 34] := z; rw [k0.1] at z; exact absurd z (by decide))).2.2]; exact c2
  · have a1 : ∀ o ∈ [33, 34], o < 100 := by decide
    have a1 := a1 _ z
    have a2 := ho j hj
    omega
  · have z : ow (x + 15) ∈ [33, 34] := z
    rw [k15.1] at z
    exact absurd z (by decide)
theorem cc_draws (F : Nat) (hF : 70000 ≤ F) {h : Hp} {x a s b : Nat} {ow : Nat → Nat} {hs : Nat → HM} {T : Nat} (c : CV h x a s b ow hs T) {t n : Nat} (ht : t < 2) (hn : n ≤ 4) : ∃ h', f_X0_ask F (x + 33) a (x + 15) (nI t) (nI n) h = some ((), h') ∧ RC h x a s b ow hs T [33, 34] h' ∧ hp_I h' (x + 33) 0 = nI (whl (hs a) n) ∧ ∀ d, d < 6 → hp_I h' (x + 34) d = nI (lk2 (hs a) b t n s d) := by
  have t33 := c.2.1.1.t 33 1 (by decide)
  have t34 := c.2.1.1.t 34 20 (by decide)
  have l34 := c.2.1.1.l 34 6 (by decide)
  have r1 := c.2.1.1.2 (33, 1, 34) (by decide)
  have k33 := c.1.1 33 (by decide) (by decide)
  have k34 := c.1.1 34 (by decide) (by decide)
  have st := c.2.1.2.2.2.1
  obtain ⟨q, hq⟩ : ∃ q, q = x + 33 := ⟨_, rfl⟩
  obtain ⟨j, hj⟩ : ∃ j, j = x + 34 := ⟨_, rfl⟩
  have r1 : hp_R h q 1 = some j := by rw [hq, hj]; exact r1
  rw [← hq] at t33 k33 ⊢
  rw [← hj] at t34 l34 k34 ⊢
  have qj : q ≠ j := by omega
  have n15 : x + 15 ≠ q := by omega
  have n15j : x + 15 ≠ j := by omega
  let h1 := hp_sR h q 2 (some a)
  let h2 := hp_sI h1 q 3 (nI b)
  let h3 := hp_sI h2 q 4 (nI t)
  let h4 := hp_sI h3 q 0 0
  obtain ⟨h5, e5, f5, v5⟩ := fillI F (h := h4) (a := j) (N := 6) (by decide) (by omega) t34 l34
  let Wp : Nat → Prop := fun y => y = q ∨ y = j
  have fw4 : FW Wp h h4 := (((FW.sR (W := Wp) (h := h) (a := q) (k := 2) (v := some a) (Or.inl rfl)).tr (FW.sI (W := Wp) (h := h1) (a := q) (k := 3) (v := nI b) (Or.inl rfl)) (fun _ _ z => z)).tr (FW.sI (W := Wp) (h := h2) (a := q) (k := 4) (v := nI t) (Or.inl rfl)) (fun _ _ z => z)).tr (FW.sI (W := Wp) (h := h3) (a := q) (k := 0) (v := 0) (Or.inl rfl)) (fun _ _ z => z)
  have fw5 : FW Wp h h5 := fw4.tr (f5.f3 (q := q) (P := q)).fw (fun y _ z => by rcases z with z | z | z; exact Or.inl z; exact Or.inl z; exact Or.inr z)
  have inO : ∀ y, Wp y → ow y ∈ [33, 34] := fun y w => by
    rcases w with w | w
    · rw [w, k33.1]; decide
    · rw [w, k34.1]; decide
  have fo5 : FO [33, 34] ow h h5 := fw5.mono (fun y _ w => inO y w)
  have eR : hp_R h5 = hp_R h4 := f5.1.2.2.1
  have eR1 : hp_R h5 q 1 = hp_R h q 1 := by
    rw [eR]
    show hp_R (hp_sR h q 2 (some a)) q 1 = _
    rw [sR_at, if_neg (by decide)]
  have c5 : CV h5 x a s b ow hs T := c.fo33 fo5 (by rw [← hq]; exact eR1)
  have I4 : ∀ k, hp_I h4 q k = if k = 0 then 0 else if k = 4 then nI t else if k = 3 then nI b else hp_I h q k := fun k => by
    show hp_I (hp_sI (hp_sI (hp_sI h1 q 3 (nI b)) q 4 (nI t)) q 0 0) q k = _
    rw [sI_at, sI_at, sI_at]; rfl
  have I5 : hp_I h5 q = hp_I h4 q := f5.2.2 q qj
  have aj : ∀ k, k < 6 → a + k ≠ j := fun k hk e => by
    have := c.2.2.1 k hk
    rw [e, k34.1] at this
    omega
  have dw : DW h5 q j a (hs a) b t 0 (fun _ => 0) := by
    refine ⟨⟨by rw [f5.1.1]; exact t33, by rw [eR1]; exact r1, ?_⟩, ⟨by rw [f5.1.1]; exact t34, by rw [f5.1.2.1]; exact l34⟩, ⟨c5.2.1.hc, c.2.1.b10, ht, aj⟩, ⟨?_, ?_, ?_⟩, fun d hd => ?_⟩
    · rw [eR]
      show hp_R (hp_sR h q 2 (some a)) q 2 = _
      rw [sR_at, if_pos rfl]
    · rw [I5, I4]; rfl
    · rw [I5, I4]; rfl
    · rw [I5, I4]; rfl
    · rw [v5 d, if_pos hd]; rfl
  obtain ⟨h6, e6, f6, d6⟩ := cc_dgo F (by omega) n 16 h5 s 0 (fun _ => 0) (by omega) (by omega) c.2.1.ok dw
  have st5 := c5.2.1.2.2.2.1
  unfold f_X0_ask f_X0_go
  rw [pR_n t33, gI_n (show hp_t h1 (x + 15) = 9 from st.1), show hp_I h1 (x + 15) 1 = nI b from st.2.2, pI_n (show hp_t h1 q = 1 from t33), pI_n (show hp_t h2 q = 1 from t33), pI_n (show hp_t h3 q = 1 from t33)]
  show ∃ h', (gR 1 h4 q 1 fun v6 => _) = _ ∧ _
  have r41 : hp_R h4 q 1 = some j := by rw [← eR, eR1]; exact r1
  rw [gR_n (show hp_t h4 q = 1 from t33) r41, bd_n e5, gI_n st5.1, st5.2.1, cV_n (show hp_t h5 q = 1 from dw.1.1) (show f_grp_X0_go F 16 0 q (nI (cs s)) (nI n) h5 = some ((), h6) from e6)]
  have fo6 : FO [33, 34] ow h5 h6 := f6.fw.mono (fun y _ w => inO y w)
  have n6 : hp_n h6 = hp_n h := (f6.1.2.2.2.1).trans (f5.1.2.2.2.1)
  have s6 : hp_s h6 = hp_s h := (f6.1.2.2.2.2.1).trans (f5.1.2.2.2.2.1)
  refine ⟨h6, rfl, ⟨ow, T, c5.fo33 fo6 (by rw [f6.1.2.2.1]), OE.rf _ _, fo5.tr (OE.rf _ _) fo6, ⟨by rw [n6]; exact Nat.le_refl _, by rw [s6]; exact Nat.le_refl _, Nat.le_refl _⟩⟩, ?_, fun d hd => ?_⟩
  · rw [d6.2.2.2.1.1, Nat.zero_add]
  · rw [d6.2.2.2.2 d hd]
    dsimp only
    rw [Nat.zero_add]
theorem cc_hits (F : Nat) {h : Hp} {x d v : Nat} (c : CSH h x) (hd : d < 6) (e : hp_I h (x + 34) d = nI v) : f_X0_hitsOf F (x + 33) (nI d) h = some (nI v, h) := by
  unfold f_X0_hitsOf
  rw [if_neg (nI_pos (by omega)), c.g 1 33 1 34 (by decide), al_n (c.t 34 20 (by decide)) (c.l 34 6 (by decide)), if_neg (nI_ge (by omega) (by decide)), c.g 1 33 1 34 (by decide), aI_n (c.t 34 20 (by decide)) (c.l 34 6 (by decide)) rfl hd (by decide), e]
theorem cc_gcd_r (F : Nat) (h : Hp) : ∀ j x y k n, y < 2 ^ j → x < 2 ^ 31 → j ≤ 30 → k + (2 * j + 2) ≤ 100 → 2 * j + 2 ≤ n → f_X11_greatestDivisor_7 F n (nI x) (nI y) (nI k) h = some (nI (Nat.gcd x y), h) := by
  have zero : ∀ x k n, 1 ≤ n → f_X11_greatestDivisor_7 F n (nI x) (nI 0) (nI k) h = some (nI (Nat.gcd x 0), h) := by
    intro x k n hn
    obtain ⟨n, rfl⟩ : ∃ j, n = j + 1 := ⟨n - 1, by omega⟩
    show f_X11_greatestDivisor_7_b F (f_X11_greatestDivisor_7 F n) (nI x) (nI 0) (nI k) h = _
    unfold f_X11_greatestDivisor_7_b
    rw [if_pos (show nI 0 = 0 from rfl), Nat.gcd_zero_right]
    by_cases z : (100 : Int32) ≤ nI k
    · rw [if_pos z]
    · rw [if_neg z]
  have step : ∀ x y k n, 0 < y → y < 2 ^ 31 → x < 2 ^ 31 → k < 100 → f_X11_greatestDivisor_7 F n (nI y) (nI (x % y)) (nI (k + 1)) h = some (nI (Nat.gcd y (x % y)), h) → f_X11_greatestDivisor_7 F (n + 1) (nI x) (nI y) (nI k) h = some (nI (Nat.gcd x y), h) := by
    intro x y k n h1 h2 h3 hk h4
    show f_X11_greatestDivisor_7_b F (f_X11_greatestDivisor_7 F n) (nI x) (nI y) (nI k) h = _
    unfold f_X11_greatestDivisor_7_b
    rw [if_neg (show ¬ (100 : Int32) ≤ nI k from i_ge (a := 100) hk (by decide)), if_neg (nI_ne0 h1 h2), gd_t (nI_ne0 h1 h2), lt_e, pk_rem h3 h1 h2, nI_1, h4]
    rw [Nat.gcd_comm y (x % y), ← Nat.gcd_rec, Nat.gcd_comm]
  intro j
  induction j with
  | zero =>
    intro x y k n hy hx _ hk hn
    have : y = 0 := by simp at hy; exact hy
    subst this
    exact zero x k n (by omega)
  | succ j ih =>
    intro x y k n hy hx hj hk hn
    have hp : 2 ^ (j + 1) ≤ 2 ^ 30 := Nat.pow_le_pow_right (by decide) hj
    have hps : 2 ^ (j + 1) = 2 * 2 ^ j := by rw [Nat.pow_succ]; omega
    by_cases z : y = 0
    · subst z; exact zero x k n (by omega)
    · obtain ⟨n, rfl⟩ : ∃ j, n = j + 1 + 1 := ⟨n - 2, by omega⟩
      refine step x y k (n + 1) (by omega) (by omega) hx (by omega) ?_
      have hr := Nat.mod_lt x (show 0 < y by omega)
      by_cases z2 : x % y = 0
      · rw [z2]; exact zero y (k + 1) (n + 1) (by omega)
      · refine step y (x % y) (k + 1) n (by omega) (by omega) (by omega) (by omega) ?_
        refine ih (x % y) (y % (x % y)) (k + 1 + 1) n ?_ (by omega) (by omega) (by omega) (by omega)
        have h1 := Nat.mod_lt y (show 0 < x % y by omega)
        have h2 := Nat.div_add_mod y (x % y)
        have h3 : 1 ≤ y / (x % y) := (Nat.le_div_iff_mul_le (by omega)).mpr (by omega)
        have h4 : x % y ≤ (x % y) * (y / (x % y)) := Nat.le_mul_of_pos_right _ (by omega)
        omega
theorem cc_gcd (F : Nat) (hF : 100 ≤ F) {x y : Nat} (hy : y < 2 ^ 30) (hx : x < 2 ^ 31) (h : Hp) : f_X11_greatestDivisor F (nI x) (nI y) h = some (nI (Nat.gcd x y), h) := by
  unfold f_X11_greatestDivisor
  exact cc_gcd_r F h 30 x y 0 F hy hx (Nat.le_refl _) (by decide) (by omega)
theorem cc_chance (F : Nat) (hF : 70000 ≤ F) {h : Hp} {x a s b : Nat} {ow : Nat → Nat} {hs : Nat → HM} {T : Nat} (c : CV h x a s b ow hs T) (y z w u : Int32) : ∃ h', f_X11_chance F x y z w u h = some (sp_chance (hs a) s b y z w u, h') ∧ RC h x a s b ow hs T [33, 34] h' := by
  have d6 := c.2.1.hc.d6
  unfold f_X11_chance sp_chance
  rw [cV_n c.2.1.1.t0 (cc_noTwin F x y h)]
  cases hy : vi y 2 with
  | none => rw [if_neg nbs1]; exact ⟨h, rfl, RC.rf c _⟩
  | some t =>
    rw [if_pos (nbs0 t), cV_n c.2.1.1.t0 (cc_noDoing F c.2.1 z)]
    dsimp only
    cases hz : vi z (hm_d (hs a)) with
    | none => rw [if_neg nbs1]; exact ⟨h, rfl, RC.rf c _⟩
    | some d =>
      obtain ⟨t1, rfl⟩ := vi_some hy
      obtain ⟨d1, rfl⟩ := vi_some hz
      rw [if_pos (nbs0 d)]
      dsimp only
      cases hu : vi u 2 with
      | none =>
        rcases viN (by decide) hu with v | v
        · rw [if_pos v]; exact ⟨h, rfl, RC.rf c _⟩
        · by_cases v0 : u < 0
          · rw [if_pos v0]; exact ⟨h, rfl, RC.rf c _⟩
          · rw [if_neg v0, if_neg (show ¬ u ≤ 1 from fun e => by
              have e := Int32.le_iff_toInt_le.mp e
              have v := Int32.le_iff_toInt_le.mp v
              have : (nI 2).toInt = 2 := rfl
              have e : u.toInt ≤ 1 := e
              omega)]
            exact ⟨h, rfl, RC.rf c _⟩
      | some i =>
        obtain ⟨i1, rfl⟩ := vi_some hu
        rw [if_neg (nI_pos (by omega)), if_pos (show nI i ≤ 1 from nI_le (b := 1) (by omega) (by decide))]
        dsimp only
        cases hw : vb w 0 4 with
        | none =>
          rcases vb_n (by decide) (by decide) hw with v | v
          · rw [if_pos (show w < 0 from v)]; exact ⟨h, rfl, RC.rf c _⟩
          · by_cases v0 : w < 0
            · rw [if_pos v0]; exact ⟨h, rfl, RC.rf c _⟩
            · rw [if_neg v0, if_neg (show ¬ w ≤ 4 from not_le_lt v)]; exact ⟨h, rfl, RC.rf c _⟩
        | some n =>
          obtain ⟨-, n3, rfl, -⟩ := vb_some hw
          obtain ⟨h', e, rc, e0, ed⟩ := cc_draws F hF c t1 n3
          have cb := rc.cb
          have lkl := lk_le c.2.1.hc.2.1 b t d n s
          have p4 : 8 ^ n ≤ 8 ^ 4 := Nat.pow_le_pow_right (by decide) n3
          have p44 : (8 : Nat) ^ 4 = 4096 := rfl
          have wl := whl_le c.2.1.hc.2.1 n3
          have e1 := ed d (by omega)
          rw [show lk2 (hs a) b t n s d = lk (hs a) b t d n s from if_pos d1] at e1
          have gp : 0 < Nat.gcd (lk (hs a) b t d n s) (whl (hs a) n) := Nat.gcd_pos_of_pos_right _ wl.1
          have gl' : Nat.gcd (lk (hs a) b t d n s) (whl (hs a) n) ≤ whl (hs a) n := Nat.gcd_le_right _ wl.1
          have g0 := nI_ne0 gp (by omega)
          rw [if_neg (nI_pos (by omega)), if_pos (show nI n ≤ 4 from nI_le (b := 4) n3 (by decide)), c.2.1.1.g0 15 33 (by decide), c.2.1.home, c.2.1.now, cV_n (c.2.1.1.t 33 1 (by decide)) e, cb.1.g0 15 33 (by decide), cV_n (cb.1.t 33 1 (by decide)) (cc_hits F cb.1 (show d < 6 by omega) e1), cb.1.g0 15 33 (by decide), gI_n (cb.1.t 33 1 (by decide)), e0, bd_n (cc_gcd F (by omega) (by omega) (by omega) h'), if_neg g0, cb.1.g0 15 33 (by decide), cV_n (cb.1.t 33 1 (by decide)) (cc_hits F cb.1 (show d < 6 by omega) e1), gd_t g0, cb.1.g0 15 33 (by decide), gI_n (cb.1.t 33 1 (by decide)), e0, gd_t g0, pk_div (by omega) gp (by omega), pk_div (by omega) gp (by omega)]
          rcases (show i = 0 ∨ i = 1 by omega) with rfl | rfl
          · rw [if_pos (show nI 0 = 0 from rfl)]; exact ⟨h', rfl, rc⟩
          · rw [if_neg (show ¬ nI 1 = 0 by decide)]; exact ⟨h', rfl, rc⟩
theorem lko_n {H : HM} {s b t n k r : Nat} : lko H s b t n k (r + 1) none = lko H s b t n (k + 1) r (some (k, lk H b t k n s)) := rfl
theorem lko_s {H : HM} {s b t n k r : Nat} {p : Nat × Nat} : lko H s b t n k (r + 1) (some p) = lko H s b t n (k + 1) r (if p.2 < lk H b t k n s then some (k, lk H b t k n s) else some p) := rfl
theorem cc_likeliest_r (F : Nat) {h : Hp} {x a : Nat} {H : HM} {s b t n : Nat} (c : CB h x a H s b) (hn : n ≤ 4) (ed : ∀ d, d < 6 → hp_I h (x + 34) d = nI (lk2 H b t n s d)) : ∀ r k m (o : Option (Nat × Nat)), k + r = hm_d H → r < m → (∀ p, o = some p → p.1 < 6 ∧ p.2 ≤ 4096) → f_X11_likeliest_48 F m x (oN (o.map Prod.fst)) (oN (o.map Prod.snd)) (nI k) h = some (oN ((lko H s b t n k r o).map Prod.fst), h) := by
  have d6 := c.hc.d6
  intro r
  induction r with
  | zero =>
    intro k m o hk hm ho
    obtain ⟨m, rfl⟩ : ∃ j, m = j + 1 := ⟨m - 1, by omega⟩
    show f_X11_likeliest_48_b F (f_X11_likeliest_48 F m) x _ _ (nI k) h = _
    unfold f_X11_likeliest_48_b
    rw [c.home, c.hc.ds, if_pos (nI_le (by omega) (by omega))]
    rfl
  | succ r ih =>
    intro k m o hk hm ho
    obtain ⟨m, rfl⟩ : ∃ j, m = j + 1 := ⟨m - 1, by omega⟩
    have e1 := ed k (by omega)
    rw [show lk2 H b t n s k = lk H b t k n s from if_pos (by omega)] at e1
    have lkl := lk_le c.hc.2.1 b t k n s
    have p4 : 8 ^ n ≤ 8 ^ 4 := Nat.pow_le_pow_right (by decide) hn
    have p44 : (8 : Nat) ^ 4 = 4096 := rfl
    show f_X11_likeliest_48_b F (f_X11_likeliest_48 F m) x _ _ (nI k) h = _
    unfold f_X11_likeliest_48_b f_X11_likeliest_88
    rw [c.home, c.hc.ds, if_neg (nI_ge (by omega) (by omega)), c.1.g0 15 33 (by decide), cV_n (c.1.t 33 1 (by decide)) (cc_hits F c.1 (show k < 6 by omega) e1), c.1.g0 15 33 (by decide), cV_n (c.1.t 33 1 (by decide)) (cc_hits F c.1 (show k < 6 by omega) e1), nI_1]
    cases o with
    | none =>
      rw [lko_n, if_neg (show ¬ nI (lk H b t k n s) ≤ oN (Option.map Prod.snd none) from fun e => by
        have e := Int32.le_iff_toInt_le.mp e
        rw [nI_toInt (by omega)] at e
        have e : ((lk H b t k n s : Nat) : Int) ≤ -1 := e
        omega)]
      exact ih (k + 1) m (some (k, lk H b t k n s)) (by omega) (by omega) (fun p hp => by rw [← Option.some.inj hp]; exact ⟨show k < 6 by omega, show lk H b t k n s ≤ 4096 by omega⟩)
    | some p =>
      have hp := ho p rfl
      rw [lko_s]
      by_cases z : p.2 < lk H b t k n s
      · rw [if_neg (show ¬ nI (lk H b t k n s) ≤ oN (Option.map Prod.snd (some p)) from nI_ge z (by omega)), if_pos z]
        exact ih (k + 1) m (some (k, lk H b t k n s)) (by omega) (by omega) (fun p hp => by rw [← Option.some.inj hp]; exact ⟨show k < 6 by omega, show lk H b t k n s ≤ 4096 by omega⟩)
      · rw [if_pos (show nI (lk H b t k n s) ≤ oN (Option.map Prod.snd (some p)) from nI_le (b := p.2) (by omega) (by omega)), if_neg z]
        exact ih (k + 1) m (some p) (by omega) (by omega) ho
theorem cc_likeliest (F : Nat) (hF : 70000 ≤ F) {h : Hp} {x a s b : Nat} {ow : Nat → Nat} {hs : Nat → HM} {T : Nat} (c : CV h x a s b ow hs T) (y z : Int32) : ∃ h', f_X11_likeliest F x y z h = some (sp_likeliest (hs a) s b y z, h') ∧ RC h x a s b ow hs T [33, 34] h' := by
  unfold f_X11_likeliest sp_likeliest
  rw [cV_n c.2.1.1.t0 (cc_noTwin F x y h)]
  cases hy : vi y 2 with
  | none => rw [if_neg nbs1]; exact ⟨h, rfl, RC.rf c _⟩
  | some t =>
    obtain ⟨t1, rfl⟩ := vi_some hy
    rw [if_pos (nbs0 t)]
    dsimp only
    cases hw : vb z 0 4 with
    | none =>
      rcases vb_n (by decide) (by decide) hw with v | v
      · rw [if_pos (show z < 0 from v)]; exact ⟨h, rfl, RC.rf c _⟩
      · by_cases v0 : z < 0
        · rw [if_pos v0]; exact ⟨h, rfl, RC.rf c _⟩
        · rw [if_neg v0, if_neg (show ¬ z ≤ 4 from not_le_lt v)]; exact ⟨h, rfl, RC.rf c _⟩
    | some n =>
      obtain ⟨-, n3, rfl, -⟩ := vb_some hw
      obtain ⟨h', e, rc, e0, ed⟩ := cc_draws F hF c t1 n3
      have cb := rc.cb
      have d6 := cb.hc.d6
      rw [if_neg (nI_pos (by omega)), if_pos (show nI n ≤ 4 from nI_le (b := 4) n3 (by decide)), c.2.1.1.g0 15 33 (by decide), c.2.1.home, c.2.1.now, cV_n (c.2.1.1.t 33 1 (by decide)) e, show f_X11_likeliest_48 F F x (-1) (-1) 0 h' = _ from cc_likeliest_r F cb n3 ed (hm_d (hs a)) 0 F none (by omega) (by omega) (fun p hp => by cases hp)]
      exact ⟨h', rfl, rc⟩
