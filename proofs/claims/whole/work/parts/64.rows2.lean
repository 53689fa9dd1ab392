/-! L3, the class: rows as they are asked -/
/-- one of the two rows of numbers, and how the rest stays -/
theorem CV.opL {h : Hp} {x a s b : Nat} {ow : Nat → Nat} {hs : Nat → HM} {T : Nat} (c : CV h x a s b ow hs T) {q t e : Nat} (hqe : (q = 29 ∧ t = 23 ∧ e = 204) ∨ (q = 31 ∧ t = 20 ∧ e = 205)) : ∃ W L R, LA h (x + q) t W L ow e ∧ T = L + R ∧ ∀ h' ow' W' L', FO [q, e] ow h h' → OE h ow ow' → LA h' (x + q) t W' L' ow' e → CV h' x a s b ow' hs (L' + R) := by
  obtain ⟨k, cb, ho, P1, S1, L1, P2, S2, L2, W, L3, J, L4, s1, s2, l3, l4, rfl⟩ := c
  rcases hqe with ⟨rfl, rfl, rfl⟩ | ⟨rfl, rfl, rfl⟩
  · refine ⟨W, L3, L1 + L2 + L4, l3, by omega, fun h' ow' W' L' f oe la => ⟨k.oe oe f.1, cb.fo k ho f (by unfold OKs; decide), ho.oe oe f.1, P1, S1, L1, P2, S2, L2, W', L', J, L4, s1.fo k (by decide) f oe (by decide), s2.fo k (by decide) f oe (by decide), la, l4.fo f oe (k.q 31 (by decide)), by omega⟩⟩
  · refine ⟨J, L4, L1 + L2 + L3, l4, by omega, fun h' ow' W' L' f oe la => ⟨k.oe oe f.1, cb.fo k ho f (by unfold OKs; decide), ho.oe oe f.1, P1, S1, L1, P2, S2, L2, W, L3, W', L', s1.fo k (by decide) f oe (by decide), s2.fo k (by decide) f oe (by decide), l3.fo f oe (k.q 29 (by decide)), la, by omega⟩⟩
theorem FW.qW {W : Nat → Prop} {h h' : Hp} {q : Nat} (f : FW W h h') (hq : q < hp_n h) : hp_t h' q = hp_t h q := (f.2.2 q hq).1.1
/-- ways is zeros, then 1 where it starts -/
theorem cc_rk35 (F : Nat) (hF : 70000 ≤ F) {h : Hp} {q W L a c : Nat} {H : HM} {b s : Nat} (t : hp_t h q = 7) (r0 : hp_R h q 0 = some W) (r1 : hp_R h q 1 = some a) (tW : hp_t h W = 23) (lW : hp_l h W = L) (L16 : L ≤ 65536) (hc : HC h a H) (hb : b < 10) (hL : 16 ^ hm_f H ≤ L) (i2 : hp_I h q 2 = nI b) (st : ST h c s b) (ok : STok H s) : ∃ h', f_X6_begin_35 F q c h = some ((), h') ∧ FK q W h h' ∧ RK h' q W L a H b (upB (fun _ => 0) (cs s) 1) (cs s) (cs s) := by
  have hr := cs_room ok hc.f4
  have cq : c ≠ q := fun e => by
    have := st.1
    rw [e, t] at this
    exact absurd this (by decide)
  obtain ⟨h1, e1, s1, I1, o1, v1⟩ := fillL F (a := W) (N := L) (by omega) (by omega) tW lW
  have f1 : FK q W h h1 := ⟨s1, fun y _ => by rw [I1], fun y hy => o1 y hy⟩
  have t1 : hp_t h1 q = 7 := by rw [s1.1]; exact t
  have tc : hp_t h1 c = 9 := by rw [s1.1]; exact st.1
  unfold f_X6_begin_35
  rw [gR_n t r0, bd_n e1, gI_n tc, I1, st.2.1, pI_n t1, gI_n (show hp_t (hp_sI h1 q 3 (nI (cs s))) c = 9 from tc), sI_ne _ _ _ cq, I1, st.2.1, pI_n (show hp_t (hp_sI h1 q 3 (nI (cs s))) q = 7 from t1), gI_n (show hp_t (hp_sI (hp_sI h1 q 3 (nI (cs s))) q 4 (nI (cs s))) c = 9 from tc), sI_ne _ _ _ cq, sI_ne _ _ _ cq, I1, st.2.1]
  have f2 : FK q W h (hp_sI (hp_sI h1 q 3 (nI (cs s))) q 4 (nI (cs s))) := (f1.tr FK.sI).tr FK.sI
  have rk : RK (hp_sI (hp_sI h1 q 3 (nI (cs s))) q 4 (nI (cs s))) q W L a H b (fun _ => 0) (cs s) (cs s) := by
    refine ⟨⟨t1, by show hp_R h1 q 0 = _; rw [s1.2.2.1]; exact r0, by show hp_R h1 q 1 = _; rw [s1.2.2.1]; exact r1⟩, ⟨by show hp_t h1 W = _; rw [s1.1]; exact tW, by show hp_l h1 W = _; rw [s1.2.1]; exact lW, L16⟩, ⟨hc.fk f2 t (by decide) (by decide), hb, hL⟩, ⟨?_, ?_, ?_, Nat.le_refl _, hr⟩, fun j hj => ?_, fun j hj => absurd rfl hj⟩
    · rw [sI_at, if_neg (by decide), sI_at, if_neg (by decide), I1]; exact i2
    · rw [sI_at, if_neg (by decide), sI_at, if_pos rfl]
    · rw [sI_at, if_pos rfl]
    · show hp_L h1 W j = _
      rw [v1 j, if_pos hj]; rfl
  obtain ⟨h3, e3, f3, c3⟩ := rk.add F ok (Nat.le_refl _) 1
  rw [cV_n (show hp_t (hp_sI (hp_sI h1 q 3 (nI (cs s))) q 4 (nI (cs s))) q = 7 from t1) (show f_X6_add F q (nI (cs s)) 1 _ = some ((), h3) from e3)]
  rw [Nat.max_self] at c3
  exact ⟨h3, rfl, f2.tr f3, c3⟩
/-- a longer row of numbers -/
theorem LA_grow {h : Hp} {q t W L : Nat} {ow : Nat → Nat} {e f : Nat} (la : LA h q t W L ow e) (hq : q < hp_n h) (hf : f ≤ 4) (z : ¬ 16 ^ f ≤ L) : LA (hp_sR (hp_nw h t (16 ^ f) (16 ^ f)) q 0 (some (hp_n h))) q t (hp_n h) (16 ^ f) (fun y => if y = hp_n h then e else ow y) e ∧ OE h ow (fun y => if y = hp_n h then e else ow y) ∧ (∀ k, k ≠ 0 → hp_R (hp_sR (hp_nw h t (16 ^ f) (16 ^ f)) q 0 (some (hp_n h))) q k = hp_R h q k) ∧ hp_I (hp_sR (hp_nw h t (16 ^ f) (16 ^ f)) q 0 (some (hp_n h))) q = hp_I h q ∧ hp_t (hp_sR (hp_nw h t (16 ^ f) (16 ^ f)) q 0 (some (hp_n h))) q = hp_t h q ∧ BU L (16 ^ f) h (hp_sR (hp_nw h t (16 ^ f) (16 ^ f)) q 0 (some (hp_n h))) ∧ FW (fun y => y = q) h (hp_sR (hp_nw h t (16 ^ f) (16 ^ f)) q 0 (some (hp_n h))) := by
  obtain ⟨l1, ⟨l2, l3, k0, k4, lk⟩, l5, l6⟩ := la
  have nq : ¬ q = hp_n h := by omega
  have big : 16 * L ≤ 16 ^ f := by rw [lk] at z ⊢; exact pw16 z
  have L1 : 0 < L := by rw [lk]; exact Nat.pow_pos (by decide)
  have p4 := p16_le hf
  refine ⟨⟨?_, ⟨?_, ?_, f, hf, rfl⟩, ?_, ?_⟩, fun y hy => ?_, fun k hk => ?_, ?_, ?_, ⟨?_, ?_, by omega⟩, ?_⟩
  · rw [sR_at, if_pos rfl]
  · show (if hp_n h = hp_n h then t else _) = t
    rw [if_pos rfl]
  · show (if hp_n h = hp_n h then 16 ^ f else _) = _
    rw [if_pos rfl]
  · show (if hp_n h = hp_n h then e else _) = e
    rw [if_pos rfl]
  · show hp_n h < hp_n h + 1
    omega
  · show (if y = hp_n h then e else ow y) = _
    rw [if_neg (by omega)]
  · rw [sR_at, if_neg hk]
    show (if q = hp_n h then none else hp_R h q k) = _
    rw [if_neg nq]
  · funext k
    show (if q = hp_n h then 0 else hp_I h q k) = _
    rw [if_neg nq]
  · show (if q = hp_n h then t else hp_t h q) = _
    rw [if_neg nq]
  · show hp_n h + 1 + L ≤ hp_n h + 16 ^ f
    omega
  · show hp_s h + 16 ^ f + 4 * L ≤ hp_s h + 4 * 16 ^ f
    omega
  · exact FW.tr (FW.nw (W := fun y => y = q)) (FW.sR (W := fun y => y = q) rfl) (fun _ _ z => z)
theorem cc_rbegin (F : Nat) (hF : 70000 ≤ F) {h : Hp} {q W L a c : Nat} {ow : Nat → Nat} {H : HM} {b s e : Nat} (t : hp_t h q = 7) (la : LA h q 23 W L ow e) (hq : q < hp_n h) (hc : HC h a H) (ha : ∀ k, k < 6 → a + k < hp_n h) (hb : b < 10) (st : ST h c s b) (hcn : c < hp_n h) (ok : STok H s) : ∃ h' W' L' ow', f_X6_begin F q a c h = some ((), h') ∧ FW (fun y => y = q ∨ y = W) h h' ∧ OE h ow ow' ∧ RK h' q W' L' a H b (upB (fun _ => 0) (cs s) 1) (cs s) (cs s) ∧ LA h' q 23 W' L' ow' e ∧ BU L L' h h' := by
  have L16 := la.L16
  obtain ⟨l1, ⟨l2, l3, k0, k4, lk⟩, l5, l6⟩ := la
  have f4 := hc.f4
  have p4 := p16_le f4
  have cq : c ≠ q := fun e => by
    have := st.1
    rw [e, t] at this
    exact absurd this (by decide)
  have aq : ∀ k, k < 6 → a + k ≠ q := fun k hk e => by
    rcases Nat.eq_zero_or_pos k with z | z
    · have := hc.t
      rw [show a = q by omega, t] at this
      exact absurd this (by decide)
    · have := (hc.1.2 k z hk).2.1
      rw [e, t] at this
      exact absurd this (by decide)
  have aW : ∀ k, k < 6 → a + k ≠ W := fun k hk e => by
    rcases Nat.eq_zero_or_pos k with z | z
    · have := hc.t
      rw [show a = W by omega, l2] at this
      exact absurd this (by decide)
    · have := (hc.1.2 k z hk).2.1
      rw [e, l2] at this
      exact absurd this (by decide)
  have cW : c ≠ W := fun e => by
    have := st.1
    rw [e, l2] at this
    exact absurd this (by decide)
  let Wp : Nat → Prop := fun y => y = q ∨ y = W
  let h1 := hp_sR h q 1 (some a)
  let h2 := hp_sI h1 q 2 (nI b)
  have f2 : FW Wp h h2 := (FW.sR (W := Wp) (h := h) (a := q) (k := 1) (v := some a) (Or.inl rfl)).tr (FW.sI (W := Wp) (h := h1) (a := q) (k := 2) (v := nI b) (Or.inl rfl)) (fun _ _ z => z)
  have hc2 : HC h2 a H := hc.fw f2 (fun k hk => ⟨ha k hk, fun z => by rcases z with z | z; exact aq k hk z; exact aW k hk z⟩)
  have st2 : ST h2 c s b := st.fw f2 hcn (fun z => by rcases z with z | z; exact cq z; exact cW z)
  have r20 : hp_R h2 q 0 = some W := by
    show hp_R (hp_sR h q 1 (some a)) q 0 = _
    rw [sR_at, if_neg (by decide)]; exact l1
  have r21 : hp_R h2 q 1 = some a := by
    show hp_R (hp_sR h q 1 (some a)) q 1 = _
    rw [sR_at, if_pos rfl]
  have i22 : hp_I h2 q 2 = nI b := by
    show hp_I (hp_sI h1 q 2 (nI b)) q 2 = _
    rw [sI_at, if_pos rfl]
  unfold f_X6_begin
  rw [pR_n t, gI_n (show hp_t (hp_sR h q 1 (some a)) c = 9 from st.1), show hp_I (hp_sR h q 1 (some a)) c 1 = nI b from st.2.2, pI_n (show hp_t (hp_sR h q 1 (some a)) q = 7 from t)]
  show ∃ h' W' L' ow', (gR 7 h2 q 0 fun v4 => _) = _ ∧ _
  rw [gR_n (show hp_t h2 q = 7 from t) r20, al_n (show hp_t h2 W = 23 from l2) (show hp_l h2 W = L from l3), cV_n hc2.t (cc_room F hc2)]
  by_cases z : 16 ^ hm_f H ≤ L
  · rw [if_pos (nI_le z (by omega))]
    obtain ⟨h3, e3, f3, c3⟩ := cc_rk35 F hF (h := h2) (L := L) t r20 r21 l2 l3 L16 hc2 hb z i22 st2 ok
    have n3 : hp_n h3 = hp_n h := f3.1.2.2.2.1
    have s3 : hp_s h3 = hp_s h := f3.1.2.2.2.2.1
    exact ⟨h3, W, L, ow, e3, f2.tr f3.fw (fun _ _ z => z), OE.rf _ _, c3, ⟨c3.1.2.1, ⟨c3.2.1.1, c3.2.1.2.1, k0, k4, lk⟩, l5, by rw [n3]; exact l6⟩, ⟨by rw [n3]; exact Nat.le_refl _, by rw [s3]; exact Nat.le_refl _, Nat.le_refl _⟩⟩
  · have la2 : LA h2 q 23 W L ow e := ⟨r20, ⟨l2, l3, k0, k4, lk⟩, l5, l6⟩
    obtain ⟨g1, g2, g3, g4, g5, g6, g7⟩ := LA_grow la2 (show q < hp_n h2 from hq) f4 z
    generalize hh : hp_sR (hp_nw h2 23 (16 ^ hm_f H) (16 ^ hm_f H)) q 0 (some (hp_n h2)) = h4 at g1 g3 g4 g5 g6 g7
    have f4' : FW Wp h h4 := f2.tr g7 (fun _ _ z => Or.inl z)
    have hc4 : HC h4 a H := hc.fw f4' (fun k hk => ⟨ha k hk, fun z => by rcases z with z | z; exact aq k hk z; exact aW k hk z⟩)
    have st4 : ST h4 c s b := st.fw f4' hcn (fun z => by rcases z with z | z; exact cq z; exact cW z)
    have tq2 : hp_t (hp_nw h2 23 (16 ^ hm_f H) (16 ^ hm_f H)) q = 7 := by
      show (if q = hp_n h2 then 23 else hp_t h2 q) = 7
      rw [if_neg (show ¬ q = hp_n h2 from fun e => by have e : q = hp_n h := e; omega)]; exact t
    obtain ⟨h3, e3, f3, c3⟩ := cc_rk35 F hF (h := h4) (L := 16 ^ hm_f H) (g5.trans t) g1.1 ((g3 1 (by decide)).trans r21) g1.2.1.1 g1.2.1.2.1 p4 hc4 hb (Nat.le_refl _) (by rw [g4]; exact i22) st4 ok
    rw [if_neg (nI_ge (by omega) (by omega)), cV_n hc2.t (cc_room F hc2), nA_n rfl (by omega), pR_n tq2, hh]
    have n3 : hp_n h3 = hp_n h4 := f3.1.2.2.2.1
    have s3 : hp_s h3 = hp_s h4 := f3.1.2.2.2.2.1
    have g6 : BU L (16 ^ hm_f H) h h4 := g6
    refine ⟨h3, hp_n h2, 16 ^ hm_f H, _, e3, f4'.tr f3.fw (fun y hy w => ?_), g2, c3, ⟨c3.1.2.1, ⟨c3.2.1.1, c3.2.1.2.1, hm_f H, f4, rfl⟩, g1.2.2.1, by rw [n3]; exact g1.2.2.2⟩, ⟨by rw [n3]; exact g6.1, by rw [s3]; exact g6.2.1, g6.2.2⟩⟩
    rcases w with w | w
    · exact Or.inl w
    · have w : y = hp_n h := w
      omega
/-! the call -/
theorem RK.le {h : Hp} {q W L a : Nat} {H : HM} {b lo hi : Nat} {B : Nat → Nat} (_ : RK h q W L a H b B lo hi) {N : Nat} (hB : TSc B (fun _ => 1) ≤ N) : ∀ j, j < 65536 → B j ≤ N := fun j hj => Nat.le_trans (TSc_ge (w := fun _ => 1) hj (Nat.le_refl _)) hB
theorem cc_rows48 (F : Nat) (hF : 70000 ≤ F) {x q W L a : Nat} {H : HM} {b lo s g1 g2 N : Nat} (hq : q = x + 29) (h1 : g1 < 64) (h2 : g2 < 64) (hN : N ≤ 12) : ∀ r k n (h : Hp) (B : Nat → Nat) (hi : Nat), k + r = N → r < n → CSH h x → RK h q W L a H b B lo hi → TSc B (wc H b (.inl (g1, g2)) r) = wn H b (.inl (g1, g2)) N s → TSc B (fun _ => 1) ≤ 9 ^ k → ∃ h', f_X11_rows_48 F n x (nI g1) (nI g2) (nI N) (nI k) h = some (lN (wn H b (.inl (g1, g2)) N s), h') ∧ FK q W h h' := by
  subst hq
  intro r
  induction r with
  | zero =>
    intro k n h B hi hk hn c rk hw hb
    obtain ⟨n, rfl⟩ : ∃ j, n = j + 1 := ⟨n - 1, by omega⟩
    have p : 9 ^ k ≤ 9 ^ 12 := Nat.pow_le_pow_right (by decide) (by omega)
    have p2 : 9 ^ 12 < 2 ^ 62 := by decide
    show ∃ h', f_X11_rows_48_b F (f_X11_rows_48 F n) x (nI g1) (nI g2) (nI N) (nI k) h = _ ∧ _
    unfold f_X11_rows_48_b
    rw [if_pos (nI_le (by omega) (by omega)), c.g0 13 29 (by decide), cV_n rk.1.1 (cc_atGoal F hF h1 h2 rk (fun j hj => by have := rk.le hb j hj; omega)), hw]
    exact ⟨h, rfl, FK.rf _ _ _⟩
  | succ r ih =>
    intro k n h B hi hk hn c rk hw hb
    obtain ⟨n, rfl⟩ : ∃ j, n = j + 1 := ⟨n - 1, by omega⟩
    have p : 9 ^ k ≤ 9 ^ 12 := Nat.pow_le_pow_right (by decide) (by omega)
    obtain ⟨h3, B3, hi3, e3, f3, c3, w3⟩ := cc_lengthen F hF rk (by omega)
    have hH := rk.2.2.1.1.2.1
    have a1 : TSc B3 (wc H b (.inl (g1, g2)) r) = wn H b (.inl (g1, g2)) N s := by
      rw [w3, ← hw]
      refine TSc_cg fun j _ => ?_
      by_cases z : B j = 0
      · rw [z, Nat.zero_mul, Nat.zero_mul]
      · obtain ⟨v, v1, v2⟩ := (rk.2.2.2.2.2 j z).2.2
        have uv : uc j = v := by rw [← v2]; exact uc_cs v1.1
        have : W1 H b (wc H b (.inl (g1, g2)) r) j = wc H b (.inl (g1, g2)) (r + 1) j := by
          unfold W1 wc
          rw [uv]
          show Tw H b (fun u => wn H b (.inl (g1, g2)) r (uc (cs u))) v = Tw H b (wn H b (.inl (g1, g2)) r) v
          unfold Tw
          refine sfr_cg 9 0 (fun k _ hk => ?_)
          unfold tw
          cases hm : mv H b v k with
          | none => rfl
          | some u => show wn H b _ r (uc (cs u)) = wn H b _ r u; rw [uc_cs (mv_ok hH v1 (by omega) hm).1.1]
        rw [this]
    have a2 : TSc B3 (fun _ => 1) ≤ 9 ^ (k + 1) := by
      rw [w3]
      have : TSc B (W1 H b (fun _ => 1)) ≤ 9 * TSc B (fun _ => 1) := by
        unfold TSc
        rw [← sfr_mul]
        refine sfr_le 65536 0 (fun x _ _ => ?_)
        rw [Nat.mul_one, Nat.mul_comm 9]
        exact Nat.mul_le_mul_left _ (W1_1 H b x).2
      rw [Nat.pow_succ]
      omega
    obtain ⟨h4, e4, f4⟩ := ih (k + 1) n h3 B3 hi3 (by omega) (by omega) (c.sh f3.1) c3 a1 a2
    show ∃ h', f_X11_rows_48_b F (f_X11_rows_48 F n) x (nI g1) (nI g2) (nI N) (nI k) h = _ ∧ _
    unfold f_X11_rows_48_b
    rw [if_neg (nI_ge (by omega) (by omega)), c.g0 13 29 (by decide), cV_n rk.1.1 e3, nI_1, e4]
    exact ⟨h4, rfl, f3.tr f4⟩
theorem cc_rows (F : Nat) (hF : 70000 ≤ F) {h : Hp} {x a s b : Nat} {ow : Nat → Nat} {hs : Nat → HM} {T : Nat} (c : CV h x a s b ow hs T) (y z w : Int32) : ∃ h', f_X11_rows F x y z w h = some (sp_rows (hs a) s b y z w, h') ∧ RC h x a s b ow hs T [29, 204] h' := by
  unfold f_X11_rows sp_rows
  rw [cc_sets F c.2.1 y z (fun h => some (-3, h)) (fun h5 => if w < 0 then (some ((-3), h5)) else (if w ≤ 12 then (gR 12 h5 x 13 fun v9 => gR 12 h5 x 3 fun v10 => gR 12 h5 x 5 fun v11 => cV 7 h5 v9 (f_X6_begin F v9 v10 v11 h5) fun v12 h13 => f_X11_rows_48 F F x y z w 0 h13) else (some ((-3), h5))))]
  cases hq : gsets (hs a) y z with
  | none => exact ⟨h, rfl, RC.rf c _⟩
  | some q =>
    obtain ⟨rfl, rfl, q1, q2⟩ := gsets_some c.2.1.hc.d6 hq
    dsimp only
    cases hw : vb w 0 12 with
    | none =>
      by_cases u : w < 0
      · rw [if_pos u]; exact ⟨h, rfl, RC.rf c _⟩
      · rw [if_neg u]
        rcases vb_n (by decide) (by decide) hw with v | v
        · exact absurd v u
        · rw [if_neg (show ¬ w ≤ 12 from not_le_lt v)]; exact ⟨h, rfl, RC.rf c _⟩
    | some N =>
      obtain ⟨-, N3, rfl, -⟩ := vb_some hw
      obtain ⟨W0, L0, R, la, hT, cl⟩ := c.opL (q := 29) (t := 23) (e := 204) (Or.inl ⟨rfl, rfl, rfl⟩)
      obtain ⟨k, cb, ho, -⟩ := c
      have k15 := k.1 15 (by decide) (by decide)
      have k29 := k.1 29 (by decide) (by decide)
      obtain ⟨h1, W, L, ow', e1, f1, oe, rk, la1, bu⟩ := cc_rbegin F hF (cb.1.t 29 7 (by decide)) la k29.2 cb.hc (fun j hj => (ho j hj).2.2) cb.b10 cb.2.2.2.1 k15.2 cb.ok
      have fo1 : FO [29, 204] ow h h1 := f1.mono (fun y _ w => by
        rcases w with w | w
        · rw [w, k29.1]; decide
        · rw [w, la.2.2.1]; decide)
      have c1 : CSH h1 x := cb.1.fo k fo1 (by decide)
      have B1 : TSc (upB (fun _ => 0) (cs s) 1) (wc (hs a) b (.inl q) N) = wn (hs a) b (.inl q) N s := by
        rw [TSc_up (cs_lt s), Nat.one_mul]
        have z : TSc (fun _ => 0) (wc (hs a) b (.inl q) N) = 0 := sfr_0 65536 0 (fun x _ _ => Nat.zero_mul _)
        rw [z, Nat.zero_add]
        unfold wc
        rw [uc_cs cb.ok.1]
      have B2 : TSc (upB (fun _ => 0) (cs s) 1) (fun _ => 1) ≤ 9 ^ 0 := by
        rw [TSc_up (cs_lt s), Nat.one_mul]
        have z : TSc (fun _ => 0) (fun _ => 1) = 0 := sfr_0 65536 0 (fun x _ _ => Nat.zero_mul _)
        rw [z]
        exact Nat.le_refl _
      obtain ⟨h2, e2, f2⟩ := cc_rows48 F hF rfl q1 q2 N3 N 0 F h1 _ _ (by omega) (by omega) c1 rk B1 B2
      rw [if_neg (nI_pos (by omega)), if_pos (show nI N ≤ 12 from nI_le (b := 12) N3 (by decide)), cb.1.g0 13 29 (by decide), cb.home, cb.now, cV_n (cb.1.t 29 7 (by decide)) e1, show f_X11_rows_48 F F x (nI q.1) (nI q.2) (nI N) 0 h1 = _ from e2]
      have k29' : ow' (x + 29) = 29 := by rw [oe _ k29.2]; exact k29.1
      have fo2 : FO [29, 204] ow h h2 := fo1.tr oe (f2.fw.mono (fun y _ w => by
        rcases w with w | w
        · rw [w, k29']; decide
        · rw [w, la1.2.2.1]; decide))
      have n2 : hp_n h2 = hp_n h1 := f2.1.2.2.2.1
      refine ⟨h2, rfl, ow', L + R, cl h2 ow' W L fo2 oe ⟨by rw [f2.1.2.2.1]; exact la1.1, ⟨by rw [f2.1.1]; exact la1.2.1.1, by rw [f2.1.2.1]; exact la1.2.1.2.1, la1.2.1.2.2⟩, la1.2.2.1, by rw [n2]; exact la1.2.2.2⟩, oe, fo2, ?_⟩
      rw [hT]
      exact (bu.tr (BU.sh f2.1)).add
