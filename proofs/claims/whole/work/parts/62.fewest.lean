/-! L3, the class: layer by layer -/
theorem cc_few49 (F : Nat) (hF : 70000 ≤ F) {q P S L a : Nat} {H : HM} {b s x y k lay en : Nat} {g : GL} (hg : g = .inl (x, y)) (hx : x < 64) (hy : y < 64) {u0 : Nat → Nat} (hk : k < 2 ^ 30) (he : en ≤ L) (K20 : Nat → Int32 → Int32 → Int32 → Int32 → Hp → Option (Int32 × Hp)) : ∀ r pl m (h : Hp) (u p : Nat → Nat) (n : Nat), pl + r = en → r < m → TC h q P S L a H b s u p n → FIi H b s g u0 u k lay en pl n → (∃ h', f_X7_fewestTellings_49 F K20 m q (nI x) (nI y) (nI k) (nI en) (nI pl) h = some (nI k, h') ∧ F3 q P S h h' ∧ SD H b 511 g true s k) ∨ ∃ h' u' p' n', f_X7_fewestTellings_49 F K20 m q (nI x) (nI y) (nI k) (nI en) (nI pl) h = K20 q (nI x) (nI y) (nI en) (nI (k + 1)) h' ∧ F3 q P S h h' ∧ TC h' q P S L a H b s u' p' n' ∧ FIi H b s g u0 u' k lay en en n' := by
  intro r
  induction r with
  | zero =>
    intro pl m h u p n hr hm c f
    obtain ⟨m, rfl⟩ : ∃ j, m = j + 1 := ⟨m - 1, by omega⟩
    have L16 := c.1.1.L16
    right
    refine ⟨h, u, p, n, ?_, F3.rf _ _ _ _, c, by rw [show en = pl by omega] at f ⊢; exact f⟩
    show f_X7_fewestTellings_49_b F K20 (f_X7_fewestTellings_49 F K20 m) q (nI x) (nI y) (nI k) (nI en) (nI pl) h = _
    unfold f_X7_fewestTellings_49_b
    rw [if_pos (nI_le (by omega) (by omega)), nI_1]
  | succ r ih =>
    intro pl m h u p n hr hm c f
    obtain ⟨m, rfl⟩ : ∃ j, m = j + 1 := ⟨m - 1, by omega⟩
    have L16 := c.1.1.L16
    obtain ⟨f0, e0, f1, f2, f3, f4, f5, f6⟩ := f
    have pn : pl < n := by have := e0.1; omega
    have ok := c.2.2.2.2.1.1 pl pn
    have up : u pl = u0 pl := e0.2 pl (by omega)
    show (∃ h', f_X7_fewestTellings_49_b F K20 (f_X7_fewestTellings_49 F K20 m) q (nI x) (nI y) (nI k) (nI en) (nI pl) h = _ ∧ _) ∨ ∃ h' u' p' n', f_X7_fewestTellings_49_b F K20 (f_X7_fewestTellings_49 F K20 m) q (nI x) (nI y) (nI k) (nI en) (nI pl) h = _ ∧ _
    unfold f_X7_fewestTellings_49_b
    rw [if_neg (nI_ge (by omega) (by omega)), c.g4, cV_n c.1.1.t (c.agesOf F pn), cV_n c.2.1.2.1.t (cc_doAtLeast F c.2.1.2.1 ok hx hy), ← hg]
    cases hgl : gl H g (u pl) with
    | true =>
      left
      rw [if_neg (show ¬ nI (b2 true) = 0 by decide)]
      exact ⟨h, rfl, F3.rf _ _ _ _, f0.found f5 (show pl < en by omega) (by rw [← up]; exact ok.1) (by rw [← up]; exact hgl)⟩
    | false =>
      rw [if_pos (show nI (b2 false) = 0 by decide), cV_n c.1.1.t (c.agesOf F pn)]
      obtain ⟨h1, u1, p1, n1, e1, g1, -, c1, o1⟩ := cc_openTellings F (by omega) ok c
      rw [cV_n c.1.1.t e1, nI_1]
      obtain ⟨o2, o3, o4⟩ := o1
      have lo : s + k ≤ u0 pl := f0.2.1 pl f5 (by omega)
      have new : ∀ i, n ≤ i → i < n1 → FR H b s (u1 i) (k + 1) ∧ s + k + 1 ≤ u1 i := fun i h1 h2 => by
        obtain ⟨m', w, -, m8, mw, dd⟩ := o4 i h1 h2
        have fr : FR H b s (u0 pl) k := (f0.1 pl (by omega)).1
        rw [up] at mw
        refine ⟨(fr.tell m8 mw).dd dd, ?_⟩
        have okw := mv_ok c.2.1.2.1.2.1 (by rw [← up]; exact ok) (show m' < 9 by omega) mw
        have led : LEd (u0 pl) (u1 i) := by
          rcases dd with e | e | e
          · rw [e]; exact okw.2.2
          · rw [e]; exact okw.2.2.tr (LEd.dy w)
          · rw [e]; exact (okw.2.2.tr (LEd.dy w)).tr (LEd.dy _)
        have oki := c1.2.2.2.2.1.1 i h2
        have le := led.le (by rw [← up]; exact ok.1) oki.1
        have ne : u1 i ≠ u0 pl := fun e => by
          have := c1.2.2.2.2.1.2 i pl h2 (by have := o2.1; omega) (by rw [o2.2 pl pn, up]; exact e)
          omega
        omega
      have fi1 : FIi H b s g u0 u1 k lay en (pl + 1) n1 := by
        refine ⟨f0, e0.tr o2, fun i hi => ?_, fun i h1 h2 => ?_, fun j m' w j1 j2 m8 mw => ?_, fun i i1 i2 => ?_, by omega, by omega⟩
        · by_cases z : i < n
          · rw [o2.2 i z]; exact f1 i z
          · exact (new i (by omega) hi).1
        · by_cases z : i < n
          · rw [o2.2 i z]; exact f2 i h1 z
          · exact (new i (by omega) h2).2
        · by_cases z : j = pl
          · rw [z, ← up] at mw; exact o3 m' w (by omega) m8 mw
          · obtain ⟨i, i1, i2⟩ := f3 j m' w j1 (by omega) m8 mw
            exact ⟨i, by have := o2.1; omega, by rw [o2.2 i i1]; exact i2⟩
        · by_cases z : i = pl
          · rw [z, ← up]; exact hgl
          · exact f4 i i1 (by omega)
      rcases ih (pl + 1) m h1 u1 p1 n1 (by omega) (by omega) c1 fi1 with ⟨h2, e2, g2, sd⟩ | ⟨h2, u2, p2, n2, e2, g2, c2, fi2⟩
      · left; exact ⟨h2, e2, g1.tr g2, sd⟩
      · right; exact ⟨h2, u2, p2, n2, e2, g1.tr g2, c2, fi2⟩
theorem cc_few20 (F : Nat) (hF : 70000 ≤ F) {q P S L a : Nat} {H : HM} {b s x y : Nat} {g : GL} (hg : g = .inl (x, y)) (hx : x < 64) (hy : y < 64) : ∀ r k lay m (h : Hp) (u p : Nat → Nat) (n : Nat), k + r = L → r < m → TC h q P S L a H b s u p n → 0 < n → FI H b s g u k lay n → ∃ v d h', f_X7_fewestTellings_20 F m q (nI x) (nI y) (nI lay) (nI k) h = some (v, h') ∧ F3 q P S h h' ∧ SD H b 511 g true s d ∧ v = tf d := by
  intro r
  induction r with
  | zero =>
    intro k lay m h u p n hr hm c n0 f
    obtain ⟨m, rfl⟩ : ∃ j, m = j + 1 := ⟨m - 1, by omega⟩
    have L16 := c.1.1.L16
    have nL := c.1.2.1.2
    have a6 := f.2.2.2.2.2.1
    have a7 := f.2.2.2.2.2.2
    have e : lay = n := by omega
    subst e
    refine ⟨-1, 268435456, h, ?_, F3.rf _ _ _ _, f.none c.2.2.2.2.2 n0, rfl⟩
    show f_X7_fewestTellings_20_b F (f_X7_fewestTellings_20 F m) q (nI x) (nI y) (nI lay) (nI k) h = _
    unfold f_X7_fewestTellings_20_b
    rw [c.1.1.g0, c.1.1.aP, if_pos (nI_le (by omega) (by omega))]
  | succ r ih =>
    intro k lay m h u p n hr hm c n0 f
    obtain ⟨m, rfl⟩ : ∃ j, m = j + 1 := ⟨m - 1, by omega⟩
    have L16 := c.1.1.L16
    have nL := c.1.2.1.2
    have a7 := f.2.2.2.2.2.2
    show ∃ v d h', f_X7_fewestTellings_20_b F (f_X7_fewestTellings_20 F m) q (nI x) (nI y) (nI lay) (nI k) h = _ ∧ _
    unfold f_X7_fewestTellings_20_b
    rw [c.1.1.g0, c.1.1.aP, if_neg (nI_ge (by omega) (by omega)), gI_n c.1.1.t, c.1.2.1.1]
    by_cases z : lay < n
    · rw [if_neg (nI_ge z (by omega)), gI_n c.1.1.t, c.1.2.1.1]
      have fi : FIi H b s g u u k lay n lay n := by
        refine ⟨f, ⟨Nat.le_refl _, fun _ _ => rfl⟩, fun i hi => ?_, fun i h1 h2 => by omega, fun j m' w j1 j2 => by omega, fun i i1 i2 => by omega, Nat.le_refl _, a7⟩
        obtain ⟨ms, m1, m2, m3⟩ := (f.1 i hi).1
        exact ⟨ms, m1, m2, by omega⟩
      rcases cc_few49 F hF hg hx hy (u0 := u) (show k < 2 ^ 30 by omega) nL (f_X7_fewestTellings_20 F m) (n - lay) lay F h u p n (by omega) (by omega) c fi with ⟨h2, e2, g2, sd⟩ | ⟨h2, u2, p2, n2, e2, g2, c2, fi2⟩
      · rw [e2]
        refine ⟨_, k, h2, rfl, g2, sd, ?_⟩
        unfold tf
        rw [if_neg (by omega)]
      · obtain ⟨v, d, h3, e3, g3, sd, hv⟩ := ih (k + 1) n m h2 u2 p2 n2 (by omega) (by omega) c2 (by have := fi2.2.1.1; omega) (FI.up fi2 c2.2.2.2.2.2 z)
        rw [e2, e3]
        exact ⟨v, d, h3, rfl, g2.tr g3, sd, hv⟩
    · have e : lay = n := by omega
      subst e
      rw [if_pos (nI_le (Nat.le_refl _) (by omega))]
      exact ⟨-1, 268435456, h, rfl, F3.rf _ _ _ _, f.none c.2.2.2.2.2 n0, rfl⟩
/-- the fewest tellings, and the search that is dropped behind it -/
theorem cc_fewest (F : Nat) (hF : 70000 ≤ F) {h : Hp} {x q P S L a : Nat} {ow : Nat → Nat} {hs : Nat → HM} {e : Nat} {s b g1 g2 : Nat} (si : SI h q P S L ow hs e) (he : 104 ≤ e) (hq : q < hp_n h) (hc : HC h a (hs a)) (ho : HO h ow a) (st : ST h x s b) (hx : x < hp_n h ∧ ow x < 48) (ok : STok (hs a) s) (hb : b < 10) (h1 : g1 < 64) (h2 : g2 < 64) : ∃ v d h' P' S' L' ow', f_X7_fewestTellings F q a x (nI g1) (nI g2) h = some (v, h') ∧ FW (W3 q P S) h h' ∧ OE h ow ow' ∧ SS h' q P' S' L' ∧ (ow' P' = e ∧ P' < hp_n h') ∧ (ow' S' = e + 1 ∧ S' < hp_n h') ∧ BU L L' h h' ∧ SD (hs a) b 511 (.inl (g1, g2)) true s d ∧ v = tf d := by
  obtain ⟨ss, ⟨p1, p2⟩, ⟨s1, s2⟩, d⟩ := si
  have xq : x ≠ q := fun z => by
    have t := st.1
    rw [z, ss.t] at t
    exact absurd t (by decide)
  have aq : ∀ k, k < 6 → a + k ≠ q := fun k hk z => by
    rcases Nat.eq_zero_or_pos k with k0 | k0
    · have t := hc.t
      rw [show a = q by omega, ss.t] at t
      exact absurd t (by decide)
    · have t := (hc.1.2 k k0 hk).2.1
      rw [z, ss.t] at t
      exact absurd t (by decide)
  have ha : ∀ k, k < 6 → a + k < hp_n h ∧ ¬ W3 q P S (a + k) := fun k hk => by
    have o := ho k hk
    refine ⟨o.2.2, fun w => ?_⟩
    rcases w with w | w | w
    · exact aq k hk w
    · rw [w, p1] at o; omega
    · rw [w, s1] at o; omega
  have hxn : x < hp_n h ∧ ¬ W3 q P S x := ⟨hx.1, fun w => by
    rcases w with w | w | w
    · exact xq w
    · have := hx.2; rw [w, p1] at this; omega
    · have := hx.2; rw [w, s1] at this; omega⟩
  obtain ⟨h3, P', S', L', e3, f3, s3, l3, a3, b3, ⟨r4, j2, j3, j5, j6, j7, j8⟩, z3⟩ := cc_settle F hF ss hq p2 s2 ha hc st hxn
  have L16 := s3.L16
  have h4 := hc.f4
  have an : ∀ k, k < 6 → a + k ≠ P' ∧ a + k ≠ S' := fun k hk => by
    have := ha k hk
    rcases a3 with ⟨w1, w2, -⟩ | ⟨w1, w2, -⟩
    · rw [w1, w2]; exact ⟨fun e => this.2 (Or.inr (Or.inl e)), fun e => this.2 (Or.inr (Or.inr e))⟩
    · rw [w1, w2]; exact ⟨by omega, by omega⟩
  have rw0 : RW h3 q P' S' L' (fun _ => s) (fun _ => 0) 0 := ⟨s3, ⟨j2, Nat.zero_le _⟩, fun i hi => absurd hi (by omega), fun c hc' => by
    rw [z3 _ (by omega), b_0]
    exact ⟨fun z => absurd z (by decide), fun ⟨i, i1, _⟩ => absurd i1 (by omega)⟩⟩
  have t0 : TQ (hs a) (fun _ => s) 0 := ⟨fun i hi => absurd hi (by omega), fun i j hi => absurd hi (by omega)⟩
  have d0 : DC (fun _ => s) 0 := fun i hi => absurd hi (by omega)
  have tc0 : TC h3 q P' S' L' a (hs a) b s (fun _ => s) (fun _ => 0) 0 := ⟨rw0, ⟨r4, hc.fw f3 ha, an, l3⟩, ⟨hb, ok⟩, j6, t0, d0⟩
  obtain ⟨h5, u5, p5, n5, e5, f5, g5, r5, t5, d5, x5, y5, z5⟩ := cc_addDays F (by omega) h4 rw0 t0 d0 l3 ok
  have tc5 := tc0.mk f5 g5 r5 t5 d5
  have fr0 : FR (hs a) b s s 0 := ⟨[], mo_nil _, rfl, Nat.le_refl _⟩
  have n5p : 0 < n5 := by obtain ⟨i, i1, -⟩ := y5; omega
  have com : ∀ ms v, mo 511 ms → rpt (hs a) b ms s = some v → cst true ms ≤ 0 → ∃ i, i < n5 ∧ u5 i = v := by
    intro ms
    induction ms with
    | nil =>
      intro v m1 m2 m3
      have : s = v := Option.some.inj m2
      subst this
      exact y5
    | cons m ms ih =>
      intro v m1 m2 m3
      have m2 : (rpt (hs a) b ms s).bind (fun w => mv (hs a) b w m) = some v := m2
      have m3 : cst true ms + ck true m ≤ 0 := m3
      have z : m = 8 := by
        by_cases z : m = 8
        · exact z
        · have c1 : ck true m = 1 := by unfold ck; rw [if_neg (by simp [z])]
          omega
      subst z
      cases hw : rpt (hs a) b ms s with
      | none => rw [hw] at m2; cases m2
      | some w =>
        rw [hw] at m2
        obtain ⟨i, i1, i2⟩ := ih w (mo_tl m1) hw (by omega)
        obtain ⟨j, j1, j2⟩ := d5 i i1
        exact ⟨j, j1, by rw [j2, i2]; exact Option.some.inj m2⟩
  have fi : FI (hs a) b s (.inl (g1, g2)) u5 0 0 n5 := by
    refine ⟨fun i hi => ⟨fr0.dd (z5 i (by omega) hi), fun z => absurd z (by omega)⟩, fun i _ hi => ?_, fun v ⟨ms, m1, m2, m3⟩ => com ms v m1 m2 m3, fun v j hj => absurd hj (by omega), fun i hi => absurd hi (by omega), Nat.le_refl _, Nat.zero_le _⟩
    have led : LEd s (u5 i) := by
      rcases z5 i (by omega) hi with w | w | w
      · rw [w]; exact LEd.rf s
      · rw [w]; exact LEd.dy s
      · rw [w]; exact (LEd.dy s).tr (LEd.dy _)
    exact led.le ok.1 (t5.1 i hi).1
  obtain ⟨v, dd, h6, e6, f6, sd, hv⟩ := cc_few20 F hF rfl h1 h2 L' 0 0 F h5 u5 p5 n5 (by omega) (by omega) tc5 n5p fi
  unfold f_X7_fewestTellings
  rw [cV_n ss.t e3, gI_n s3.t, j5, cV_n s3.t e5, show f_X7_fewestTellings_20 F F q (nI g1) (nI g2) 0 0 h5 = _ from e6]
  have f56 := f5.tr f6
  have n6 : hp_n h6 = hp_n h3 := f56.1.2.2.2.1
  refine ⟨v, dd, h6, P', S', L', fun y => if y = hp_n h then e else if y = hp_n h + 1 then e + 1 else ow y, rfl, ?_, fun y hy => ?_, s3.sh f56.1, ?_, ?_, ?_, sd, hv⟩
  · refine f3.tr f56.fw (fun y hy hw => ?_)
    rcases hw with w | w | w
    · exact Or.inl w
    · rcases a3 with ⟨w1, w2, -⟩ | ⟨w1, w2, -⟩
      · exact Or.inr (Or.inl (w.trans w1))
      · omega
    · rcases a3 with ⟨w1, w2, -⟩ | ⟨w1, w2, -⟩
      · exact Or.inr (Or.inr (w.trans w2))
      · omega
  · show (if y = hp_n h then e else if y = hp_n h + 1 then e + 1 else ow y) = ow y
    rw [if_neg (by omega), if_neg (by omega)]
  · show (if P' = hp_n h then e else if P' = hp_n h + 1 then e + 1 else ow P') = e ∧ _
    rcases a3 with ⟨w1, w2, w3⟩ | ⟨w1, w2, w3⟩
    · rw [w1, if_neg (by omega), if_neg (by omega)]; exact ⟨p1, by omega⟩
    · rw [if_pos w1]; exact ⟨rfl, by omega⟩
  · show (if S' = hp_n h then e else if S' = hp_n h + 1 then e + 1 else ow S') = e + 1 ∧ _
    rcases a3 with ⟨w1, w2, w3⟩ | ⟨w1, w2, w3⟩
    · rw [w2, if_neg (by omega), if_neg (by omega)]; exact ⟨s1, by omega⟩
    · rw [if_neg (by omega), if_pos w2]; exact ⟨rfl, by omega⟩
  · exact b3.tr (BU.sh f56.1)
theorem cc_tellings (F : Nat) (hF : 70000 ≤ F) {h : Hp} {x a s b : Nat} {ow : Nat → Nat} {hs : Nat → HM} {T : Nat} (c : CV h x a s b ow hs T) (y z : Int32) : ∃ v h', f_X11_tellings F x y z h = some (v, h') ∧ A_tellings (hs a) s b y z v ∧ RC h x a s b ow hs T [26, 202, 203] h' := by
  unfold f_X11_tellings A_tellings
  rw [cc_sets F c.2.1 y z (fun h => some (-3, h)) (fun h5 => gR 12 h5 x 12 fun v7 => gR 12 h5 x 3 fun v8 => gR 12 h5 x 5 fun v9 => cV 8 h5 v7 (f_X7_fewestTellings F v7 v8 v9 y z h5) fun v10 h11 => gR 12 h11 x 12 fun v12 => cV 8 h11 v12 (f_X7_drop F v12 h11) fun v13 h14 => some (v10, h14))]
  cases hq : gsets (hs a) y z with
  | none => exact ⟨_, h, rfl, rfl, RC.rf c _⟩
  | some q =>
    obtain ⟨rfl, rfl, q1, q2⟩ := gsets_some c.2.1.hc.d6 hq
    obtain ⟨P0, S0, L0, R, si, hT, cl⟩ := c.op (q := 26) (e := 202) (Or.inr ⟨rfl, rfl⟩)
    obtain ⟨k, cb, ho, -⟩ := c
    have k15 := k.1 15 (by decide) (by decide)
    have k26 := k.1 26 (by decide) (by decide)
    obtain ⟨v, d, h1, P, S, L, ow', e1, f1, oe, s1, ⟨p1, p2⟩, ⟨s1', s2'⟩, bu, sd, hv⟩ := cc_fewest F hF si (by omega) k26.2 cb.hc ho cb.2.2.2.1 ⟨k15.2, by rw [k15.1]; decide⟩ cb.ok cb.b10 q1 q2
    obtain ⟨h2, e2, f2, i2, -, -, -⟩ := cc_drop F hF s1
    have fo1 : FO [26, 202, 203] ow h h1 := f1.mono (fun y _ w => by
      rcases w with w | w | w
      · rw [w, k26.1]; decide
      · rw [w, si.2.1.1]; decide
      · rw [w, si.2.2.1.1]; decide)
    have k26' : ow' (x + 26) = 26 := by rw [oe _ k26.2]; exact k26.1
    have fo2 : FO [26, 202, 203] ow h h2 := fo1.tr oe (f2.fw.mono (fun y _ w => by
      rcases w with w | w | w
      · rw [w, k26']; decide
      · rw [w, p1]; decide
      · rw [w, s1']; decide))
    have n2 : hp_n h2 = hp_n h1 := f2.1.2.2.2.1
    have cs1 : CSH h1 x := cb.1.fo k fo1 (by decide)
    have cv := cl h2 ow' P S L fo2 oe ⟨s1.sh f2.1, ⟨p1, by omega⟩, ⟨s1', by omega⟩, Or.inl i2⟩
    dsimp only
    rw [cb.1.g0 12 26 (by decide), cb.home, cb.now, cV_n (cb.1.t 26 8 (by decide)) e1, cs1.g0 12 26 (by decide), cV_n s1.t e2]
    refine ⟨v, h2, rfl, ⟨d, sd, hv⟩, ow', L + R, cv, oe, fo2, ?_⟩
    rw [hT]
    exact (bu.tr (BU.sh f2.1)).add
