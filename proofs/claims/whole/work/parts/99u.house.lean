/-! L4: house: the class up to its spare house; frames -/
/-- searches that know nothing, rows -/
def CVz (h : Hp) (x : Nat) (ow : Nat → Nat) (T : Nat) : Prop := KA h x ow ∧ CSH h x ∧ ∃ P1 S1 L1 P2 S2 L2 W L3 J L4, (SS h (x + 23) P1 S1 L1 ∧ (ow P1 = 200 ∧ P1 < hp_n h) ∧ (ow S1 = 201 ∧ S1 < hp_n h) ∧ hp_I h (x + 23) 2 = 0) ∧ (SS h (x + 26) P2 S2 L2 ∧ (ow P2 = 202 ∧ P2 < hp_n h) ∧ (ow S2 = 203 ∧ S2 < hp_n h) ∧ hp_I h (x + 26) 2 = 0) ∧ LA h (x + 29) 23 W L3 ow 204 ∧ LA h (x + 31) 20 J L4 ow 205 ∧ T = L1 + L2 + L3 + L4
theorem CVz.fo {h h' : Hp} {x : Nat} {ow ow' : Nat → Nat} {T : Nat} {os : List Nat} (c : CVz h x ow T) (f : FO os ow h h') (oe : OE h ow ow') (cs : CSH h' x) (ok : 23 ∉ os ∧ 26 ∉ os ∧ 29 ∉ os ∧ 31 ∉ os) : CVz h' x ow' T := by
  obtain ⟨k, -, P1, S1, L1, P2, S2, L2, W, L3, J, L4, ⟨a1, ⟨a2, a3⟩, ⟨a4, a5⟩, a6⟩, ⟨b1, ⟨b2, b3⟩, ⟨b4, b5⟩, b6⟩, l3, l4, t⟩ := c
  have k23 := k.1 23 (by decide) (by decide)
  have k26 := k.1 26 (by decide) (by decide)
  have n23 : ¬ ow (x + 23) ∈ os := by rw [k23.1]; exact ok.1
  have n26 : ¬ ow (x + 26) ∈ os := by rw [k26.1]; exact ok.2.1
  refine ⟨k.oe oe f.1, cs, P1, S1, L1, P2, S2, L2, W, L3, J, L4, ⟨a1.fw f ⟨k23.2, n23⟩ a3 a5, ⟨by rw [oe _ a3]; exact a2, Nat.lt_of_lt_of_le a3 f.1⟩, ⟨by rw [oe _ a5]; exact a4, Nat.lt_of_lt_of_le a5 f.1⟩, by rw [((f.2.2 _ k23.2).2 n23).1]; exact a6⟩, ⟨b1.fw f ⟨k26.2, n26⟩ b3 b5, ⟨by rw [oe _ b3]; exact b2, Nat.lt_of_lt_of_le b3 f.1⟩, ⟨by rw [oe _ b5]; exact b4, Nat.lt_of_lt_of_le b5 f.1⟩, by rw [((f.2.2 _ k26.2).2 n26).1]; exact b6⟩, l3.fo f oe (k.q 29 ⟨by decide, by decide, ok.2.2.1⟩), l4.fo f oe (k.q 31 ⟨by decide, by decide, ok.2.2.2⟩), t⟩
theorem CVz.cv {h : Hp} {x : Nat} {ow : Nat → Nat} {T a s b : Nat} {hs : Nat → HM} (c : CVz h x ow T) (cb : CB h x a (hs a) s b) (ho : HO h ow a) : CV h x a s b ow hs T := by
  obtain ⟨k, -, P1, S1, L1, P2, S2, L2, W, L3, J, L4, ⟨a1, a2, a4, a6⟩, ⟨b1, b2, b4, b6⟩, l3, l4, t⟩ := c
  exact ⟨k, cb, ho, P1, S1, L1, P2, S2, L2, W, L3, J, L4, ⟨a1, a2, a4, Or.inl a6⟩, ⟨b1, b2, b4, Or.inl b6⟩, l3, l4, t⟩
/-- both searches are dropped -/
theorem CV.drop (F : Nat) (hF : 70000 ≤ F) {h : Hp} {x a s b : Nat} {ow : Nat → Nat} {hs : Nat → HM} {T : Nat} (c : CV h x a s b ow hs T) : ∃ h7 h10, f_X7_drop F (x + 23) h = some ((), h7) ∧ f_X7_drop F (x + 26) h7 = some ((), h10) ∧ SH h h7 ∧ SH h7 h10 ∧ FO [23, 200, 201, 26, 202, 203] ow h h10 ∧ CVz h10 x ow T := by
  obtain ⟨k, cb, ho, P1, S1, L1, P2, S2, L2, W, L3, J, L4, s1, s2, l3, l4, t⟩ := c
  have k23 := k.1 23 (by decide) (by decide)
  have k26 := k.1 26 (by decide) (by decide)
  obtain ⟨h7, e7, f7, z7, -⟩ := cc_drop F hF s1.1
  have fo7 : FO [23, 200, 201, 26, 202, 203] ow h h7 := f7.fw.mono (fun y _ w => by
    rcases w with w | w | w
    · rw [w, k23.1]; decide
    · rw [w, s1.2.1.1]; decide
    · rw [w, s1.2.2.1.1]; decide)
  have n7 : hp_n h7 = hp_n h := f7.1.2.2.2.1
  have ss2 : SS h7 (x + 26) P2 S2 L2 := s2.1.sh f7.1
  obtain ⟨h10, e10, f10, z10, -⟩ := cc_drop F hF ss2
  have fo10 : FO [23, 200, 201, 26, 202, 203] ow h7 h10 := f10.fw.mono (fun y _ w => by
    rcases w with w | w | w
    · rw [w, k26.1]; decide
    · rw [w, s2.2.1.1]; decide
    · rw [w, s2.2.2.1.1]; decide)
  have fo := fo7.tr (OE.rf _ _) fo10
  have n10 : hp_n h10 = hp_n h := by rw [f10.1.2.2.2.1, n7]
  have oe := OE.rf h ow
  have sh := f7.1.tr f10.1
  have i23 : hp_I h10 (x + 23) = hp_I h7 (x + 23) := f10.2.2 _ (by omega) (fun e => by
    have := s2.2.1.1
    rw [← e, k23.1] at this; omega) (fun e => by
    have := s2.2.2.1.1
    rw [← e, k23.1] at this; omega)
  refine ⟨h7, h10, e7, e10, f7.1, f10.1, fo, k.oe oe fo.1, cb.1.sh sh, P1, S1, L1, P2, S2, L2, W, L3, J, L4, ⟨s1.1.sh sh, ⟨s1.2.1.1, by rw [n10]; exact s1.2.1.2⟩, ⟨s1.2.2.1.1, by rw [n10]; exact s1.2.2.1.2⟩, by rw [i23]; exact z7⟩, ⟨s2.1.sh sh, ⟨s2.2.1.1, by rw [n10]; exact s2.2.1.2⟩, ⟨s2.2.2.1.1, by rw [n10]; exact s2.2.2.1.2⟩, z10⟩, l3.fo fo oe (k.q 29 (by decide)), l4.fo fo oe (k.q 31 (by decide)), t⟩
/-- what is there before the class reads: the spare house is a', the k-th of the pool -/
def HB (h : Hp) (x a a' k : Nat) (ow : Nat → Nat) (hs : Nat → HM) (T P : Nat) (p : Nat → Nat) (S : Stt) : Prop := (CVz h x ow T ∧ hp_R h x 3 = some a ∧ HC h a (hs a) ∧ HO h ow a) ∧ (ST h (x + 15) S.1.2.1 S.1.2.2 ∧ PAC h x S.2.1.1 S.2.1.2) ∧ CTR h x S.2.2.1 ∧ ((∀ j, j < S.2.2.2.1.1 → hp_I h (x + 1) j = sx (S.2.2.2.1.2 j) ∧ S.2.2.2.1.2 j < 256) ∧ hp_I h x 1 = 0) ∧ CIM h x ow hs S.2.2.2.2.1 ∧ (POo h x ow P p ∧ ∀ q, inU h x a q → ∃ k, k < P ∧ q = p k) ∧ (k < P ∧ a' = p k ∧ ¬ inU h x a a') ∧ KSo h ow ∧ ∃ w, w < 10 ∧ hp_I h (x + 13) 5 = nI w
theorem HO.ix {h : Hp} {x : Nat} {ow : Nat → Nat} {P : Nat} {p : Nat → Nat} (c : POo h x ow P p) {k : Nat} (hk : k < P) : HO h ow (p k) := fun j hj => by
  have a := (c.2.1 k hk).2.2 j hj
  have := c.1.2
  exact ⟨by omega, by omega, a.2⟩
theorem H_before (F : Nat) (hF : 70000 ≤ F) {h : Hp} {x : Nat} {ow : Nat → Nat} {hs : Nat → HM} {T P : Nat} {S : Stt} {n : Nat} (hn : n ≤ S.2.2.2.1.1) (c : CA h x ow hs T P S) : ∃ a a' k h12 ow' P' p', HB h12 x a a' k ow' hs T P' p' S ∧ hs a = S.1.1 ∧ (STok (hs a) S.1.2.1 ∧ S.1.2.2 < 10 ∧ ∀ i, i < S.2.1.1 → STok (hs a) (S.2.1.2 i).1 ∧ (S.2.1.2 i).2 < 10) ∧ OE h ow ow' ∧ FO [0, 23, 200, 201, 26, 202, 203, 2] ow h h12 ∧ RMm T P h T P' h12 ∧ f_X11_house F x (nI n) h = (gR 12 h12 x 4 fun v13 => gR 12 h12 x 0 fun v14 => cV 6 h12 v13 (f_X5_reads F v13 v14 (nI n) a' h12) fun v15 h16 => if v15 = 0 then (gR 12 h16 x 4 fun v18 => gI 6 h16 v18 0 fun v19 => some (((-30) - v19), h16)) else (pR 12 h16 x 3 a' fun h20 => gR 12 h20 x 5 fun v21 => gI 3 h20 a' 4 fun v22 => pI 9 h20 v21 0 v22 fun h23 => gR 12 h23 x 5 fun v24 => gI 3 h23 a' 3 fun v25 => pI 9 h23 v24 1 v25 fun h26 => gR 12 h26 x 7 fun v27 => cV 5 h26 v27 (f_X4_clear F v27 h26) fun v28 h29 => gR 12 h29 x 3 fun v30 => gI 3 h29 v30 2 fun v31 => some (v31, h29))) := by
  obtain ⟨a, p, ⟨cv, ea, cp⟩, r1, r2, r3, r4, ⟨r5, r6⟩, r7, r8⟩ := c
  have k := cv.1
  have k0 := k.1 0 (by decide) (by decide)
  rw [Nat.add_zero] at k0
  have t0 := cv.2.1.1.t0
  have tap9 := r2.2.1
  have f4 : FA x [0] h (hp_sI h x 1 0) := FA.sI (k := 0) (by decide)
  have fo4 : FO [0] ow h (hp_sI h x 1 0) := f4.fo k (by decide)
  have cp4 := cp.fa f4 (by decide)
  have cv4 : CV (hp_sI h x 1 0) x a S.1.2.1 S.1.2.2 ow hs T := cv.re fo4 (by decide) cp4.1
  obtain ⟨h7, h10, e7, e10, sh7, sh10, fo10, cz⟩ := cv4.drop F hF
  have oe := OE.rf h ow
  have fo : FO [0, 23, 200, 201, 26, 202, 203] ow h h10 := FO.tr (fo4.mono (by decide)) (OE.rf _ _) (fo10.mono (by decide))
  have sh : SH h h10 := (f4.1.tr sh7).tr sh10
  have n10 : hp_n h10 = hp_n h := sh.2.2.2.1
  have R10 : hp_R h10 = hp_R h := sh.2.2.1
  have e1 : hp_I h10 (x + 1) = hp_I h (x + 1) := (k.I fo (q := 1) (by decide) (by decide)).1
  have k4 : KA (hp_sI h x 1 0) x ow := cv4.1
  have e0 : hp_I h10 x = hp_I (hp_sI h x 1 0) x := by
    have := (k4.I fo10 (q := 0) (by decide) (by decide)).1
    rw [Nat.add_zero] at this
    exact this
  have e13 := (k.I fo (q := 13) (by decide) (by decide)).1
  have po10 : POo h10 x ow P p := r5.fo k fo oe (by decide)
  have ua10 : ∀ q, inU h10 x a q → ∃ k, k < P ∧ q = p k := fun q hq => r6 q (by unfold inU at hq ⊢; rw [R10] at hq; exact hq)
  have r310 : hp_R h10 x 3 = some a := by rw [R10]; exact cv.2.1.2.1
  obtain ⟨a', h12, e12, ow', P', p', kk, po12, ⟨kk1, kk2, kk3⟩, oe12, fo12, ⟨pp1, pp2, pp3⟩, pp4⟩ := cc_spare F (by omega) cz.2.1 cz.1 r310 po10 ua10
  have k10 := cz.1
  have k12 : KA h12 x ow' := k10.oe oe12 fo12.1
  have cs12 : CSH h12 x := cz.2.1.fo k10 fo12 (by decide)
  have hc10 : HC h10 a (hs a) := cv.2.1.hc.fo cv.2.2.1 fo (by decide)
  have ho10 : HO h10 ow a := cv.2.2.1.oe oe fo.1
  have R12 : ∀ q, q < 48 ∧ ct q ≠ 0 → q ∉ [2] → hp_R h12 (x + q) = hp_R h10 (x + q) ∧ hp_I h12 (x + q) = hp_I h10 (x + q) := fun q h1 h2 => by
    have := k10.I fo12 h1 h2
    exact ⟨this.2.2, this.1⟩
  have r0 := R12 0 (by decide) (by decide)
  rw [Nat.add_zero] at r0
  have iu12 : ∀ q, inU h12 x a q ↔ inU h10 x a q := fun q => by
    unfold inU
    rw [(R12 21 (by decide) (by decide)).1]
  have k15 := k10.1 15 (by decide) (by decide)
  refine ⟨a, a', kk, h12, ow', P', p', ⟨⟨cz.fo fo12 oe12 cs12 (by decide), by rw [r0.1]; exact r310, hc10.fo ho10 fo12 (by decide), ho10.oe oe12 fo12.1⟩, ⟨?_, ?_⟩, (r1.foA k fo (by decide)).foA k10 fo12 (by decide), ⟨?_, ?_⟩, (r3.fo k fo oe (by decide)).fo k10 fo12 oe12 (by decide), ⟨po12, fun q hq => ?_⟩, ⟨kk1, kk2, fun z => kk3 ((iu12 _).mp z)⟩, (r7.fo fo oe (by decide)).fo fo12 oe12 (by decide), ?_⟩, ea, ⟨cv.2.1.ok, cv.2.1.b10, cp.2.2⟩, fun y hy => (oe12 y (by rw [n10]; exact hy)), ?_, ?_, ?_⟩
  · have st : ST h10 (x + 15) S.1.2.1 S.1.2.2 := cv.2.1.2.2.2.1.cg (by rw [sh.1]) ((k.I fo (q := 15) (by decide) (by decide)).1)
    exact st.cg ((fo12.2.2 _ k15.2).1.1) (R12 15 (by decide) (by decide)).2
  · exact (cp.2.1.fo k fo (by decide)).fo k10 fo12 (by decide)
  · rw [(R12 1 (by decide) (by decide)).2, e1]
    exact r2.2.2
  · rw [r0.2, e0, sI_at, if_pos rfl]
  · obtain ⟨j, j1, j2⟩ := ua10 q ((iu12 q).mp hq)
    exact ⟨j, by omega, by rw [pp4 j j1]; exact j2⟩
  · rw [(R12 13 (by decide) (by decide)).2, e13]; exact r8
  · exact FO.tr (fo.mono (by decide)) (OE.rf _ _) (fo12.mono (by decide))
  · have s10 : hp_s h10 = hp_s h := sh.2.2.2.2.1
    exact ⟨by omega, by omega, Nat.le_refl _, pp1⟩
  · have c4 : CSH (hp_sI h x 1 0) x := cv4.2.1.1
    have c7 : CSH h7 x := c4.sh sh7
    unfold f_X11_house
    rw [if_neg (nI_pos (by omega)), gI_n t0, r2.1, if_pos (nI_le hn (by omega)), pI_n t0, c4.g0 11 23 (by decide), cV_n (c4.t 23 8 (by decide)) e7, c7.g0 12 26 (by decide), cV_n (c7.t 26 8 (by decide)) e10, cV_n cz.2.1.t0 e12]
/-- what stays while the class reads into a' -/
theorem HB.fo {h h' : Hp} {x a a' k : Nat} {ow : Nat → Nat} {hs hs' : Nat → HM} {T P : Nat} {p : Nat → Nat} {S : Stt} (c : HB h x a a' k ow hs T P p S) (f : FO [9, 11, 12, 13, 14, 100 + k] ow h h') (cs : CSH h' x) (hsh : HSh h' a') (eh : ∀ y, y ≠ a' → hs' y = hs y) (w5 : ∃ w, w < 10 ∧ hp_I h' (x + 13) 5 = nI w) : HB h' x a a' k ow hs' T P p S := by
  obtain ⟨⟨cz, r3, hc, ho⟩, ⟨st, pac⟩, ctr, ⟨tpe, tz⟩, ci, ⟨po, ua⟩, ⟨kk, ea', nu⟩, ks, -⟩ := c
  have ka := cz.1
  have oe := OE.rf h ow
  have P4 := po.1.2
  have I : ∀ q, q < 48 ∧ ct q ≠ 0 → q ∉ [9, 11, 12, 13, 14] → hp_I h' (x + q) = hp_I h (x + q) ∧ hp_L h' (x + q) = hp_L h (x + q) ∧ hp_R h' (x + q) = hp_R h (x + q) := fun q h1 h2 => ka.I f h1 (fun z => by
    rcases List.mem_append.mp (show q ∈ [9, 11, 12, 13, 14] ++ [100 + k] from z) with z | z
    · exact h2 z
    · have := List.mem_singleton.mp z
      omega)
  have I0 := I 0 (by decide) (by decide)
  rw [Nat.add_zero] at I0
  -- another house of the pool keeps all
  have hk : ∀ b, (∃ j, j < P ∧ b = p j) → b ≠ a' → ∀ H, HC h b H → HC h' b H := fun b hb ne H hb' => by
    obtain ⟨j, j1, rfl⟩ := hb
    have jk : j ≠ k := fun e => ne (by rw [ea', e])
    refine hb'.fw f (fun i hi => ?_)
    have o := (po.2.1 j j1).2.2 i hi
    refine ⟨o.2, fun z => ?_⟩
    have z : ow (p j + i) ∈ [9, 11, 12, 13, 14, 100 + k] := z
    rw [o.1] at z
    rcases List.mem_append.mp (show 100 + j ∈ [9, 11, 12, 13, 14] ++ [100 + k] from z) with z | z
    · have : ∀ q ∈ [9, 11, 12, 13, 14], q < 100 := by decide
      have := this _ z
      omega
    · have := List.mem_singleton.mp z
      omega
  have na : a ≠ a' := fun e => nu (Or.inl e)
  have k15 := ka.1 15 (by decide) (by decide)
  refine ⟨⟨cz.fo f oe cs ?_, by rw [I0.2.2]; exact r3, by rw [eh a na]; exact hk a (ua a (Or.inl rfl)) na _ hc, ho.oe oe f.1⟩, ⟨st.cg (f.2.2 _ k15.2).1.1 (I 15 (by decide) (by decide)).1, ?_⟩, ctr.cg (fun q h1 h2 => ?_), ⟨by rw [(I 1 (by decide) (by decide)).1]; exact tpe, by rw [I0.1]; exact tz⟩, fun i hi => ?_, ⟨⟨po.1, fun j j1 => ?_, fun j h1 h2 => ?_⟩, fun q hq => ua q ?_⟩, ⟨kk, ea', fun z => nu ?_⟩, ks.fo f oe ?_, w5⟩
  · have : ∀ q, q < 100 → q ∉ [9, 11, 12, 13, 14] → q ∉ [9, 11, 12, 13, 14, 100 + k] := fun q h1 h2 z => by
      rcases List.mem_append.mp (show q ∈ [9, 11, 12, 13, 14] ++ [100 + k] from z) with z | z
      · exact h2 z
      · have := List.mem_singleton.mp z
        omega
    exact ⟨this 23 (by decide) (by decide), this 26 (by decide) (by decide), this 29 (by decide) (by decide), this 31 (by decide) (by decide)⟩
  · unfold PAC
    rw [(I 17 (by decide) (by decide)).1, (I 18 (by decide) (by decide)).1, (I 19 (by decide) (by decide)).1]
    exact pac
  · have := I q (by
      have : ∀ q, q < 46 → 38 ≤ q → q < 48 ∧ ct q ≠ 0 := by decide
      exact this q h2 h1) (by
      have : ∀ q, q < 46 → 38 ≤ q → q ∉ [9, 11, 12, 13, 14] := by decide
      exact this q h2 h1)
    exact ⟨this.1, this.2.1⟩
  · have cii := ci i hi
    rw [(I 21 (by decide) (by decide)).2.2]
    cases hm : S.2.2.2.2.1 i with
    | none => rw [hm] at cii; exact cii
    | some q =>
      rw [hm] at cii
      obtain ⟨b, d1, d2, d3, d4, d5, d6⟩ := cii
      have ub : inU h x a b := by
        rcases (show i = 0 ∨ i = 1 by omega) with rfl | rfl
        · exact Or.inr (Or.inl d1)
        · exact Or.inr (Or.inr d1)
      have nb : b ≠ a' := fun e => nu (by rw [← e]; exact ub)
      have k46 : ow (x + (46 + i)) = 46 + i ∧ x + (46 + i) < hp_n h := by
        rcases (show i = 0 ∨ i = 1 by omega) with rfl | rfl
        · exact ka.1 46 (by decide) (by decide)
        · exact ka.1 47 (by decide) (by decide)
      refine ⟨b, d1, by rw [eh b nb]; exact hk b (ua b ub) nb _ d2, by rw [eh b nb]; exact d3, d4.oe oe f.1, d5.cg (f.2.2 _ k46.2).1.1 ?_, d6⟩
      rcases (show i = 0 ∨ i = 1 by omega) with rfl | rfl
      · exact (I 46 (by decide) (by decide)).1
      · exact (I 47 (by decide) (by decide)).1
  · obtain ⟨q1, q2, q3⟩ := po.2.1 j j1
    refine ⟨by rw [(I 2 (by decide) (by decide)).2.2]; exact q1, ?_, fun i hi => ⟨(q3 i hi).1, Nat.lt_of_lt_of_le (q3 i hi).2 f.1⟩⟩
    by_cases e : j = k
    · rw [e, ← ea']; exact hsh
    · refine q2.cg (fun i hi => (f.2.2 _ (q3 i hi).2).1) (((f.2.2 _ (q3 0 (by decide)).2).2 (fun z => ?_)).2.2)
      have z : ow (p j + 0) ∈ [9, 11, 12, 13, 14, 100 + k] := z
      rw [(q3 0 (by decide)).1] at z
      rcases List.mem_append.mp (show 100 + j ∈ [9, 11, 12, 13, 14] ++ [100 + k] from z) with z | z
      · have : ∀ q ∈ [9, 11, 12, 13, 14], q < 100 := by decide
        have := this _ z
        omega
      · have := List.mem_singleton.mp z
        omega
  · rw [(I 2 (by decide) (by decide)).2.2]; exact po.2.2 j h1 h2
  · unfold inU at hq ⊢
    rw [(I 21 (by decide) (by decide)).2.2] at hq
    exact hq
  · unfold inU at z ⊢
    rw [(I 21 (by decide) (by decide)).2.2] at z
    exact z
  · intro z
    rcases List.mem_append.mp (show 400 ∈ [9, 11, 12, 13, 14] ++ [100 + k] from z) with z | z
    · exact absurd z (by decide)
    · have := List.mem_singleton.mp z
      omega
