/-! L3, the class: searches as calls ask them -/
def FO (os : List Nat) (ow : Nat → Nat) (h h' : Hp) : Prop := FW (fun y => ow y ∈ os) h h'
theorem FO.rf (os : List Nat) (ow : Nat → Nat) (h : Hp) : FO os ow h h := FW.rf _ _
theorem FO.tr {os : List Nat} {ow ow1 : Nat → Nat} {h h1 h2 : Hp} (a : FO os ow h h1) (e : OE h ow ow1) (b : FO os ow1 h1 h2) : FO os ow h h2 := FW.tr a b (fun y hy z => by
  have z : ow1 y ∈ os := z
  rw [e y hy] at z
  exact z)
theorem FO.mono {os os' : List Nat} {ow : Nat → Nat} {h h' : Hp} (a : FO os ow h h') (hs : ∀ o ∈ os, o ∈ os') : FO os' ow h h' := FW.mono a (fun _ _ z => hs _ z)
def OKs (os : List Nat) : Prop := ∀ o ∈ os, (∀ q ∈ crf, q.1 ≠ o) ∧ o ≠ 15 ∧ (o < 100 ∨ 104 ≤ o)
theorem crf_k : ∀ q ∈ crf, q.1 < 48 ∧ ct q.1 ≠ 0 := by decide
theorem CSH.fo {h h' : Hp} {x : Nat} {ow : Nat → Nat} {os : List Nat} (c : CSH h x) (k : KA h x ow) (f : FO os ow h h') (ok : ∀ o ∈ os, ∀ q ∈ crf, q.1 ≠ o) : CSH h' x := by
  refine ⟨fun j hj h0 => ?_, fun q hq => ?_⟩
  · have a := (f.2.2 _ (k.1 j hj h0).2).1
    rw [a.1, a.2]; exact c.1 j hj h0
  · have b := crf_k q hq
    have a := k.1 q.1 b.1 b.2
    rw [((f.2.2 _ a.2).2 (fun z => ok _ z q hq a.1.symm)).2.2]
    exact c.2 q hq
theorem CB.fo {h h' : Hp} {x a : Nat} {H : HM} {s b : Nat} {ow : Nat → Nat} {os : List Nat} (c : CB h x a H s b) (k : KA h x ow) (ho : HO h ow a) (f : FO os ow h h') (ok : OKs os) : CB h' x a H s b := by
  obtain ⟨c1, c2, c3, c4, c5⟩ := c
  have k0 := k.1 0 (by decide) (by decide)
  rw [Nat.add_zero] at k0
  have k15 := k.1 15 (by decide) (by decide)
  refine ⟨c1.fo k f (fun o h1 => (ok o h1).1), ?_, c3.fw f (fun j hj => ⟨(ho j hj).2.2, fun z => ?_⟩), c4.fw f k15.2 (fun z => (ok _ z).2.1 k15.1), c5⟩
  · rw [((f.2.2 x k0.2).2 (fun z => (ok _ z).1 (0, 0, 1) (by decide) k0.1.symm)).2.2]; exact c2
  · have a1 := (ok _ z).2.2
    have a2 := ho j hj
    omega
/-- a row of numbers that an object holds -/
def LA (h : Hp) (q t W L : Nat) (ow : Nat → Nat) (e : Nat) : Prop := hp_R h q 0 = some W ∧ (hp_t h W = t ∧ hp_l h W = L ∧ ∃ k, k ≤ 4 ∧ L = 16 ^ k) ∧ ow W = e ∧ W < hp_n h
theorem LA.fo {h h' : Hp} {q t W L e : Nat} {ow ow' : Nat → Nat} {os : List Nat} (c : LA h q t W L ow e) (f : FO os ow h h') (oe : OE h ow ow') (hq : q < hp_n h ∧ ow q ∉ os) : LA h' q t W L ow' e := by
  obtain ⟨c1, ⟨c2, c3, c4⟩, c5, c6⟩ := c
  have a := f.2.2 W c6
  refine ⟨?_, ⟨by rw [a.1.1]; exact c2, by rw [a.1.2]; exact c3, c4⟩, by rw [oe W c6]; exact c5, Nat.lt_of_lt_of_le c6 f.1⟩
  rw [((f.2.2 q hq.1).2 hq.2).2.2]; exact c1
theorem LA.L16 {h : Hp} {q t W L e : Nat} {ow : Nat → Nat} (c : LA h q t W L ow e) : L ≤ 65536 := by
  obtain ⟨k, k1, rfl⟩ := c.2.1.2.2
  exact p16_le k1
def CV (h : Hp) (x a s b : Nat) (ow : Nat → Nat) (hs : Nat → HM) (T : Nat) : Prop := KA h x ow ∧ CB h x a (hs a) s b ∧ HO h ow a ∧ ∃ P1 S1 L1 P2 S2 L2 W L3 J L4, SI h (x + 23) P1 S1 L1 ow hs 200 ∧ SI h (x + 26) P2 S2 L2 ow hs 202 ∧ LA h (x + 29) 23 W L3 ow 204 ∧ LA h (x + 31) 20 J L4 ow 205 ∧ T = L1 + L2 + L3 + L4
theorem SI.fo {h h' : Hp} {x q P S L e : Nat} {ow ow' : Nat → Nat} {hs : Nat → HM} {os : List Nat} (c : SI h (x + q) P S L ow hs e) (k : KA h x ow) (hq : q < 48 ∧ ct q ≠ 0 ∧ q ∉ os) (f : FO os ow h h') (oe : OE h ow ow') (hw : ∀ o ∈ os, o ≠ e ∧ o ≠ e + 1 ∧ (o < 100 ∨ 104 ≤ o)) : SI h' (x + q) P S L ow' hs e := by
  have a := k.1 q hq.1 hq.2.1
  exact c.fw f oe ⟨a.2, fun z => hq.2.2 (by rw [← a.1]; exact z)⟩ (fun y _ z => hw _ z)
theorem KA.q {h : Hp} {x : Nat} {ow : Nat → Nat} (k : KA h x ow) {os : List Nat} (q : Nat) (hq : q < 48 ∧ ct q ≠ 0 ∧ q ∉ os) : x + q < hp_n h ∧ ow (x + q) ∉ os := by
  have a := k.1 q hq.1 hq.2.1
  exact ⟨a.2, by rw [a.1]; exact hq.2.2⟩
/-- one of the two searches, and how the rest stays -/
theorem CV.op {h : Hp} {x a s b : Nat} {ow : Nat → Nat} {hs : Nat → HM} {T : Nat} (c : CV h x a s b ow hs T) {q e : Nat} (hqe : (q = 23 ∧ e = 200) ∨ (q = 26 ∧ e = 202)) : ∃ P S L R, SI h (x + q) P S L ow hs e ∧ T = L + R ∧ ∀ h' ow' P' S' L', FO [q, e, e + 1] ow h h' → OE h ow ow' → SI h' (x + q) P' S' L' ow' hs e → CV h' x a s b ow' hs (L' + R) := by
  obtain ⟨k, cb, ho, P1, S1, L1, P2, S2, L2, W, L3, J, L4, s1, s2, l3, l4, rfl⟩ := c
  rcases hqe with ⟨rfl, rfl⟩ | ⟨rfl, rfl⟩
  · refine ⟨P1, S1, L1, L2 + L3 + L4, s1, by omega, fun h' ow' P' S' L' f oe si => ⟨k.oe oe f.1, cb.fo k ho f (by unfold OKs; decide), ho.oe oe f.1, P', S', L', P2, S2, L2, W, L3, J, L4, si, s2.fo k (by decide) f oe (by decide), l3.fo f oe (k.q 29 (by decide)), l4.fo f oe (k.q 31 (by decide)), by omega⟩⟩
  · refine ⟨P2, S2, L2, L1 + L3 + L4, s2, by omega, fun h' ow' P' S' L' f oe si => ⟨k.oe oe f.1, cb.fo k ho f (by unfold OKs; decide), ho.oe oe f.1, P1, S1, L1, P', S', L', W, L3, J, L4, s1.fo k (by decide) f oe (by decide), si, l3.fo f oe (k.q 29 (by decide)), l4.fo f oe (k.q 31 (by decide)), by omega⟩⟩
theorem BU.add {L L' R : Nat} {h h' : Hp} (b : BU L L' h h') : BU (L + R) (L' + R) h h' := by
  obtain ⟨b1, b2, b3⟩ := b
  exact ⟨by omega, by omega, by omega⟩
theorem CV.beg (F : Nat) (hF : 70000 ≤ F) {h : Hp} {x a s b : Nat} {ow : Nat → Nat} {hs : Nat → HM} {T : Nat} (c : CV h x a s b ow hs T) {q e : Nat} (hqe : (q = 23 ∧ e = 200) ∨ (q = 26 ∧ e = 202)) {y z : Int32} {M : Nat} (sk : SK y z M) : ∃ h1 P S L R ow' u p kk n o, f_X7_begin F (x + q) a (x + 15) y z h = some ((), h1) ∧ SC h1 (x + q) P S L a (hs a) b M s u p kk n o 0 ∧ OE h ow ow' ∧ ∀ h2 u2 p2 kk2 n2 o2, F3 (x + q) P S h1 h2 → SC h2 (x + q) P S L a (hs a) b M s u2 p2 kk2 n2 o2 0 → CV h2 x a s b ow' hs (L + R) ∧ FO [q, e, e + 1] ow h h2 ∧ BU T (L + R) h h2 := by
  obtain ⟨P0, S0, L0, R, si, hT, cl⟩ := c.op hqe
  obtain ⟨k, cb, ho, -⟩ := c
  have k15 := k.1 15 (by decide) (by decide)
  have kq : ow (x + q) = q ∧ x + q < hp_n h := by
    rcases hqe with ⟨rfl, rfl⟩ | ⟨rfl, rfl⟩
    · exact k.1 23 (by decide) (by decide)
    · exact k.1 26 (by decide) (by decide)
  obtain ⟨h1, P, S, L, ow', u, p, kk, n, o, e1, f1, oe, c1, ⟨p1, p2⟩, ⟨s1, s2⟩, bu⟩ := cc_begin F hF si (by omega) kq.2 cb.hc ho cb.2.2.2.1 ⟨k15.2, by rw [k15.1]; decide⟩ cb.ok cb.b10 sk
  refine ⟨h1, P, S, L, R, ow', u, p, kk, n, o, e1, c1, oe, fun h2 u2 p2' kk2 n2 o2 f2 c2 => ?_⟩
  have n2' : hp_n h2 = hp_n h1 := f2.1.2.2.2.1
  have fo1 : FO [q, e, e + 1] ow h h1 := f1.mono (fun y _ w => by
    rcases w with w | w | w
    · rw [w, kq.1]; simp
    · rw [w, si.2.1.1]; simp
    · rw [w, si.2.2.1.1]; simp)
  have kq' : ow' (x + q) = q := by rw [oe _ kq.2]; exact kq.1
  have fo2 : FO [q, e, e + 1] ow h h2 := fo1.tr oe (f2.fw.mono (fun y _ w => by
    rcases w with w | w | w
    · rw [w, kq']; simp
    · rw [w, p1]; simp
    · rw [w, s1]; simp))
  refine ⟨cl h2 ow' P S L fo2 oe ⟨c2.ss, ⟨p1, by omega⟩, ⟨s1, by omega⟩, Or.inr ⟨a, b, M, s, u2, p2', kk2, n2, o2, c2, ho.oe oe fo2.1⟩⟩, fo2, ?_⟩
  rw [hT]
  exact (bu.tr (BU.sh f2.1)).add
/-! sets of doings -/
theorem set_j : ∀ d, d < 7 → ∀ j, j < 2 ^ d → nI j &&& (-((1 : Int32) <<< (nI d &&& 31))) = 0 := by decide +kernel
theorem set_b : ∀ d, d < 7 → ∀ i, i < 32 → d ≤ i → bt (-((1 : Int32) <<< (nI d &&& 31))) i = true := by decide +kernel
theorem set_n {d : Nat} (hd : d < 7) {y : Int32} (h : y &&& (-((1 : Int32) <<< (nI d &&& 31))) = 0) : ∃ j, j < 2 ^ d ∧ y = nI j := by
  have p6 : 2 ^ d ≤ 64 := p2_lt (by omega)
  have e : y = y &&& nI (2 ^ d - 1) := by
    refine b_ext fun i hi => ?_
    rw [b_and, bt_nI hi, Nat.testBit_two_pow_sub_one]
    by_cases z : i < d
    · rw [decide_eq_true z, Bool.and_true]
    · rw [decide_eq_false z, Bool.and_false]
      have := congrArg (fun v => bt v i) h
      rw [b_and, set_b d hd i hi (by omega), Bool.and_true, b_0] at this
      exact this
  obtain ⟨j, j1, j2⟩ := pk_andE y (m := nI (2 ^ d - 1)) d (by rw [pk_tn (by omega)])
  exact ⟨j, j1, by rw [e]; exact j2⟩
theorem cc_noSet (F : Nat) {h : Hp} {x a : Nat} {H : HM} {s b : Nat} (c : CB h x a H s b) (y : Int32) : f_X11_noSet F x y h = some (nbs (vi y (2 ^ hm_d H)), h) := by
  have d6 := c.hc.d6
  have p6 := p2_lt d6
  unfold f_X11_noSet
  rw [c.home, c.hc.ds]
  by_cases z : y &&& (-((1 : Int32) <<< (nI (hm_d H) &&& 31))) = 0
  · obtain ⟨j, j1, rfl⟩ := set_n (show hm_d H < 7 by omega) z
    rw [if_pos z, vi_nI j1 (by omega)]; rfl
  · rw [if_neg z]
    cases hv : vi y (2 ^ hm_d H) with
    | none => rfl
    | some j =>
      obtain ⟨j1, rfl⟩ := vi_some hv
      exact absurd (set_j _ (show hm_d H < 7 by omega) j j1) z
/-- what a goal's search came to -/
def GP (H : HM) (b M s : Nat) (g : GL) (u : Nat → Nat) (n : Nat) (v : Int32) : Prop := (v = -1 ∧ ∀ w, RH H b M s w → gl H g w = false) ∨ ∃ e, v = nI e ∧ e < n ∧ gl H g (u e) = true ∧ ∀ j, j < e → gl H g (u j) = false
def o3 (q e : Nat) : List Nat := [q, e, e + 1]
theorem cc_endOfComing (F : Nat) (hF : 70000 ≤ F) {h : Hp} {x a s b : Nat} {ow : Nat → Nat} {hs : Nat → HM} {T : Nat} (c : CV h x a s b ow hs T) {g1 g2 : Nat} (h1 : g1 < 64) (h2 : g2 < 64) : ∃ v h2 P S L u p kk n o ow' T', f_X11_endOfComing F x (nI g1) (nI g2) h = some (v, h2) ∧ SC h2 (x + 23) P S L a (hs a) b 511 s u p kk n o 0 ∧ GP (hs a) b 511 s (.inl (g1, g2)) u n v ∧ CV h2 x a s b ow' hs T' ∧ OE h ow ow' ∧ FO [23, 200, 201] ow h h2 ∧ BU T T' h h2 := by
  obtain ⟨h3, P, S, L, R, ow', u, p, kk, n, o, e3, c3, oe, cl⟩ := c.beg F hF (Or.inl ⟨rfl, rfl⟩) SK_all
  obtain ⟨v, h4, u4, p4, k4, n4, o4, e4, f4, c4, g4⟩ := cc_firstAtGoal F hF h1 h2 c3
  have w3 := (cl h3 u p kk n o (F3.rf _ _ _ _) c3).1
  have w4 := cl h4 u4 p4 k4 n4 o4 f4 c4
  unfold f_X11_endOfComing
  rw [c.2.1.1.g0 11 23 (by decide), c.2.1.home, c.2.1.now, cV_n (c.2.1.1.t 23 8 (by decide)) e3, w3.2.1.1.g0 11 23 (by decide), cV_n (w3.2.1.1.t 23 8 (by decide)) e4]
  exact ⟨v, h4, P, S, L, u4, p4, k4, n4, o4, ow', L + R, rfl, c4, g4, w4.1, oe, w4.2.1, w4.2.2⟩
theorem cc_endOfAlone (F : Nat) (hF : 70000 ≤ F) {h : Hp} {x a s b : Nat} {ow : Nat → Nat} {hs : Nat → HM} {T : Nat} (c : CV h x a s b ow hs T) {t d : Nat} (ht : t < 2) (hd : d < hm_d (hs a)) : ∃ v h2 P S L u p kk n o ow' T', f_X11_endOfAlone F x (nI t) (nI d) h = some (v, h2) ∧ SC h2 (x + 23) P S L a (hs a) b 511 s u p kk n o 0 ∧ GP (hs a) b 511 s (.inr (t, d)) u n v ∧ CV h2 x a s b ow' hs T' ∧ OE h ow ow' ∧ FO [23, 200, 201] ow h h2 ∧ BU T T' h h2 := by
  obtain ⟨h3, P, S, L, R, ow', u, p, kk, n, o, e3, c3, oe, cl⟩ := c.beg F hF (Or.inl ⟨rfl, rfl⟩) SK_all
  obtain ⟨v, h4, u4, p4, k4, n4, o4, e4, f4, c4, g4⟩ := cc_firstAlone F hF ht hd c3
  have w3 := (cl h3 u p kk n o (F3.rf _ _ _ _) c3).1
  have w4 := cl h4 u4 p4 k4 n4 o4 f4 c4
  unfold f_X11_endOfAlone
  rw [c.2.1.1.g0 11 23 (by decide), c.2.1.home, c.2.1.now, cV_n (c.2.1.1.t 23 8 (by decide)) e3, w3.2.1.1.g0 11 23 (by decide), cV_n (w3.2.1.1.t 23 8 (by decide)) e4]
  exact ⟨v, h4, P, S, L, u4, p4, k4, n4, o4, ow', L + R, rfl, c4, g4, w4.1, oe, w4.2.1, w4.2.2⟩
/-- how a call leaves the class -/
def RC (h : Hp) (x a s b : Nat) (ow : Nat → Nat) (hs : Nat → HM) (T : Nat) (os : List Nat) (h' : Hp) : Prop := ∃ ow' T', CV h' x a s b ow' hs T' ∧ OE h ow ow' ∧ FO os ow h h' ∧ BU T T' h h'
theorem RC.rf {h : Hp} {x a s b : Nat} {ow : Nat → Nat} {hs : Nat → HM} {T : Nat} (c : CV h x a s b ow hs T) (os : List Nat) : RC h x a s b ow hs T os h := ⟨ow, T, c, OE.rf _ _, FO.rf _ _ _, BU.sh (SH.rf h)⟩
theorem BQ.lenLW {H : HM} (hH : HMok H) {b s : Nat} {u p kk : Nat → Nat} {n o : Nat} (hs : STok H s) (q : BQ H b 511 s u p kk n o 0) {g : GL} {e : Nat} (he : e < n) (hf : ∀ j, j < e → gl H g (u j) = false) (hg : gl H g (u e) = true) : SD H b 511 g false s (Pp p kk e).length ∧ tf (Pp p kk e).length = nI (Pp p kk e).length := by
  have l := (q.lw hH hs he hf hg).sd
  rw [List.length_reverse] at l
  refine ⟨l, ?_⟩
  have := q.len24 hH he
  unfold tf
  rw [if_neg (by omega)]
theorem cc_answerOf (F : Nat) (hF : 70000 ≤ F) {h : Hp} {x a s b : Nat} {ow : Nat → Nat} {hs : Nat → HM} {T : Nat} (c : CV h x a s b ow hs T) {P S L : Nat} {u p kk : Nat → Nat} {n o : Nat} (sc : SC h (x + 23) P S L a (hs a) b 511 s u p kk n o 0) {g : GL} {v i : Int32} (gp : GP (hs a) b 511 s g u n v) (hi : 0 ≤ i) : ∃ w, f_X11_answerOf F x v i h = some (w, h) ∧ A_at (hs a) s b g i w := by
  obtain ⟨hi1, hi2⟩ := i_nn hi
  have nL := sc.nL
  unfold f_X11_answerOf
  rcases gp with ⟨rfl, g2⟩ | ⟨e, rfl, e1, e2, e3⟩
  · rw [if_pos (by decide)]; exact ⟨_, rfl, Or.inl ⟨SD_none g2, rfl⟩⟩
  · have lw := sc.bq.lw c.2.1.hc.2.1 c.2.1.ok e1 e3 e2
    have l24 := sc.bq.len24 c.2.1.hc.2.1 e1
    rw [if_neg (nI_pos (by omega)), c.2.1.1.g0 11 23 (by decide), cV_n sc.ss.t (cc_stepsTo F (by omega) sc e1)]
    by_cases z : i.toInt.toNat < (Pp p kk e).length
    · obtain ⟨k, k1, k2⟩ := cc_stepAt F (by omega) sc e1 z
      rw [if_pos (by rw [hi1]; exact nI_lt z (by omega)), c.2.1.1.g0 11 23 (by decide), cV_n sc.ss.t (show f_X7_stepAt F (x + 23) (nI e) i h = some (cm k, h) by rw [hi1]; exact k2)]
      have k9 : k < 9 := lw.lt9 k (List.mem_of_getElem? k1)
      have key : ∀ k, k < 9 → (if cm k = 20 then (99 : Int32) else cm k) = tm k := by decide +kernel
      refine ⟨tm k, ?_, Or.inr ⟨_, lw, by unfold wa; rw [k1]⟩⟩
      rw [← key k k9]
      by_cases z2 : cm k = 20
      · rw [if_pos z2, if_pos z2]
      · rw [if_neg z2, if_neg z2]
    · rw [if_neg (by rw [hi1]; exact fun w => z ((nI_ltI (by omega) (by omega)).mp w))]
      exact ⟨_, rfl, Or.inr ⟨_, lw, by unfold wa; rw [List.getElem?_eq_none (by rw [List.length_reverse]; omega)]⟩⟩
theorem vi_e {x : Int32} {n j : Nat} (h : vi x n = some j) : x = nI j := (vi_some h).2
theorem gsets_n1 {H : HM} {x y : Int32} (h : vi x (2 ^ hm_d H) = none) : gsets H x y = none := by unfold gsets; rw [h]; rfl
theorem gsets_n2 {H : HM} {x y : Int32} {j : Nat} (h : vi x (2 ^ hm_d H) = some j) (h2 : vi y (2 ^ hm_d H) = none) : gsets H x y = none := by unfold gsets; rw [h, h2]; rfl
theorem gsets_ss {H : HM} {x y : Int32} {j k : Nat} (h : vi x (2 ^ hm_d H) = some j) (h2 : vi y (2 ^ hm_d H) = some k) : gsets H x y = some (j, k) := by unfold gsets; rw [h, h2]; rfl
/-- both sets tested -/
theorem cc_sets {ρ : Type} (F : Nat) {h : Hp} {x a : Nat} {H : HM} {s b : Nat} (c : CB h x a H s b) (y z : Int32) (K0 : Hp → Option (ρ × Hp)) (K1 : Hp → Option (ρ × Hp)) : (cV 12 h x (f_X11_noSet F x y h) fun v1 h2 => if v1 = 0 then (cV 12 h2 x (f_X11_noSet F x z h2) fun v4 h5 => if v4 = 0 then K1 h5 else K0 h5) else K0 h2) = (match gsets H y z with | none => K0 h | some _ => K1 h) := by
  rw [cV_n c.1.t0 (cc_noSet F c y)]
  cases hy : vi y (2 ^ hm_d H) with
  | none => rw [if_neg nbs1, gsets_n1 hy]
  | some j =>
    rw [if_pos (nbs0 j), cV_n c.1.t0 (cc_noSet F c z)]
    cases hz : vi z (2 ^ hm_d H) with
    | none => rw [if_neg nbs1, gsets_n2 hy hz]
    | some k => rw [if_pos (nbs0 k), gsets_ss hy hz]
theorem cc_soonest (F : Nat) (hF : 70000 ≤ F) {h : Hp} {x a s b : Nat} {ow : Nat → Nat} {hs : Nat → HM} {T : Nat} (c : CV h x a s b ow hs T) (y z : Int32) : ∃ v h', f_X11_soonest F x y z h = some (v, h') ∧ A_soonest (hs a) s b y z v ∧ RC h x a s b ow hs T [23, 200, 201] h' := by
  unfold f_X11_soonest A_soonest
  rw [cc_sets F c.2.1 y z (fun h => some (-3, h)) (fun h5 => cV 12 h5 x (f_X11_endOfComing F x y z h5) fun v7 h8 => if 0 ≤ v7 then (gR 12 h8 x 11 fun v10 => cV 8 h8 v10 (f_X7_stepsTo F v10 v7 h8) fun v11 h12 => some (v11, h12)) else (some ((-1), h8)))]
  cases hq : gsets (hs a) y z with
  | none => exact ⟨_, h, rfl, rfl, RC.rf c _⟩
  | some q =>
    obtain ⟨rfl, rfl, q1, q2⟩ := gsets_some c.2.1.hc.d6 hq
    obtain ⟨v, h2, P, S, L, u, p, kk, n, o, ow', T', e2, sc, gp, cv, oe, fo, bu⟩ := cc_endOfComing F hF c q1 q2
    dsimp only
    rw [cV_n c.2.1.1.t0 e2]
    have nL := sc.nL
    rcases gp with ⟨rfl, g2⟩ | ⟨e, rfl, e1, g2, g3⟩
    · rw [if_neg (by decide)]
      exact ⟨_, h2, rfl, ⟨_, SD_none g2, rfl⟩, ow', T', cv, oe, fo, bu⟩
    · have l := sc.bq.lenLW c.2.1.hc.2.1 c.2.1.ok e1 g3 g2
      rw [if_pos (nI_pos' (by omega)), cv.2.1.1.g0 11 23 (by decide), cV_n sc.ss.t (cc_stepsTo F (by omega) sc e1)]
      exact ⟨_, h2, rfl, ⟨_, l.1, l.2.symm⟩, ow', T', cv, oe, fo, bu⟩
theorem cc_way (F : Nat) (hF : 70000 ≤ F) {h : Hp} {x a s b : Nat} {ow : Nat → Nat} {hs : Nat → HM} {T : Nat} (c : CV h x a s b ow hs T) (y z i : Int32) : ∃ v h', f_X11_way F x y z i h = some (v, h') ∧ A_way (hs a) s b y z i v ∧ RC h x a s b ow hs T [23, 200, 201] h' := by
  unfold f_X11_way A_way
  rw [cc_sets F c.2.1 y z (fun h => some (-3, h)) (fun h5 => if 0 ≤ i then (cV 12 h5 x (f_X11_endOfComing F x y z h5) fun v8 h9 => cV 12 h9 x (f_X11_answerOf F x v8 i h9) fun v10 h11 => some (v10, h11)) else (some ((-3), h5)))]
  cases hq : gsets (hs a) y z with
  | none => exact ⟨_, h, rfl, rfl, RC.rf c _⟩
  | some q =>
    obtain ⟨rfl, rfl, q1, q2⟩ := gsets_some c.2.1.hc.d6 hq
    dsimp only
    by_cases hi : 0 ≤ i
    · obtain ⟨v, h2, P, S, L, u, p, kk, n, o, ow', T', e2, sc, gp, cv, oe, fo, bu⟩ := cc_endOfComing F hF c q1 q2
      obtain ⟨w, w1, w2⟩ := cc_answerOf F hF cv sc gp hi
      rw [if_pos hi, cV_n c.2.1.1.t0 e2, cV_n cv.2.1.1.t0 w1]
      exact ⟨w, h2, rfl, by rw [if_pos hi]; exact w2, ow', T', cv, oe, fo, bu⟩
    · rw [if_neg hi]
      exact ⟨_, h, rfl, by rw [if_neg hi], RC.rf c _⟩
theorem cc_alone (F : Nat) (hF : 70000 ≤ F) {h : Hp} {x a s b : Nat} {ow : Nat → Nat} {hs : Nat → HM} {T : Nat} (c : CV h x a s b ow hs T) (y z : Int32) : ∃ v h', f_X11_alone F x y z h = some (v, h') ∧ A_alone (hs a) s b y z v ∧ RC h x a s b ow hs T [23, 200, 201] h' := by
  unfold f_X11_alone A_alone
  rw [cV_n c.2.1.1.t0 (cc_noTwin F x y h)]
  cases hy : vi y 2 with
  | none => rw [if_neg nbs1]; exact ⟨_, h, rfl, rfl, RC.rf c _⟩
  | some t =>
    rw [if_pos (nbs0 t), cV_n c.2.1.1.t0 (cc_noDoing F c.2.1 z)]
    dsimp only
    cases hz : vi z (hm_d (hs a)) with
    | none => rw [if_neg nbs1]; exact ⟨_, h, rfl, rfl, RC.rf c _⟩
    | some d =>
      obtain ⟨t1, rfl⟩ := vi_some hy
      obtain ⟨d1, rfl⟩ := vi_some hz
      obtain ⟨v, h2, P, S, L, u, p, kk, n, o, ow', T', e2, sc, gp, cv, oe, fo, bu⟩ := cc_endOfAlone F hF c t1 d1
      rw [if_pos (nbs0 d), cV_n c.2.1.1.t0 e2]
      dsimp only
      have nL := sc.nL
      rcases gp with ⟨rfl, g2⟩ | ⟨e, rfl, e1, g2, g3⟩
      · rw [if_neg (by decide)]
        exact ⟨_, h2, rfl, ⟨_, SD_none g2, rfl⟩, ow', T', cv, oe, fo, bu⟩
      · have l := sc.bq.lenLW c.2.1.hc.2.1 c.2.1.ok e1 g3 g2
        rw [if_pos (nI_pos' (by omega)), cv.2.1.1.g0 11 23 (by decide), cV_n sc.ss.t (cc_stepsTo F (by omega) sc e1)]
        exact ⟨_, h2, rfl, ⟨_, l.1, l.2.symm⟩, ow', T', cv, oe, fo, bu⟩
theorem cc_aloneWay (F : Nat) (hF : 70000 ≤ F) {h : Hp} {x a s b : Nat} {ow : Nat → Nat} {hs : Nat → HM} {T : Nat} (c : CV h x a s b ow hs T) (y z i : Int32) : ∃ v h', f_X11_aloneWay F x y z i h = some (v, h') ∧ A_aloneWay (hs a) s b y z i v ∧ RC h x a s b ow hs T [23, 200, 201] h' := by
  unfold f_X11_aloneWay A_aloneWay
  rw [cV_n c.2.1.1.t0 (cc_noTwin F x y h)]
  cases hy : vi y 2 with
  | none => rw [if_neg nbs1]; exact ⟨_, h, rfl, rfl, RC.rf c _⟩
  | some t =>
    rw [if_pos (nbs0 t), cV_n c.2.1.1.t0 (cc_noDoing F c.2.1 z)]
    dsimp only
    cases hz : vi z (hm_d (hs a)) with
    | none => rw [if_neg nbs1]; exact ⟨_, h, rfl, rfl, RC.rf c _⟩
    | some d =>
      obtain ⟨t1, rfl⟩ := vi_some hy
      obtain ⟨d1, rfl⟩ := vi_some hz
      rw [if_pos (nbs0 d)]
      dsimp only
      by_cases hi : 0 ≤ i
      · obtain ⟨v, h2, P, S, L, u, p, kk, n, o, ow', T', e2, sc, gp, cv, oe, fo, bu⟩ := cc_endOfAlone F hF c t1 d1
        obtain ⟨w, w1, w2⟩ := cc_answerOf F hF cv sc gp hi
        rw [if_pos hi, cV_n c.2.1.1.t0 e2, cV_n cv.2.1.1.t0 w1]
        exact ⟨w, h2, rfl, by rw [if_pos hi]; exact w2, ow', T', cv, oe, fo, bu⟩
      · rw [if_neg hi]
        exact ⟨_, h, rfl, by rw [if_neg hi], RC.rf c _⟩
