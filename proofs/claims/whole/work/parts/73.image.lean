/-! L3, the class: images -/
def CIM (h : Hp) (x : Nat) (ow : Nat → Nat) (hs : Nat → HM) (im : IMG) : Prop := ∀ i, i < 2 → match im i with
  | none => hp_R h (x + 21) i = none
  | some q => ∃ a, hp_R h (x + 21) i = some a ∧ HC h a (hs a) ∧ hs a = q.1 ∧ HO h ow a ∧ ST h (x + (46 + i)) q.2.1 q.2.2 ∧ STok q.1 q.2.1 ∧ q.2.2 < 10
theorem HC.fo {h h' : Hp} {a : Nat} {H : HM} {ow : Nat → Nat} {os : List Nat} (c : HC h a H) (ho : HO h ow a) (f : FO os ow h h') (ok : ∀ o ∈ os, o < 100 ∨ 104 ≤ o) : HC h' a H := c.fw f (fun j hj => ⟨(ho j hj).2.2, fun z => by
  have a1 := ok _ z
  have a2 := ho j hj
  omega⟩)
theorem CIM.fo {h h' : Hp} {x : Nat} {ow ow' : Nat → Nat} {hs : Nat → HM} {im : IMG} {os : List Nat} (c : CIM h x ow hs im) (k : KA h x ow) (f : FO os ow h h') (oe : OE h ow ow') (ok : ∀ o ∈ os, o ≠ 21 ∧ o ≠ 46 ∧ o ≠ 47 ∧ (o < 100 ∨ 104 ≤ o)) : CIM h' x ow' hs im := by
  intro i hi
  have ci := c i hi
  have k21 := k.1 21 (by decide) (by decide)
  have e21 : hp_R h' (x + 21) = hp_R h (x + 21) := ((f.2.2 _ k21.2).2 (fun z => (ok _ z).1 k21.1)).2.2
  rw [e21]
  cases hm : im i with
  | none => rw [hm] at ci; exact ci
  | some q =>
    rw [hm] at ci
    obtain ⟨a, c1, c2, c3, c4, c5, c6⟩ := ci
    have k46 : ow (x + (46 + i)) = 46 + i ∧ x + (46 + i) < hp_n h := by
      rcases (show i = 0 ∨ i = 1 by omega) with rfl | rfl
      · exact k.1 46 (by decide) (by decide)
      · exact k.1 47 (by decide) (by decide)
    exact ⟨a, c1, c2.fo c4 f (fun o z => (ok o z).2.2.2), c3, c4.oe oe f.1, c5.fw f k46.2 (fun z => by
      have z : ow (x + (46 + i)) ∈ os := z
      rw [k46.1] at z
      have := ok _ z
      rcases (show i = 0 ∨ i = 1 by omega) with rfl | rfl
      · exact this.2.1 rfl
      · exact this.2.2.1 rfl), c6⟩
theorem PAC.fo {h h' : Hp} {x n : Nat} {ps : Nat → Nat × Nat} {ow : Nat → Nat} {os : List Nat} (p : PAC h x n ps) (k : KA h x ow) (f : FO os ow h h') (ok : ∀ o ∈ os, o ≠ 17 ∧ o ≠ 18 ∧ o ≠ 19) : PAC h' x n ps := by
  have k17 := k.1 17 (by decide) (by decide)
  have k18 := k.1 18 (by decide) (by decide)
  have k19 := k.1 19 (by decide) (by decide)
  unfold PAC
  rw [((f.2.2 _ k17.2).2 (fun z => (ok _ z).1 k17.1)).1, ((f.2.2 _ k18.2).2 (fun z => (ok _ z).2.1 k18.1)).1, ((f.2.2 _ k19.2).2 (fun z => (ok _ z).2.2 k19.1)).1]
  exact p
theorem CP.fo {h h' : Hp} {x a : Nat} {H : HM} {s b n : Nat} {ps : Nat → Nat × Nat} {ow : Nat → Nat} {os : List Nat} (r : CP h x a H s b n ps) (k : KA h x ow) (ho : HO h ow a) (f : FO os ow h h') (ok : OKs os) (ok2 : ∀ o ∈ os, o ≠ 17 ∧ o ≠ 18 ∧ o ≠ 19) : CP h' x a H s b n ps := ⟨r.1.fo k ho f ok, r.2.1.fo k f ok2, r.2.2⟩
theorem vb01 (y : Int32) : vb y 0 1 = vi y 2 := by
  unfold vi vb
  by_cases q : 0 ≤ y.toInt ∧ y.toInt < (2 : Nat)
  · rw [if_pos q, if_pos (by omega)]
  · rw [if_neg q, if_neg (by omega)]
theorem cc_noImage (F : Nat) {h : Hp} {x : Nat} (c : CSH h x) (y : Int32) : f_X11_noImage F x y h = some (nbs (vi y 2), h) := by
  unfold f_X11_noImage
  rw [c.g0 9 21 (by decide), al_n (c.t 21 24 (by decide)) (c.l 21 2 (by decide)), c.g0 10 22 (by decide), al_n (c.t 22 25 (by decide)) (c.l 22 2 (by decide))]
  cases hx : vi y 2 with
  | none =>
    by_cases q : y < 0
    · rw [if_pos q]; rfl
    · rw [if_neg q]
      rcases viN (by decide) hx with z | z
      · exact absurd z q
      · rw [if_pos z]; rfl
  | some t =>
    obtain ⟨t1, rfl⟩ := vi_some hx
    rw [if_neg (nI_pos (by omega)), if_neg (nI_ge t1 (by decide)), if_pos (nI_lt t1 (by decide))]; rfl
theorem CSH.is {α : Type} {h : Hp} {x i : Nat} (c : CSH h x) (hi : i < 2) (K : Nat → Option α) : aR 25 h (x + 22) (nI i) K = K (x + (46 + i)) := by
  unfold aR
  rw [gd_t ⟨c.t 22 25 (by decide), by rw [c.l 22 2 (by decide)]; exact inb_n hi (by decide)⟩, ix_n (by omega)]
  rw [show hp_R h (x + 22) i = some (x + (46 + i)) by
    rcases (show i = 0 ∨ i = 1 by omega) with rfl | rfl
    · exact c.2 (22, 0, 46) (by decide)
    · exact c.2 (22, 1, 47) (by decide)]
  rfl
theorem CSH.it {h : Hp} {x i : Nat} (c : CSH h x) (hi : i < 2) : hp_t h (x + (46 + i)) = 9 := by
  rcases (show i = 0 ∨ i = 1 by omega) with rfl | rfl
  · exact c.t 46 9 (by decide)
  · exact c.t 47 9 (by decide)
theorem cc_image (F : Nat) {h : Hp} {x a s b : Nat} {ow : Nat → Nat} {hs : Nat → HM} {T : Nat} (c : CV h x a s b ow hs T) {im : IMG} (ci : CIM h x ow hs im) (y : Int32) : ∃ h', f_X11_image F x y h = some ((sp_image y).1, h') ∧ FO [21, 46, 47] ow h h' ∧ SH h (hp_sR h (x + 21) 0 (hp_R h (x + 21) 0)) ∧ (hp_n h' = hp_n h ∧ hp_s h' = hp_s h) ∧ CV h' x a s b ow hs T ∧ CIM h' x ow hs (imU im (sp_image y).2 (hs a, s, b)) := by
  have sh0 : SH h (hp_sR h (x + 21) 0 (hp_R h (x + 21) 0)) := by
    refine ⟨rfl, rfl, ?_, rfl, rfl, rfl⟩
    funext y j
    show (if y = x + 21 ∧ j = 0 then hp_R h (x + 21) 0 else hp_R h y j) = _
    by_cases z : y = x + 21 ∧ j = 0
    · rw [if_pos z, z.1, z.2]
    · rw [if_neg z]
  unfold f_X11_image sp_image
  rw [cV_n c.2.1.1.t0 (cc_noImage F c.2.1.1 y), vb01]
  cases hy : vi y 2 with
  | none => rw [if_neg nbs1]; exact ⟨h, rfl, FO.rf _ _ _, sh0, ⟨rfl, rfl⟩, c, ci⟩
  | some i =>
    obtain ⟨hi, rfl⟩ := vi_some hy
    have k := c.1
    have k21 := k.1 21 (by decide) (by decide)
    have k46 : ow (x + (46 + i)) = 46 + i ∧ x + (46 + i) < hp_n h := by
      rcases (show i = 0 ∨ i = 1 by omega) with rfl | rfl
      · exact k.1 46 (by decide) (by decide)
      · exact k.1 47 (by decide) (by decide)
    have m46 : 46 + i ∈ [21, 46, 47] := by
      rcases (show i = 0 ∨ i = 1 by omega) with rfl | rfl <;> decide
    have f1 : FO [21, 46, 47] ow h (hp_sR h (x + 21) i (some a)) := FW.sR (by rw [k21.1]; decide)
    have c1 : CV (hp_sR h (x + 21) i (some a)) x a s b ow hs T := c.fo f1 (by unfold OKv OKs; decide)
    obtain ⟨h2, e2, f2, s2, -⟩ := cc_copy F (h := hp_sR h (x + 21) i (some a)) (show x + (46 + i) ≠ x + 15 by omega) (c1.2.1.1.it hi) c1.2.1.2.2.2.1
    have fo2 : FO [21, 46, 47] ow (hp_sR h (x + 21) i (some a)) h2 := (f2.f3 (q := x + (46 + i)) (P := x + (46 + i))).fw.mono (fun y _ w => by
      rcases w with w | w | w <;> (rw [w, k46.1]; exact m46))
    have c2 := c1.fo fo2 (by unfold OKv OKs; decide)
    have fo := f1.tr (OE.rf _ _) fo2
    rw [if_pos (nbs0 i), c.2.1.1.g0 9 21 (by decide), c.2.1.home]
    have ew : ∀ (K : Hp → Option (Int32 × Hp)), wR 24 h (x + 21) (nI i) a K = K (hp_sR h (x + 21) i (some a)) := fun K => by
      unfold wR
      rw [gd_t ⟨c.2.1.1.t 21 24 (by decide), by rw [c.2.1.1.l 21 2 (by decide)]; exact inb_n hi (by decide), c.2.1.hc.t⟩, ix_n (by omega)]
    rw [ew, c1.2.1.1.g0 10 22 (by decide), c1.2.1.1.is hi, c1.2.1.now, cV_n (c1.2.1.1.it hi) e2]
    refine ⟨h2, rfl, fo, sh0, ⟨f2.1.2.2.2.1, f2.1.2.2.2.2.1⟩, c2, fun j hj => ?_⟩
    have eR : hp_R h2 (x + 21) j = if j = i then some a else hp_R h (x + 21) j := by
      rw [f2.1.2.2.1, sR_at]
    show match (if j = i then some (hs a, s, b) else im j : Option (HM × Nat × Nat)) with | none => _ | some q => _
    rw [eR]
    by_cases z : j = i
    · subst z
      rw [if_pos rfl, if_pos rfl]
      exact ⟨a, rfl, c2.2.1.hc, rfl, c2.2.2.1, s2, c.2.1.ok, c.2.1.b10⟩
    · rw [if_neg z, if_neg z]
      have cj := ci j hj
      cases hm : im j with
      | none => rw [hm] at cj; exact cj
      | some q =>
        rw [hm] at cj
        obtain ⟨a', d1, d2, d3, d4, d5, d6⟩ := cj
        refine ⟨a', d1, d2.fo d4 fo (by decide), d3, d4.oe (OE.rf _ _) fo.1, ?_, d6⟩
        have d5 : ST (hp_sR h (x + 21) i (some a)) (x + (46 + j)) q.2.1 q.2.2 := d5
        exact d5.cg (by rw [f2.1.1]) (f2.2.2 _ (by omega))
/-- the home is another one -/
theorem CV.home {h h' : Hp} {x a s b a' s' b' : Nat} {ow : Nat → Nat} {hs : Nat → HM} {T : Nat} (c : CV h x a s b ow hs T) (f : FO [0, 15, 17] ow h h') (cb : CB h' x a' (hs a') s' b') (ho : HO h ow a') : CV h' x a' s' b' ow hs T := by
  obtain ⟨k, -, -, P1, S1, L1, P2, S2, L2, W, L3, J, L4, s1, s2, l3, l4, rfl⟩ := c
  have oe := OE.rf h ow
  exact ⟨k.oe oe f.1, cb, ho.oe oe f.1, P1, S1, L1, P2, S2, L2, W, L3, J, L4, s1.fo k (by decide) f oe (by decide), s2.fo k (by decide) f oe (by decide), l3.fo f oe (k.q 29 (by decide)), l4.fo f oe (k.q 31 (by decide)), rfl⟩
theorem HO.ap {h : Hp} {x a : Nat} {ow : Nat → Nat} (ho : HO h ow a) (k : KA h x ow) : ∀ j i, j < 6 → i < 48 → ct i ≠ 0 → a + j ≠ x + i := fun j i hj hi h0 e => by
  have a1 := ho j hj
  have a2 := k.1 i hi h0
  rw [e, a2.1] at a1
  omega
theorem cc_restore (F : Nat) {h : Hp} {x a s b n : Nat} {ps : Nat → Nat × Nat} {ow : Nat → Nat} {hs : Nat → HM} {T : Nat} (c : CV h x a s b ow hs T) (r : CP h x a (hs a) s b n ps) {im : IMG} (ci : CIM h x ow hs im) (y : Int32) : ∃ h', f_X11_restore F x y h = some ((sp_restore im y).1, h') ∧ FO [0, 15, 17] ow h h' ∧ hp_I h' x = hp_I h x ∧ (hp_n h' = hp_n h ∧ hp_s h' = hp_s h) ∧ CIM h' x ow hs im ∧ (match (sp_restore im y).2 with
    | none => CV h' x a s b ow hs T ∧ CP h' x a (hs a) s b n ps
    | some q => ∃ a', hs a' = q.1 ∧ CV h' x a' q.2.1 q.2.2 ow hs T ∧ CP h' x a' (hs a') q.2.1 q.2.2 0 ps) := by
  unfold f_X11_restore sp_restore
  rw [cV_n c.2.1.1.t0 (cc_noImage F c.2.1.1 y), vb01]
  cases hy : vi y 2 with
  | none => rw [if_neg nbs1]; exact ⟨h, rfl, FO.rf _ _ _, rfl, ⟨rfl, rfl⟩, ci, c, r⟩
  | some i =>
    obtain ⟨hi, rfl⟩ := vi_some hy
    have k := c.1
    have k0 := k.1 0 (by decide) (by decide)
    rw [Nat.add_zero] at k0
    have k15 := k.1 15 (by decide) (by decide)
    have k17 := k.1 17 (by decide) (by decide)
    have ea : ∀ (kn : Option (Int32 × Hp)) (ks : Nat → Option (Int32 × Hp)), aO 24 h (x + 21) (nI i) kn ks = oc (hp_R h (x + 21) i) kn ks := fun kn ks => by
      unfold aO
      rw [gd_t ⟨c.2.1.1.t 21 24 (by decide), by rw [c.2.1.1.l 21 2 (by decide)]; exact inb_n hi (by decide)⟩, ix_n (by omega)]
    have cii := ci i hi
    rw [if_pos (nbs0 i), c.2.1.1.g0 9 21 (by decide), ea]
    dsimp only
    cases hm : im i with
    | none =>
      rw [hm] at cii
      rw [show hp_R h (x + 21) i = none from cii]
      exact ⟨h, rfl, FO.rf _ _ _, rfl, ⟨rfl, rfl⟩, ci, c, r⟩
    | some q =>
      rw [hm] at cii
      obtain ⟨a', d1, d2, d3, d4, d5, d6, d7⟩ := cii
      rw [d1]
      show ∃ h', (pR 12 h x 3 a' fun h6 => gR 12 h6 x 5 fun v7 => gR 12 h6 x 10 fun v8 => aR 25 h6 v8 (nI i) fun v9 => cV 9 h6 v7 (f_X8_copy F v7 v9 h6) fun v10 h11 => gR 12 h11 x 7 fun v12 => cV 5 h11 v12 (f_X4_clear F v12 h11) fun v13 h14 => some ((0 : Int32), h14)) = _ ∧ _
      have f1 : FO [0, 15, 17] ow h (hp_sR h x 3 (some a')) := FW.sR (by rw [k0.1]; decide)
      have s1 : CSH (hp_sR h x 3 (some a')) x := c.2.1.1.sR (k := 0) (some a') (by decide)
      have d5' : ST (hp_sR h x 3 (some a')) (x + (46 + i)) q.2.1 q.2.2 := d5
      obtain ⟨h2, e2, f2, s2, -⟩ := cc_copy F (h := hp_sR h x 3 (some a')) (show x + 15 ≠ x + (46 + i) by omega) (s1.t 15 9 (by decide)) d5'
      have c2 : CSH h2 x := s1.sh f2.1
      have fo2 : FO [0, 15, 17] ow (hp_sR h x 3 (some a')) h2 := (f2.f3 (q := x + 15) (P := x + 15)).fw.mono (fun y _ w => by
        rcases w with w | w | w <;> (rw [w, k15.1]; decide))
      have f3 : FO [0, 15, 17] ow h2 (hp_sI h2 (x + 17) 0 0) := FW.sI (by rw [k17.1]; decide)
      have fo := (f1.tr (OE.rf _ _) fo2).tr (OE.rf _ _) f3
      rw [pR_n c.2.1.1.t0, s1.g0 5 15 (by decide), s1.g0 10 22 (by decide), s1.is hi, cV_n (s1.t 15 9 (by decide)) e2, c2.g0 7 17 (by decide)]
      have ecl : f_X4_clear F (x + 17) h2 = some ((), hp_sI h2 (x + 17) 0 0) := by
        unfold f_X4_clear
        rw [pI_n (c2.t 17 5 (by decide))]
      rw [cV_n (c2.t 17 5 (by decide)) ecl]
      have c3 : CSH (hp_sI h2 (x + 17) 0 0) x := c2.sh (SH.rf _)
      have cb : CB (hp_sI h2 (x + 17) 0 0) x a' (hs a') q.2.1 q.2.2 := by
        refine ⟨c3, ?_, d2.fo d4 fo (by decide), ?_, by rw [d3]; exact d6, d7, d4.ap k⟩
        · show hp_R h2 x 3 = _
          rw [f2.1.2.2.1, sR_at, if_pos rfl]
        · exact s2.cg rfl (sI_ne _ _ _ (show x + 15 ≠ x + 17 by omega))
      refine ⟨_, rfl, fo, ?_, ⟨f2.1.2.2.2.1, f2.1.2.2.2.2.1⟩, ci.fo k fo (OE.rf _ _) (by decide), a', d3, c.home fo cb d4, cb, ⟨?_, by omega, fun j hj => absurd hj (by omega)⟩, fun j hj => absurd hj (by omega)⟩
      · rw [sI_ne _ _ _ (show x ≠ x + 17 by omega), f2.2.2 x (by omega)]; rfl
      · rw [sI_at, if_pos rfl]; rfl
