/-! L4: class and reference side by side -/
/-- house, stand, bond; past; trays; tape; images; fault -/
abbrev Stt : Type := (HM × Nat × Nat) × (Nat × (Nat → Nat × Nat)) × TRY × (Nat × (Nat → Nat)) × IMG × (Nat × Int32)
def RA (h : Hp) (m : Nat) (S : Stt) : Prop := RP h m S.1.1 S.1.2.1 S.1.2.2 S.2.1.1 S.2.1.2 ∧ RT h m S.2.2.1 ∧ RTp h m S.2.2.2.1.1 S.2.2.2.1.2 ∧ RI h m S.2.2.2.2.1 ∧ hp_I h m 13 = nI S.2.2.2.2.2.1 ∧ hp_I h m 14 = S.2.2.2.2.2.2
def KSo (h : Hp) (ow : Nat → Nat) : Prop := ∀ i, i < 3 → (hp_t h (hp_k h i) = 14 ∧ hp_I h (hp_k h i) 1 = 0 ∧ hp_k h i < hp_n h ∧ ow (hp_k h i) = 400) ∧ ∃ v, hp_R h (hp_k h i) 0 = some v ∧ (hp_t h v = 27 ∧ hp_l h v = sl i ∧ ∀ j, j < sl i → hp_I h v j = nI (ch i j)) ∧ v < hp_n h ∧ ow v = 400
theorem KSo.ks {h : Hp} {ow : Nat → Nat} (k : KSo h ow) : KS h := fun i hi => by
  obtain ⟨⟨a1, a2, -⟩, v, a3, ⟨a4, a5, a6⟩, -⟩ := k i hi
  exact ⟨a1, a2, v, a3, a4, a5, a6⟩
theorem KSo.fo {h h' : Hp} {ow ow' : Nat → Nat} {os : List Nat} (k : KSo h ow) (f : FO os ow h h') (oe : OE h ow ow') (ok : 400 ∉ os) : KSo h' ow' := fun i hi => by
  obtain ⟨⟨a1, a2, a3, a4⟩, v, b1, ⟨b2, b3, b4⟩, b5, b6⟩ := k i hi
  rw [f.2.1]
  have e1 := f.2.2 _ a3
  have e2 := f.2.2 _ b5
  have n1 := e1.2 (fun z => ok (by have z : ow (hp_k h i) ∈ os := z; rw [a4] at z; exact z))
  have n2 := e2.2 (fun z => ok (by have z : ow v ∈ os := z; rw [b6] at z; exact z))
  refine ⟨⟨by rw [e1.1.1]; exact a1, by rw [n1.1]; exact a2, Nat.lt_of_lt_of_le a3 f.1, by rw [oe _ a3]; exact a4⟩, v, by rw [n1.2.2]; exact b1, ⟨by rw [e2.1.1]; exact b2, by rw [e2.1.2]; exact b3, by rw [n2.1]; exact b4⟩, Nat.lt_of_lt_of_le b5 f.1, by rw [oe _ b5]; exact b6⟩
theorem POo.fo {h h' : Hp} {x : Nat} {ow ow' : Nat → Nat} {P : Nat} {p : Nat → Nat} {os : List Nat} (c : POo h x ow P p) (ka : KA h x ow) (f : FO os ow h h') (oe : OE h ow ow') (ok : 2 ∉ os ∧ ∀ o ∈ os, o < 100 ∨ 104 ≤ o) : POo h' x ow' P p := by
  have k2 := ka.1 2 (by decide) (by decide)
  have e2 : hp_R h' (x + 2) = hp_R h (x + 2) := ((f.2.2 _ k2.2).2 (fun z => ok.1 (by have z : ow (x + 2) ∈ os := z; rw [k2.1] at z; exact z))).2.2
  obtain ⟨c1, c2, c3⟩ := c
  refine ⟨c1, fun k hk => ?_, fun k h1 h2 => by rw [e2]; exact c3 k h1 h2⟩
  obtain ⟨r1, r2, r3⟩ := c2 k hk
  have r0 := r3 0 (by decide)
  refine ⟨by rw [e2]; exact r1, r2.cg (fun j hj => (f.2.2 _ (r3 j hj).2).1) ((f.2.2 _ r0.2).2 (fun z => ?_)).2.2, fun j hj => ⟨by rw [oe _ (r3 j hj).2]; exact (r3 j hj).1, Nat.lt_of_lt_of_le (r3 j hj).2 f.1⟩⟩
  have z : ow (p k) ∈ os := z
  have q := ok.2 _ z
  have : ow (p k) = 100 + k := r0.1
  omega
def CA (h : Hp) (x : Nat) (ow : Nat → Nat) (hs : Nat → HM) (T P : Nat) (S : Stt) : Prop := ∃ a p, (CV h x a S.1.2.1 S.1.2.2 ow hs T ∧ hs a = S.1.1 ∧ CP h x a (hs a) S.1.2.1 S.1.2.2 S.2.1.1 S.2.1.2) ∧ CTR h x S.2.2.1 ∧ CTp h x S.2.2.2.1.1 S.2.2.2.1.2 ∧ CIM h x ow hs S.2.2.2.2.1 ∧ (hp_I h (x + 9) 0 = nI S.2.2.2.2.2.1 ∧ hp_I h (x + 9) 1 = S.2.2.2.2.2.2) ∧ (POo h x ow P p ∧ ∀ q, inU h x a q → ∃ k, k < P ∧ q = p k) ∧ KSo h ow ∧ ∃ w, w < 10 ∧ hp_I h (x + 13) 5 = nI w
def SOk (S : Stt) : Prop := HMn S.1.1 ∧ ∀ i q, S.2.2.2.2.1 i = some q → HMn q.1
def INV (h : Hp) (x : Nat) (ow : Nat → Nat) (hs : Nat → HM) (T P : Nat) (S : Stt) : Prop := CA h x ow hs T P S ∧ RA h (x + 48) S ∧ SOk S
/-- what is made -/
def RMm (T P : Nat) (h : Hp) (T' P' : Nat) (h' : Hp) : Prop := hp_n h' + T + 6 * P ≤ hp_n h + T' + 6 * P' ∧ hp_s h' + 4 * T + 2300 * P ≤ hp_s h + 4 * T' + 2300 * P' ∧ T ≤ T' ∧ P ≤ P'
theorem RMm.tr {T P T1 P1 T2 P2 : Nat} {h h1 h2 : Hp} (a : RMm T P h T1 P1 h1) (b : RMm T1 P1 h1 T2 P2 h2) : RMm T P h T2 P2 h2 := by
  obtain ⟨a1, a2, a3, a4⟩ := a
  obtain ⟨b1, b2, b3, b4⟩ := b
  exact ⟨by omega, by omega, by omega, by omega⟩
theorem BU.rm {T T' P : Nat} {h h' : Hp} (b : BU T T' h h') : RMm T P h T' P h' := by
  obtain ⟨b1, b2, b3⟩ := b
  exact ⟨by omega, by omega, b3, Nat.le_refl _⟩
theorem RMm.sh {T P : Nat} {h h' : Hp} (s : SH h h') : RMm T P h T P h' := ⟨by rw [s.2.2.2.1]; omega, by rw [s.2.2.2.2.1]; omega, Nat.le_refl _, Nat.le_refl _⟩
/-- a class's call leaves the class at S' -/
def CO (h : Hp) (x : Nat) (ow : Nat → Nat) (T P : Nat) (h1 : Hp) (S' : Stt) : Prop := ∃ ow' hs' T' P' os, CA h1 x ow' hs' T' P' S' ∧ OE h ow ow' ∧ FO os ow h h1 ∧ (300 ∉ os ∧ 400 ∉ os) ∧ RMm T P h T' P' h1
/-- the reference's call leaves the reference at S' -/
def RO (h : Hp) (m : Nat) (h' : Hp) (S' : Stt) : Prop := RA h' m S' ∧ SH h h' ∧ ∀ y, (∀ k, k < 18 → y ≠ m + k) → hp_I h' y = hp_I h y ∧ hp_L h' y = hp_L h y
/-! the reference under frames -/
theorem RA.cg {h h' : Hp} {m : Nat} {S : Stt} (r : RA h m S) (e : ∀ k, k < 18 → (hp_t h' (m + k) = hp_t h (m + k) ∧ hp_l h' (m + k) = hp_l h (m + k)) ∧ hp_I h' (m + k) = hp_I h (m + k) ∧ hp_L h' (m + k) = hp_L h (m + k) ∧ hp_R h' (m + k) = hp_R h (m + k)) : RA h' m S := by
  obtain ⟨⟨⟨s, r2, r3, r4, r5, r6⟩, pa, pk⟩, rt, rtp, ri, f1, f2⟩ := r
  have e0 := e 0 (by decide)
  rw [Nat.add_zero] at e0
  have i1 := (e 1 (by decide)).2.1
  have sr : SR h' m := ⟨by rw [e0.1.1]; exact s.1, fun k h0 h1 => by
    have ek := e k h1
    rw [e0.2.2.2, ek.1.1, ek.1.2]
    exact s.2 k h0 h1⟩
  refine ⟨⟨⟨sr, r2, by rw [i1]; exact r3, by rw [i1]; exact r4, r5, r6⟩, by rw [i1]; exact pa, pk⟩, fun i hi => ?_, ?_, ri.cg (e 2 (by decide)).2.1 (fun j _ => by rw [i1]), by rw [e0.2.1]; exact f1, by rw [e0.2.1]; exact f2⟩
  · rw [(e 15 (by decide)).2.1, (e 16 (by decide)).2.1, (e 17 (by decide)).2.2.1]
    exact rt i hi
  · unfold RTp
    rw [e0.2.1, (e 3 (by decide)).2.1]
    exact rtp
theorem RA.fo {h h' : Hp} {x : Nat} {ow : Nat → Nat} {S : Stt} {os : List Nat} (r : RA h (x + 48) S) (ka : KA h x ow) (f : FO os ow h h') (ok : 300 ∉ os) : RA h' (x + 48) S := r.cg (fun k hk => by
  have a := ka.2 k hk
  rw [← Nat.add_assoc] at a
  have b := f.2.2 _ a.2
  exact ⟨b.1, b.2 (fun z => ok (by have z : ow (x + 48 + k) ∈ os := z; rw [a.1] at z; exact z))⟩)
theorem RA.cj {h h' : Hp} {m : Nat} {S : Stt} {ks ls : List Nat} (r : RA h m S) (c : CJ m ks ls h h') (hk : 1 ∉ ks ∧ 2 ∉ ks ∧ 3 ∉ ks ∧ 15 ∉ ks ∧ 16 ∉ ks) (hl : 17 ∉ ls) : RA h' m S := by
  obtain ⟨⟨⟨s, r2, r3, r4, r5, r6⟩, pa, pk⟩, rt, rtp, ri, f1, f2⟩ := r
  have i1 := c.at hk.1
  have L17 : hp_L h' (m + 17) = hp_L h (m + 17) := c.2.2.1 _ (fun k q e => hl (by rw [show 17 = k by omega]; exact q))
  refine ⟨⟨⟨s.sh c.1, r2, by rw [i1]; exact r3, by rw [i1]; exact r4, r5, r6⟩, by rw [i1]; exact pa, pk⟩, fun i hi => ?_, ?_, ri.cg (c.at hk.2.1) (fun j _ => by rw [i1]), by rw [c.2.1 13 (by decide)]; exact f1, by rw [c.2.1 14 (by decide)]; exact f2⟩
  · rw [c.at hk.2.2.2.1, c.at hk.2.2.2.2, L17]
    exact rt i hi
  · unfold RTp
    rw [c.2.1 5 (by decide), c.at hk.2.2.1]
    exact rtp
theorem CJ.ro {h h' : Hp} {m : Nat} {S : Stt} {ks ls : List Nat} (c : CJ m ks ls h h') (hk : ∀ k ∈ ks, k < 18) (hl : ∀ k ∈ ls, k < 18) (r : RA h' m S) : RO h m h' S := ⟨r, c.1, fun y hy => ⟨c.2.2.2 y (fun k q => hy k (hk k q)), c.2.2.1 y (fun k q => hy k (hl k q))⟩⟩
/-! the class under frames -/
def okA (o : Nat) : Bool := o ≠ 0 && o ≠ 1 && o ≠ 2 && o ≠ 9 && o ≠ 13 && o ≠ 17 && o ≠ 18 && o ≠ 19 && o ≠ 21 && o ≠ 46 && o ≠ 47 && (o < 38 || 46 ≤ o) && o ≠ 400 && (o < 100 || 104 ≤ o) && o ≠ 300
theorem okA_v {o : Nat} (h : okA o = true) : (o ≠ 0 ∧ o ≠ 1 ∧ o ≠ 2 ∧ o ≠ 9 ∧ o ≠ 13 ∧ o ≠ 17 ∧ o ≠ 18 ∧ o ≠ 19 ∧ o ≠ 21 ∧ o ≠ 46 ∧ o ≠ 47) ∧ (o < 38 ∨ 46 ≤ o) ∧ o ≠ 400 ∧ (o < 100 ∨ 104 ≤ o) := by
  unfold okA at h
  simp only [Bool.and_eq_true, Bool.or_eq_true, decide_eq_true_eq, ne_eq] at h
  omega
theorem nin {os : List Nat} {q : Nat} (h : ∀ o ∈ os, o ≠ q) : q ∉ os := fun z => h q z rfl
theorem KA.I {h h' : Hp} {x : Nat} {ow : Nat → Nat} {os : List Nat} (k : KA h x ow) (f : FO os ow h h') {q : Nat} (hq : q < 48 ∧ ct q ≠ 0) (n : q ∉ os) : hp_I h' (x + q) = hp_I h (x + q) ∧ hp_L h' (x + q) = hp_L h (x + q) ∧ hp_R h' (x + q) = hp_R h (x + q) := by
  have a := k.1 q hq.1 hq.2
  exact (f.2.2 _ a.2).2 (fun z => n (by have z : ow (x + q) ∈ os := z; rw [a.1] at z; exact z))
theorem CTR.foA {h h' : Hp} {x : Nat} {ow : Nat → Nat} {os : List Nat} {tr : TRY} (c : CTR h x tr) (k : KA h x ow) (f : FO os ow h h') (ok : ∀ o ∈ os, o < 38 ∨ 46 ≤ o) : CTR h' x tr := c.cg (fun q h1 h2 => by
  have a := k.I f (q := q) (by
    have : ∀ q, q < 46 → 38 ≤ q → q < 48 ∧ ct q ≠ 0 := by decide
    exact this q h2 h1) (fun z => by have := ok q z; omega)
  exact ⟨a.1, a.2.1⟩)
theorem CTp.fo {h h' : Hp} {x tap : Nat} {tp : Nat → Nat} {ow : Nat → Nat} {os : List Nat} (c : CTp h x tap tp) (k : KA h x ow) (f : FO os ow h h') (ok : 0 ∉ os ∧ 1 ∉ os) : CTp h' x tap tp := by
  have a0 := (k.I f (q := 0) (by decide) ok.1).1
  rw [Nat.add_zero] at a0
  unfold CTp
  rw [a0, (k.I f (q := 1) (by decide) ok.2).1]
  exact c
/-- all but house, stand, past and searches stays -/
theorem CA.rest {h h' : Hp} {x : Nat} {ow ow' : Nat → Nat} {hs : Nat → HM} {P : Nat} {p : Nat → Nat} {a : Nat} {tr : TRY} {tap : Nat} {tp : Nat → Nat} {im : IMG} {fk : Nat} {fp : Int32} {os : List Nat} (k : KA h x ow) (f : FO os ow h h') (oe : OE h ow ow') (ok : ∀ o ∈ os, okA o = true) (r : CTR h x tr ∧ CTp h x tap tp ∧ CIM h x ow hs im ∧ (hp_I h (x + 9) 0 = nI fk ∧ hp_I h (x + 9) 1 = fp) ∧ (POo h x ow P p ∧ ∀ q, inU h x a q → ∃ k, k < P ∧ q = p k) ∧ KSo h ow ∧ ∃ w, w < 10 ∧ hp_I h (x + 13) 5 = nI w) : CTR h' x tr ∧ CTp h' x tap tp ∧ CIM h' x ow' hs im ∧ (hp_I h' (x + 9) 0 = nI fk ∧ hp_I h' (x + 9) 1 = fp) ∧ (POo h' x ow' P p ∧ ∀ q, inU h' x a q → ∃ k, k < P ∧ q = p k) ∧ KSo h' ow' ∧ ∃ w, w < 10 ∧ hp_I h' (x + 13) 5 = nI w := by
  obtain ⟨r1, r2, r3, r4, ⟨r5, r6⟩, r7, r8⟩ := r
  have v := fun o z => okA_v (ok o z)
  have e9 := (k.I f (q := 9) (by decide) (nin fun o z => (v o z).1.2.2.2.1)).1
  have e13 := (k.I f (q := 13) (by decide) (nin fun o z => (v o z).1.2.2.2.2.1)).1
  have e21 := (k.I f (q := 21) (by decide) (nin fun o z => (v o z).1.2.2.2.2.2.2.2.2.1)).2.2
  refine ⟨r1.foA k f (fun o z => (v o z).2.1), r2.fo k f ⟨nin fun o z => (v o z).1.1, nin fun o z => (v o z).1.2.1⟩, r3.fo k f oe (fun o z => ⟨(v o z).1.2.2.2.2.2.2.2.2.1, (v o z).1.2.2.2.2.2.2.2.2.2.1, (v o z).1.2.2.2.2.2.2.2.2.2.2, (v o z).2.2.2⟩), by rw [e9]; exact r4, ⟨r5.fo k f oe ⟨nin fun o z => (v o z).1.2.2.1, fun o z => (v o z).2.2.2⟩, fun q hq => r6 q ?_⟩, r7.fo f oe (nin fun o z => (v o z).2.2.1), by rw [e13]; exact r8⟩
  unfold inU at hq ⊢
  rw [e21] at hq
  exact hq
theorem okA_3 {os : List Nat} (ok : ∀ o ∈ os, okA o = true) : 300 ∉ os ∧ 400 ∉ os := ⟨fun z => absurd (ok 300 z) (by decide), fun z => absurd (ok 400 z) (by decide)⟩
/-- an asking call of the class -/
theorem CA.rc {h h' : Hp} {x a : Nat} {ow : Nat → Nat} {hs : Nat → HM} {T P : Nat} {p : Nat → Nat} {S : Stt} {os : List Nat} (ok : ∀ o ∈ os, okA o = true) (c : CV h x a S.1.2.1 S.1.2.2 ow hs T ∧ hs a = S.1.1 ∧ CP h x a (hs a) S.1.2.1 S.1.2.2 S.2.1.1 S.2.1.2) (r : CTR h x S.2.2.1 ∧ CTp h x S.2.2.2.1.1 S.2.2.2.1.2 ∧ CIM h x ow hs S.2.2.2.2.1 ∧ (hp_I h (x + 9) 0 = nI S.2.2.2.2.2.1 ∧ hp_I h (x + 9) 1 = S.2.2.2.2.2.2) ∧ (POo h x ow P p ∧ ∀ q, inU h x a q → ∃ k, k < P ∧ q = p k) ∧ KSo h ow ∧ ∃ w, w < 10 ∧ hp_I h (x + 13) 5 = nI w) (rc : RC h x a S.1.2.1 S.1.2.2 ow hs T os h') : CO h x ow T P h' S := by
  obtain ⟨ow', T', cv, oe, f, bu⟩ := rc
  have k := c.1.1
  have v := fun o z => okA_v (ok o z)
  refine ⟨ow', hs, T', P, os, ⟨a, p, ⟨cv, c.2.1, cv.2.1, c.2.2.2.1.fo k f (fun o z => ⟨(v o z).1.2.2.2.2.2.1, (v o z).1.2.2.2.2.2.2.1, (v o z).1.2.2.2.2.2.2.2.1⟩), c.2.2.2.2⟩, CA.rest k f oe ok r⟩, oe, f, okA_3 ok, bu.rm⟩
/-- the home stays; stand, bond and past may be others -/
theorem CV.re {h h' : Hp} {x a s b s' b' : Nat} {ow : Nat → Nat} {hs : Nat → HM} {T : Nat} {os : List Nat} (c : CV h x a s b ow hs T) (f : FO os ow h h') (ok : ∀ o ∈ os, o ≠ 23 ∧ o ≠ 26 ∧ o ≠ 29 ∧ o ≠ 31 ∧ o < 48) (cb : CB h' x a (hs a) s' b') : CV h' x a s' b' ow hs T := by
  obtain ⟨k, -, ho, P1, S1, L1, P2, S2, L2, W, L3, J, L4, s1, s2, l3, l4, rfl⟩ := c
  have oe := OE.rf h ow
  refine ⟨k.oe oe f.1, cb, ho.oe oe f.1, P1, S1, L1, P2, S2, L2, W, L3, J, L4, s1.fo k ⟨by decide, by decide, nin fun o z => (ok o z).1⟩ f oe (fun o z => ?_), s2.fo k ⟨by decide, by decide, nin fun o z => (ok o z).2.1⟩ f oe (fun o z => ?_), l3.fo f oe (k.q 29 ⟨by decide, by decide, nin fun o z => (ok o z).2.2.1⟩), l4.fo f oe (k.q 31 ⟨by decide, by decide, nin fun o z => (ok o z).2.2.2.1⟩), rfl⟩
  · have := (ok o z).2.2.2.2; omega
  · have := (ok o z).2.2.2.2; omega
/-- the reference's call as the class sees it -/
theorem RO.fo {h h' : Hp} {x : Nat} {ow : Nat → Nat} {S' : Stt} (r : RO h (x + 48) h' S') (k : KA h x ow) : FO [300] ow h h' := by
  refine ⟨Nat.le_of_eq r.2.1.2.2.2.1.symm, r.2.1.2.2.2.2.2, fun y _ => ⟨⟨by rw [r.2.1.1], by rw [r.2.1.2.1]⟩, fun hn => ?_⟩⟩
  have e := r.2.2 y (fun j hj e => hn (by
    show ow y ∈ [300]
    have a := k.2 j hj
    rw [← Nat.add_assoc] at a
    rw [e, a.1]; decide))
  exact ⟨e.1, e.2, by rw [r.2.1.2.2.1]⟩
theorem CA.ro {h h' : Hp} {x : Nat} {ow : Nat → Nat} {hs : Nat → HM} {T P : Nat} {S S' : Stt} (c : CA h x ow hs T P S) (r : RO h (x + 48) h' S') : CA h' x ow hs T P S := by
  obtain ⟨a, p, ⟨cv, e, cp⟩, c1, c2, c3, c4, ⟨c5, c6⟩, c7, c8⟩ := c
  have k := cv.1
  have f := r.fo k
  have oe := OE.rf h ow
  have e9 := (k.I f (q := 9) (by decide) (by decide)).1
  have e13 := (k.I f (q := 13) (by decide) (by decide)).1
  have e21 := (k.I f (q := 21) (by decide) (by decide)).2.2
  refine ⟨a, p, ⟨cv.fo f (by unfold OKv OKs; decide), e, cp.fo k cv.2.2.1 f (by unfold OKs; decide) (by decide)⟩, c1.foA k f (by decide), c2.fo k f (by decide), c3.fo k f oe (by decide), by rw [e9]; exact c4, ⟨c5.fo k f oe (by decide), fun q hq => c6 q ?_⟩, c7.fo f oe (by decide), by rw [e13]; exact c8⟩
  unfold inU at hq ⊢
  rw [e21] at hq
  exact hq
/-- what is owned by 400 stays over both calls -/
def KPt (x : Nat) (h : Hp) (ow : Nat → Nat) (h1 h2 : Hp) (ow' : Nat → Nat) : Prop := hp_t h1 (x + 48) = 13 ∧ hp_n h ≤ hp_n h2 ∧ ∀ y, y < hp_n h → ow y = 400 → (hp_t h1 y = hp_t h y ∧ hp_l h1 y = hp_l h y ∧ hp_I h1 y = hp_I h y) ∧ (hp_t h2 y = hp_t h y ∧ hp_l h2 y = hp_l h y ∧ hp_I h2 y = hp_I h y) ∧ ow' y = 400
/-- both calls, one after the other -/
theorem STEP_mk {ρ : Type} {x : Nat} {fc fm : Hp → Option (ρ × Hp)} {h : Hp} {ow : Nat → Nat} {hs : Nat → HM} {T P : Nat} {S : Stt} (I : INV h x ow hs T P S) (st : ∃ v h1 S', fc h = some (v, h1) ∧ CO h x ow T P h1 S' ∧ SOk S' ∧ (RA h1 (x + 48) S → ∃ h2, fm h1 = some (v, h2) ∧ RO h1 (x + 48) h2 S')) : ∃ v h1 h2 ow' hs' T' P' S', fc h = some (v, h1) ∧ fm h1 = some (v, h2) ∧ INV h2 x ow' hs' T' P' S' ∧ RMm T P h T' P' h2 ∧ KPt x h ow h1 h2 ow' := by
  obtain ⟨v, h1, S', e1, ⟨ow', hs', T', P', os, ca, oe, f, ⟨o3, o4⟩, rm⟩, so, k⟩ := st
  obtain ⟨a, p, ⟨cv, -, -⟩, -⟩ := I.1
  have ra1 := I.2.1.fo cv.1 f o3
  obtain ⟨h2, e2, ro⟩ := k ra1
  have k1 : KA h1 x ow' := by
    obtain ⟨a', p', ⟨cv', -, -⟩, -⟩ := ca
    exact cv'.1
  refine ⟨v, h1, h2, ow', hs', T', P', S', e1, e2, ⟨ca.ro ro, ro.1, so⟩, rm.tr (RMm.sh ro.2.1), ra1.1.1.1.1, by rw [ro.2.1.2.2.2.1]; exact f.1, fun y hy oy => ?_⟩
  have b := f.2.2 y hy
  have c := b.2 (fun z => o4 (by have z : ow y ∈ os := z; rw [oy] at z; exact z))
  have o' : ow' y = 400 := by rw [oe y hy]; exact oy
  have d := (ro.2.2 y (fun j hj e => by
    have q := k1.2 j hj
    rw [← Nat.add_assoc] at q
    rw [e, q.1] at o'
    exact absurd o' (by decide))).1
  exact ⟨⟨b.1.1, b.1.2, c.1⟩, ⟨by rw [ro.2.1.1]; exact b.1.1, by rw [ro.2.1.2.1]; exact b.1.2, by rw [d]; exact c.1⟩, o'⟩
