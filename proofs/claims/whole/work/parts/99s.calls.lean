/-! L4: the calls, but house, image, restore -/
def okC (o : Nat) : Bool := o ≠ 2 && o ≠ 9 && o ≠ 13 && o ≠ 21 && o ≠ 46 && o ≠ 47 && o ≠ 400 && (o < 100 || 104 ≤ o) && o ≠ 300
theorem okC_v {o : Nat} (h : okC o = true) : (o ≠ 2 ∧ o ≠ 9 ∧ o ≠ 13 ∧ o ≠ 21 ∧ o ≠ 46 ∧ o ≠ 47) ∧ o ≠ 400 ∧ (o < 100 ∨ 104 ≤ o) := by
  unfold okC at h
  simp only [Bool.and_eq_true, Bool.or_eq_true, decide_eq_true_eq, ne_eq] at h
  omega
theorem okC_3 {os : List Nat} (ok : ∀ o ∈ os, okC o = true) : 300 ∉ os ∧ 400 ∉ os := ⟨fun z => absurd (ok 300 z) (by decide), fun z => absurd (ok 400 z) (by decide)⟩
/-- images, fault, pool, texts stay -/
theorem CA.rest2 {h h' : Hp} {x : Nat} {ow ow' : Nat → Nat} {hs : Nat → HM} {P : Nat} {p : Nat → Nat} {a : Nat} {im : IMG} {fk : Nat} {fp : Int32} {os : List Nat} (k : KA h x ow) (f : FO os ow h h') (oe : OE h ow ow') (ok : ∀ o ∈ os, okC o = true) (r : CIM h x ow hs im ∧ (hp_I h (x + 9) 0 = nI fk ∧ hp_I h (x + 9) 1 = fp) ∧ (POo h x ow P p ∧ ∀ q, inU h x a q → ∃ k, k < P ∧ q = p k) ∧ KSo h ow ∧ ∃ w, w < 10 ∧ hp_I h (x + 13) 5 = nI w) : CIM h' x ow' hs im ∧ (hp_I h' (x + 9) 0 = nI fk ∧ hp_I h' (x + 9) 1 = fp) ∧ (POo h' x ow' P p ∧ ∀ q, inU h' x a q → ∃ k, k < P ∧ q = p k) ∧ KSo h' ow' ∧ ∃ w, w < 10 ∧ hp_I h' (x + 13) 5 = nI w := by
  obtain ⟨r3, r4, ⟨r5, r6⟩, r7, r8⟩ := r
  have v := fun o z => okC_v (ok o z)
  have e9 := (k.I f (q := 9) (by decide) (nin fun o z => (v o z).1.2.1)).1
  have e13 := (k.I f (q := 13) (by decide) (nin fun o z => (v o z).1.2.2.1)).1
  have e21 := (k.I f (q := 21) (by decide) (nin fun o z => (v o z).1.2.2.2.1)).2.2
  refine ⟨r3.fo k f oe (fun o z => ⟨(v o z).1.2.2.2.1, (v o z).1.2.2.2.2.1, (v o z).1.2.2.2.2.2, (v o z).2.2⟩), by rw [e9]; exact r4, ⟨r5.fo k f oe ⟨nin fun o z => (v o z).1.1, fun o z => (v o z).2.2⟩, fun q hq => r6 q ?_⟩, r7.fo f oe (nin fun o z => (v o z).2.1), by rw [e13]; exact r8⟩
  unfold inU at hq ⊢
  rw [e21] at hq
  exact hq
theorem CO.rf {h : Hp} {x : Nat} {ow : Nat → Nat} {hs : Nat → HM} {T P : Nat} {S : Stt} (c : CA h x ow hs T P S) : CO h x ow T P h S := ⟨ow, hs, T, P, [], c, OE.rf _ _, FO.rf _ _ _, by decide, RMm.sh (SH.rf h)⟩
/-- the class's trial stand alone changed -/
theorem CA.k16 {h h' : Hp} {x : Nat} {ow : Nat → Nat} {hs : Nat → HM} {T P : Nat} {S : Stt} (c : CA h x ow hs T P S) (f : FA x [16] h h') : CO h x ow T P h' S := by
  obtain ⟨a, p, ⟨cv, e, cp⟩, r⟩ := c
  have k := cv.1
  have fo : FO [16] ow h h' := f.fo k (by decide)
  exact ⟨ow, hs, T, P, [16], ⟨a, p, ⟨cv.fo fo (by unfold OKv OKs; decide), e, cp.fo k cv.2.2.1 fo (by unfold OKs; decide) (by decide)⟩, CA.rest k fo (OE.rf _ _) (by decide) r⟩, OE.rf _ _, fo, by decide, RMm.sh f.1⟩
theorem RA.c1 {h h' : Hp} {m : Nat} {S : Stt} {ks : List Nat} (r : RA h m S) (c : CI m ks h h') (hk : 2 ∉ ks ∧ 3 ∉ ks ∧ 15 ∉ ks ∧ 16 ∉ ks) (i1 : hp_I h' (m + 1) = hp_I h (m + 1)) : RA h' m S := by
  obtain ⟨⟨⟨s, r2, r3, r4, r5, r6⟩, pa, pk⟩, rt, rtp, ri, f1, f2⟩ := r
  refine ⟨⟨⟨s.sh c.1, r2, by rw [i1]; exact r3, by rw [i1]; exact r4, r5, r6⟩, by rw [i1]; exact pa, pk⟩, rt.ci c hk.2.2.1 hk.2.2.2, ?_, ri.cg (c.at hk.1) (fun j _ => by rw [i1]), by rw [c.2.1.2 13 (by decide)]; exact f1, by rw [c.2.1.2 14 (by decide)]; exact f2⟩
  unfold RTp
  rw [c.2.1.2 5 (by decide), c.at hk.2.1]
  exact rtp
/-- a deed -/
def nSt (S : Stt) (o : Option (Nat × Nat)) : Stt := match o with
  | none => S
  | some q => ((S.1.1, q.1, q.2), (pun S.2.1.1, pus S.2.1.1 S.2.1.2 (S.1.2.1, S.1.2.2)), S.2.2)
theorem nSt_so {S : Stt} (h : SOk S) (o : Option (Nat × Nat)) : SOk (nSt S o) := by
  cases o with
  | none => exact h
  | some q => exact h
theorem CA.deed {h h' : Hp} {x : Nat} {ow : Nat → Nat} {hs : Nat → HM} {T P : Nat} {S : Stt} {a : Nat} {p : Nat → Nat} (c : CV h x a S.1.2.1 S.1.2.2 ow hs T ∧ hs a = S.1.1 ∧ CP h x a (hs a) S.1.2.1 S.1.2.2 S.2.1.1 S.2.1.2) (r : CTR h x S.2.2.1 ∧ CTp h x S.2.2.2.1.1 S.2.2.2.1.2 ∧ CIM h x ow hs S.2.2.2.2.1 ∧ (hp_I h (x + 9) 0 = nI S.2.2.2.2.2.1 ∧ hp_I h (x + 9) 1 = S.2.2.2.2.2.2) ∧ (POo h x ow P p ∧ ∀ q, inU h x a q → ∃ k, k < P ∧ q = p k) ∧ KSo h ow ∧ ∃ w, w < 10 ∧ hp_I h (x + 13) 5 = nI w) (f : FA x [15, 16, 17, 18, 19] h h') {s' b' n' : Nat} {ps' : Nat → Nat × Nat} (cp : CP h' x a (hs a) s' b' n' ps') : CO h x ow T P h' ((S.1.1, s', b'), (n', ps'), S.2.2) := by
  have k := c.1.1
  have fo : FO [15, 16, 17, 18, 19] ow h h' := f.fo k (by decide)
  have oe := OE.rf h ow
  exact ⟨ow, hs, T, P, _, ⟨a, p, ⟨c.1.re fo (by decide) cp.1, c.2.1, cp⟩, r.1.foA k fo (by decide), r.2.1.fo k fo (by decide), CA.rest2 k fo oe (by decide) r.2.2⟩, oe, fo, by decide, RMm.sh f.1⟩
theorem CPo.co {h h' : Hp} {x : Nat} {ow : Nat → Nat} {hs : Nat → HM} {T P : Nat} {S : Stt} {a : Nat} {p : Nat → Nat} (c : CV h x a S.1.2.1 S.1.2.2 ow hs T ∧ hs a = S.1.1 ∧ CP h x a (hs a) S.1.2.1 S.1.2.2 S.2.1.1 S.2.1.2) (r : CTR h x S.2.2.1 ∧ CTp h x S.2.2.2.1.1 S.2.2.2.1.2 ∧ CIM h x ow hs S.2.2.2.2.1 ∧ (hp_I h (x + 9) 0 = nI S.2.2.2.2.2.1 ∧ hp_I h (x + 9) 1 = S.2.2.2.2.2.2) ∧ (POo h x ow P p ∧ ∀ q, inU h x a q → ∃ k, k < P ∧ q = p k) ∧ KSo h ow ∧ ∃ w, w < 10 ∧ hp_I h (x + 13) 5 = nI w) (f : FA x [15, 16, 17, 18, 19] h h') {o : Option (Nat × Nat)} (cp : CPo h' x a (hs a) S.1.2.1 S.1.2.2 S.2.1.1 S.2.1.2 o) : CO h x ow T P h' (nSt S o) := by
  cases o with
  | none => exact CA.deed c r f cp
  | some q => exact CA.deed c r f cp
theorem RA.deed {h h' : Hp} {m : Nat} {S : Stt} {s' b' n' : Nat} {ps' : Nat → Nat × Nat} (r : RA h m S) (c : CI m [0, 1, 5, 6, 7] h h') (j1 : ∀ j, 143 ≤ j → hp_I h' (m + 1) j = hp_I h (m + 1) j) (rp : RP h' m S.1.1 s' b' n' ps') : RO h m h' ((S.1.1, s', b'), (n', ps'), S.2.2) := by
  obtain ⟨-, rt, rtp, ri, f1, f2⟩ := r
  refine (c.j []).ro (by decide) (by decide) ⟨rp, rt.ci c (by decide) (by decide), ?_, ri.cg (c.at (by decide)) (fun j hj => j1 j (by omega)), by rw [c.2.1.2 13 (by decide)]; exact f1, by rw [c.2.1.2 14 (by decide)]; exact f2⟩
  unfold RTp
  rw [c.2.1.2 5 (by decide), c.at (by decide)]
  exact rtp
theorem RPo.ro {h h' : Hp} {m : Nat} {S : Stt} {o : Option (Nat × Nat)} (r : RA h m S) (c : CI m [0, 1, 5, 6, 7] h h') (j1 : ∀ j, 143 ≤ j → hp_I h' (m + 1) j = hp_I h (m + 1) j) (rp : RPo h' m S.1.1 S.1.2.1 S.1.2.2 S.2.1.1 S.2.1.2 o) : RO h m h' (nSt S o) := by
  cases o with
  | none => exact r.deed c j1 rp
  | some q => exact r.deed c j1 rp
section calls
variable {F x : Nat} {h : Hp} {ow : Nat → Nat} {hs : Nat → HM} {T P : Nat} {S : Stt}
theorem S_age (hF : 70000 ≤ F) (I : INV h x ow hs T P S) (y z : Int32) : ∃ v h1 h2 ow' hs' T' P' S', f_X11_age F x y z h = some (v, h1) ∧ f_X12_age F (x + 48) y z h1 = some (v, h2) ∧ INV h2 x ow' hs' T' P' S' ∧ RMm T P h T' P' h2 ∧ KPt x h ow h1 h2 ow' := by
  obtain ⟨⟨a, p, c, r⟩, -, so⟩ := id I
  refine STEP_mk (fc := fun h => f_X11_age F x y z h) (fm := fun h => f_X12_age F (x + 48) y z h) I ?_
  have e1 : f_X11_age F x y z h = some (sp_age S.1.1 S.1.2.1 y z, h) := by rw [← c.2.1]; exact cc_age F c.1.2.1 y z
  refine ⟨_, h, S, e1, CO.rf I.1, so, fun ra => ?_⟩
  obtain ⟨h2, e2, ci⟩ := rc_age F ra.1.1 y z
  exact ⟨h2, e2, (ci.j []).ro (by decide) (by decide) (ra.cj (ci.j []) (by decide) (by decide))⟩
theorem S_does (hF : 70000 ≤ F) (I : INV h x ow hs T P S) (y : Int32) : ∃ v h1 h2 ow' hs' T' P' S', f_X11_does F x y h = some (v, h1) ∧ f_X12_does F (x + 48) y h1 = some (v, h2) ∧ INV h2 x ow' hs' T' P' S' ∧ RMm T P h T' P' h2 ∧ KPt x h ow h1 h2 ow' := by
  obtain ⟨⟨a, p, c, r⟩, -, so⟩ := id I
  refine STEP_mk (fc := fun h => f_X11_does F x y h) (fm := fun h => f_X12_does F (x + 48) y h) I ?_
  have e1 : f_X11_does F x y h = some (sp_does S.1.1 S.1.2.1 y, h) := by rw [← c.2.1]; exact cc_does F c.1.2.1 y
  refine ⟨_, h, S, e1, CO.rf I.1, so, fun ra => ?_⟩
  obtain ⟨h2, e2, ci⟩ := rc_does F (by omega) ra.1.1 y
  exact ⟨h2, e2, (ci.j []).ro (by decide) (by decide) (ra.cj (ci.j []) (by decide) (by decide))⟩
theorem S_brings (hF : 70000 ≤ F) (I : INV h x ow hs T P S) (y z w : Int32) : ∃ v h1 h2 ow' hs' T' P' S', f_X11_brings F x y z w h = some (v, h1) ∧ f_X12_brings F (x + 48) y z w h1 = some (v, h2) ∧ INV h2 x ow' hs' T' P' S' ∧ RMm T P h T' P' h2 ∧ KPt x h ow h1 h2 ow' := by
  obtain ⟨⟨a, p, c, r⟩, -, so⟩ := id I
  refine STEP_mk (fc := fun h => f_X11_brings F x y z w h) (fm := fun h => f_X12_brings F (x + 48) y z w h) I ?_
  have e1 : f_X11_brings F x y z w h = some (sp_brings S.1.1 S.1.2.1 S.1.2.2 y z w, h) := by rw [← c.2.1]; exact cc_brings F c.1.2.1 y z w
  refine ⟨_, h, S, e1, CO.rf I.1, so, fun ra => ?_⟩
  obtain ⟨h2, e2, ci⟩ := rc_brings F (by omega) ra.1.1 y z w
  exact ⟨h2, e2, (ci.j []).ro (by decide) (by decide) (ra.cj (ci.j []) (by decide) (by decide))⟩
theorem S_secret (hF : 70000 ≤ F) (I : INV h x ow hs T P S) (y : Int32) : ∃ v h1 h2 ow' hs' T' P' S', f_X11_secret F x y h = some (v, h1) ∧ f_X12_secret F (x + 48) y h1 = some (v, h2) ∧ INV h2 x ow' hs' T' P' S' ∧ RMm T P h T' P' h2 ∧ KPt x h ow h1 h2 ow' := by
  obtain ⟨⟨a, p, c, r⟩, -, so⟩ := id I
  refine STEP_mk (fc := fun h => f_X11_secret F x y h) (fm := fun h => f_X12_secret F (x + 48) y h) I ?_
  have e1 : f_X11_secret F x y h = some (sp_secret S.1.1 S.1.2.1 S.1.2.2 y, h) := by rw [← c.2.1]; exact cc_secret F (by omega) c.1.2.1 y
  refine ⟨_, h, S, e1, CO.rf I.1, so, fun ra => ?_⟩
  obtain ⟨h2, e2, ci⟩ := rc_secret F (by omega) ra.1.1 y
  exact ⟨h2, e2, (ci.j []).ro (by decide) (by decide) (ra.cj (ci.j []) (by decide) (by decide))⟩
theorem S_doing (hF : 70000 ≤ F) (I : INV h x ow hs T P S) (y z : Int32) : ∃ v h1 h2 ow' hs' T' P' S', f_X11_doing F x y z h = some (v, h1) ∧ f_X12_doing F (x + 48) y z h1 = some (v, h2) ∧ INV h2 x ow' hs' T' P' S' ∧ RMm T P h T' P' h2 ∧ KPt x h ow h1 h2 ow' := by
  obtain ⟨⟨a, p, c, r⟩, -, so⟩ := id I
  refine STEP_mk (fc := fun h => f_X11_doing F x y z h) (fm := fun h => f_X12_doing F (x + 48) y z h) I ?_
  have e1 : f_X11_doing F x y z h = some (sp_doing S.1.1 S.1.2.1 y z, h) := by rw [← c.2.1]; exact cc_doing F (by omega) c.1.2.1 y z
  refine ⟨_, h, S, e1, CO.rf I.1, so, fun ra => ?_⟩
  have ci : CI (x + 48) [0] h (hp_sI h (x + 48) 0 0) := CI.f0
  exact ⟨_, rc_doing F (by omega) ra.1.1 y z, (ci.j []).ro (by decide) (by decide) (ra.cj (ci.j []) (by decide) (by decide))⟩
theorem S_count (hF : 70000 ≤ F) (I : INV h x ow hs T P S) (y : Int32) : ∃ v h1 h2 ow' hs' T' P' S', f_X11_count F x y h = some (v, h1) ∧ f_X12_count F (x + 48) y h1 = some (v, h2) ∧ INV h2 x ow' hs' T' P' S' ∧ RMm T P h T' P' h2 ∧ KPt x h ow h1 h2 ow' := by
  obtain ⟨⟨a, p, c, r⟩, -, so⟩ := id I
  refine STEP_mk (fc := fun h => f_X11_count F x y h) (fm := fun h => f_X12_count F (x + 48) y h) I ?_
  have e1 : f_X11_count F x y h = some (sp_count S.1.1 S.1.2.1 S.1.2.2 S.2.1.1 S.2.2.2.1.1 y, h) := by rw [← c.2.1]; exact cc_count F c.2.2 r.2.1.1 y
  refine ⟨_, h, S, e1, CO.rf I.1, so, fun ra => ?_⟩
  have ci : CI (x + 48) [0] h (hp_sI h (x + 48) 0 0) := CI.f0
  exact ⟨_, rc_count F (by omega) ra.1 ra.2.2.1.1 y, (ci.j []).ro (by decide) (by decide) (ra.cj (ci.j []) (by decide) (by decide))⟩
theorem S_fault (hF : 70000 ≤ F) (I : INV h x ow hs T P S) (y : Int32) : ∃ v h1 h2 ow' hs' T' P' S', f_X11_fault F x y h = some (v, h1) ∧ f_X12_fault F (x + 48) y h1 = some (v, h2) ∧ INV h2 x ow' hs' T' P' S' ∧ RMm T P h T' P' h2 ∧ KPt x h ow h1 h2 ow' := by
  obtain ⟨⟨a, p, c, r⟩, -, so⟩ := id I
  refine STEP_mk (fc := fun h => f_X11_fault F x y h) (fm := fun h => f_X12_fault F (x + 48) y h) I ?_
  have e1 : f_X11_fault F x y h = some (sp_fault S.2.2.2.2.2.1 S.2.2.2.2.2.2 y, h) := by exact cc_fault F c.1.2.1.1 r.2.2.2.1.1 r.2.2.2.1.2 y
  refine ⟨_, h, S, e1, CO.rf I.1, so, fun ra => ?_⟩
  have ci : CI (x + 48) [0] h (hp_sI h (x + 48) 0 0) := CI.f0
  exact ⟨_, rc_fault F ra.1.1.1 ra.2.2.2.2.1 ra.2.2.2.2.2 y, (ci.j []).ro (by decide) (by decide) (ra.cj (ci.j []) (by decide) (by decide))⟩
theorem S_judge (hF : 70000 ≤ F) (I : INV h x ow hs T P S) (y z : Int32) : ∃ v h1 h2 ow' hs' T' P' S', f_X11_judge F x y z h = some (v, h1) ∧ f_X12_judge F (x + 48) y z h1 = some (v, h2) ∧ INV h2 x ow' hs' T' P' S' ∧ RMm T P h T' P' h2 ∧ KPt x h ow h1 h2 ow' := by
  obtain ⟨⟨a, p, c, r⟩, -, so⟩ := id I
  refine STEP_mk (fc := fun h => f_X11_judge F x y z h) (fm := fun h => f_X12_judge F (x + 48) y z h) I ?_
  obtain ⟨h1, e1, f1⟩ := cc_judge F (by omega) c.2.2 r.1 y z
  rw [c.2.1] at e1
  refine ⟨_, h1, S, e1, I.1.k16 f1, so, fun ra => ?_⟩
  obtain ⟨h2, e2, ci, i1⟩ := rc_judge F (by omega) ra.1.1 ra.2.1 y z
  exact ⟨h2, e2, (ci.j []).ro (by decide) (by decide) (ra.c1 ci (by decide) i1)⟩
theorem S_bonds (hF : 70000 ≤ F) (I : INV h x ow hs T P S) (y z w : Int32) : ∃ v h1 h2 ow' hs' T' P' S', f_X11_bonds F x y z w h = some (v, h1) ∧ f_X12_bonds F (x + 48) y z w h1 = some (v, h2) ∧ INV h2 x ow' hs' T' P' S' ∧ RMm T P h T' P' h2 ∧ KPt x h ow h1 h2 ow' := by
  obtain ⟨⟨a, p, c, r⟩, -, so⟩ := id I
  refine STEP_mk (fc := fun h => f_X11_bonds F x y z w h) (fm := fun h => f_X12_bonds F (x + 48) y z w h) I ?_
  obtain ⟨h1, e1, f1⟩ := cc_bonds F (by omega) c.2.2 r.1 y z w
  rw [c.2.1] at e1
  refine ⟨_, h1, S, e1, I.1.k16 f1, so, fun ra => ?_⟩
  obtain ⟨h2, e2, ci, i1⟩ := rc_bonds F (by omega) ra.1.1 ra.2.1 y z w
  exact ⟨h2, e2, (ci.j []).ro (by decide) (by decide) (ra.c1 ci (by decide) i1)⟩
theorem S_attempt (hF : 70000 ≤ F) (I : INV h x ow hs T P S) (y z w : Int32) : ∃ v h1 h2 ow' hs' T' P' S', f_X11_attempt F x y z w h = some (v, h1) ∧ f_X12_attempt F (x + 48) y z w h1 = some (v, h2) ∧ INV h2 x ow' hs' T' P' S' ∧ RMm T P h T' P' h2 ∧ KPt x h ow h1 h2 ow' := by
  obtain ⟨⟨a, p, c, r⟩, -, so⟩ := id I
  refine STEP_mk (fc := fun h => f_X11_attempt F x y z w h) (fm := fun h => f_X12_attempt F (x + 48) y z w h) I ?_
  obtain ⟨h1, e1, f1⟩ := cc_attempt F (by omega) (by rw [c.2.1]; exact so.1) c.2.2 r.1 y z w
  rw [c.2.1] at e1
  refine ⟨_, h1, S, e1, I.1.k16 f1, so, fun ra => ?_⟩
  obtain ⟨h2, e2, ci, i1⟩ := rc_attempt F (by omega) so.1 ra.1.1 ra.2.1 y z w
  exact ⟨h2, e2, (ci.j []).ro (by decide) (by decide) (ra.c1 ci (by decide) i1)⟩
theorem S_soonest (hF : 70000 ≤ F) (I : INV h x ow hs T P S) (y z : Int32) : ∃ v h1 h2 ow' hs' T' P' S', f_X11_soonest F x y z h = some (v, h1) ∧ f_X12_soonest F (x + 48) y z h1 = some (v, h2) ∧ INV h2 x ow' hs' T' P' S' ∧ RMm T P h T' P' h2 ∧ KPt x h ow h1 h2 ow' := by
  obtain ⟨⟨a, p, c, r⟩, -, so⟩ := id I
  refine STEP_mk (fc := fun h => f_X11_soonest F x y z h) (fm := fun h => f_X12_soonest F (x + 48) y z h) I ?_
  obtain ⟨v, h1, e1, A1, rc⟩ := cc_soonest F hF c.1 y z
  refine ⟨v, h1, S, e1, CA.rc (by decide) c r rc, so, fun ra => ?_⟩
  obtain ⟨w', h2, e2, ci, A2⟩ := rc_soonest F hF ra.1.1 y z
  rw [c.2.1] at A1
  rw [A_soonest_u A1 A2]
  exact ⟨h2, e2, (ci.j []).ro (by decide) (by decide) (ra.cj (ci.j []) (by decide) (by decide))⟩
theorem S_way (hF : 70000 ≤ F) (I : INV h x ow hs T P S) (y z i : Int32) : ∃ v h1 h2 ow' hs' T' P' S', f_X11_way F x y z i h = some (v, h1) ∧ f_X12_way F (x + 48) y z i h1 = some (v, h2) ∧ INV h2 x ow' hs' T' P' S' ∧ RMm T P h T' P' h2 ∧ KPt x h ow h1 h2 ow' := by
  obtain ⟨⟨a, p, c, r⟩, -, so⟩ := id I
  refine STEP_mk (fc := fun h => f_X11_way F x y z i h) (fm := fun h => f_X12_way F (x + 48) y z i h) I ?_
  obtain ⟨v, h1, e1, A1, rc⟩ := cc_way F hF c.1 y z i
  refine ⟨v, h1, S, e1, CA.rc (by decide) c r rc, so, fun ra => ?_⟩
  obtain ⟨w', h2, e2, ci, A2⟩ := rc_way F hF ra.1.1 y z i
  rw [c.2.1] at A1
  rw [A_way_u A1 A2]
  exact ⟨h2, e2, (ci.j []).ro (by decide) (by decide) (ra.cj (ci.j []) (by decide) (by decide))⟩
theorem S_alone (hF : 70000 ≤ F) (I : INV h x ow hs T P S) (y z : Int32) : ∃ v h1 h2 ow' hs' T' P' S', f_X11_alone F x y z h = some (v, h1) ∧ f_X12_alone F (x + 48) y z h1 = some (v, h2) ∧ INV h2 x ow' hs' T' P' S' ∧ RMm T P h T' P' h2 ∧ KPt x h ow h1 h2 ow' := by
  obtain ⟨⟨a, p, c, r⟩, -, so⟩ := id I
  refine STEP_mk (fc := fun h => f_X11_alone F x y z h) (fm := fun h => f_X12_alone F (x + 48) y z h) I ?_
  obtain ⟨v, h1, e1, A1, rc⟩ := cc_alone F hF c.1 y z
  refine ⟨v, h1, S, e1, CA.rc (by decide) c r rc, so, fun ra => ?_⟩
  obtain ⟨w', h2, e2, ci, A2⟩ := rc_alone F hF ra.1.1 y z
  rw [c.2.1] at A1
  rw [A_alone_u A1 A2]
  exact ⟨h2, e2, (ci.j []).ro (by decide) (by decide) (ra.cj (ci.j []) (by decide) (by decide))⟩
theorem S_aloneWay (hF : 70000 ≤ F) (I : INV h x ow hs T P S) (y z i : Int32) : ∃ v h1 h2 ow' hs' T' P' S', f_X11_aloneWay F x y z i h = some (v, h1) ∧ f_X12_aloneWay F (x + 48) y z i h1 = some (v, h2) ∧ INV h2 x ow' hs' T' P' S' ∧ RMm T P h T' P' h2 ∧ KPt x h ow h1 h2 ow' := by
  obtain ⟨⟨a, p, c, r⟩, -, so⟩ := id I
  refine STEP_mk (fc := fun h => f_X11_aloneWay F x y z i h) (fm := fun h => f_X12_aloneWay F (x + 48) y z i h) I ?_
  obtain ⟨v, h1, e1, A1, rc⟩ := cc_aloneWay F hF c.1 y z i
  refine ⟨v, h1, S, e1, CA.rc (by decide) c r rc, so, fun ra => ?_⟩
  obtain ⟨w', h2, e2, ci, A2⟩ := rc_aloneWay F hF ra.1.1 y z i
  rw [c.2.1] at A1
  rw [A_aloneWay_u A1 A2]
  exact ⟨h2, e2, (ci.j []).ro (by decide) (by decide) (ra.cj (ci.j []) (by decide) (by decide))⟩
theorem S_needed (hF : 70000 ≤ F) (I : INV h x ow hs T P S) (y z : Int32) : ∃ v h1 h2 ow' hs' T' P' S', f_X11_needed F x y z h = some (v, h1) ∧ f_X12_needed F (x + 48) y z h1 = some (v, h2) ∧ INV h2 x ow' hs' T' P' S' ∧ RMm T P h T' P' h2 ∧ KPt x h ow h1 h2 ow' := by
  obtain ⟨⟨a, p, c, r⟩, -, so⟩ := id I
  refine STEP_mk (fc := fun h => f_X11_needed F x y z h) (fm := fun h => f_X12_needed F (x + 48) y z h) I ?_
  obtain ⟨v, h1, e1, A1, rc⟩ := cc_needed F hF c.1 y z
  refine ⟨v, h1, S, e1, CA.rc (by decide) c r rc, so, fun ra => ?_⟩
  obtain ⟨w', h2, e2, ci, A2⟩ := rc_needed F hF ra.1.1 y z
  rw [c.2.1] at A1
  rw [A_needed_u A1 A2]
  exact ⟨h2, e2, (ci.j []).ro (by decide) (by decide) (ra.cj (ci.j []) (by decide) (by decide))⟩
theorem S_tellings (hF : 70000 ≤ F) (I : INV h x ow hs T P S) (y z : Int32) : ∃ v h1 h2 ow' hs' T' P' S', f_X11_tellings F x y z h = some (v, h1) ∧ f_X12_tellings F (x + 48) y z h1 = some (v, h2) ∧ INV h2 x ow' hs' T' P' S' ∧ RMm T P h T' P' h2 ∧ KPt x h ow h1 h2 ow' := by
  obtain ⟨⟨a, p, c, r⟩, -, so⟩ := id I
  refine STEP_mk (fc := fun h => f_X11_tellings F x y z h) (fm := fun h => f_X12_tellings F (x + 48) y z h) I ?_
  obtain ⟨v, h1, e1, A1, rc⟩ := cc_tellings F hF c.1 y z
  refine ⟨v, h1, S, e1, CA.rc (by decide) c r rc, so, fun ra => ?_⟩
  obtain ⟨w', h2, e2, ci, A2⟩ := rc_tellings F hF ra.1.1 y z
  rw [c.2.1] at A1
  rw [A_tellings_u A1 A2]
  exact ⟨h2, e2, (ci.j []).ro (by decide) (by decide) (ra.cj (ci.j []) (by decide) (by decide))⟩
theorem S_can (hF : 70000 ≤ F) (I : INV h x ow hs T P S) (y : Int32) : ∃ v h1 h2 ow' hs' T' P' S', f_X11_can F x y h = some (v, h1) ∧ f_X12_can F (x + 48) y h1 = some (v, h2) ∧ INV h2 x ow' hs' T' P' S' ∧ RMm T P h T' P' h2 ∧ KPt x h ow h1 h2 ow' := by
  obtain ⟨⟨a, p, c, r⟩, -, so⟩ := id I
  refine STEP_mk (fc := fun h => f_X11_can F x y h) (fm := fun h => f_X12_can F (x + 48) y h) I ?_
  obtain ⟨v, h1, e1, A1, rc⟩ := cc_can F hF c.1 y
  refine ⟨v, h1, S, e1, CA.rc (by decide) c r rc, so, fun ra => ?_⟩
  obtain ⟨w', h2, e2, ci, A2⟩ := rc_can F hF ra.1.1 y
  rw [c.2.1] at A1
  rw [A_can_u A1 A2]
  exact ⟨h2, e2, (ci.j []).ro (by decide) (by decide) (ra.cj (ci.j []) (by decide) (by decide))⟩
theorem S_most (hF : 70000 ≤ F) (I : INV h x ow hs T P S) : ∃ v h1 h2 ow' hs' T' P' S', f_X11_most F x h = some (v, h1) ∧ f_X12_most F (x + 48) h1 = some (v, h2) ∧ INV h2 x ow' hs' T' P' S' ∧ RMm T P h T' P' h2 ∧ KPt x h ow h1 h2 ow' := by
  obtain ⟨⟨a, p, c, r⟩, -, so⟩ := id I
  refine STEP_mk (fc := fun h => f_X11_most F x h) (fm := fun h => f_X12_most F (x + 48) h) I ?_
  obtain ⟨v, h1, e1, A1, rc⟩ := cc_most F hF c.1
  refine ⟨v, h1, S, e1, CA.rc (by decide) c r rc, so, fun ra => ?_⟩
  obtain ⟨w', h2, e2, ci, A2⟩ := rc_most F hF ra.1.1
  rw [c.2.1] at A1
  rw [A_most_u A1 A2]
  exact ⟨h2, e2, (ci.j []).ro (by decide) (by decide) (ra.cj (ci.j []) (by decide) (by decide))⟩
theorem S_overhears (hF : 70000 ≤ F) (I : INV h x ow hs T P S) (y : Int32) : ∃ v h1 h2 ow' hs' T' P' S', f_X11_overhears F x y h = some (v, h1) ∧ f_X12_overhears F (x + 48) y h1 = some (v, h2) ∧ INV h2 x ow' hs' T' P' S' ∧ RMm T P h T' P' h2 ∧ KPt x h ow h1 h2 ow' := by
  obtain ⟨⟨a, p, c, r⟩, -, so⟩ := id I
  refine STEP_mk (fc := fun h => f_X11_overhears F x y h) (fm := fun h => f_X12_overhears F (x + 48) y h) I ?_
  obtain ⟨v, h1, e1, A1, rc⟩ := cc_overhears F hF c.1 y
  refine ⟨v, h1, S, e1, CA.rc (by decide) c r rc, so, fun ra => ?_⟩
  obtain ⟨w', h2, e2, ci, A2⟩ := rc_overhears F hF ra.1.1 y
  rw [c.2.1] at A1
  rw [A_over_u A1 A2]
  exact ⟨h2, e2, (ci.j []).ro (by decide) (by decide) (ra.cj (ci.j []) (by decide) (by decide))⟩
theorem S_forces (hF : 70000 ≤ F) (I : INV h x ow hs T P S) (y z : Int32) : ∃ v h1 h2 ow' hs' T' P' S', f_X11_forces F x y z h = some (v, h1) ∧ f_X12_forces F (x + 48) y z h1 = some (v, h2) ∧ INV h2 x ow' hs' T' P' S' ∧ RMm T P h T' P' h2 ∧ KPt x h ow h1 h2 ow' := by
  obtain ⟨⟨a, p, c, r⟩, -, so⟩ := id I
  refine STEP_mk (fc := fun h => f_X11_forces F x y z h) (fm := fun h => f_X12_forces F (x + 48) y z h) I ?_
  obtain ⟨v, h1, e1, A1, rc⟩ := cc_forces F hF c.1 y z
  refine ⟨v, h1, S, e1, CA.rc (by decide) c r rc, so, fun ra => ?_⟩
  obtain ⟨w', h2, e2, ci, A2⟩ := rc_forces F hF ra.1.1 y z
  rw [c.2.1] at A1
  rw [A_forces_u A1 A2]
  exact ⟨h2, e2, (ci.j []).ro (by decide) (by decide) (ra.cj (ci.j []) (by decide) (by decide))⟩
theorem S_best (hF : 70000 ≤ F) (I : INV h x ow hs T P S) (y z : Int32) : ∃ v h1 h2 ow' hs' T' P' S', f_X11_best F x y z h = some (v, h1) ∧ f_X12_best F (x + 48) y z h1 = some (v, h2) ∧ INV h2 x ow' hs' T' P' S' ∧ RMm T P h T' P' h2 ∧ KPt x h ow h1 h2 ow' := by
  obtain ⟨⟨a, p, c, r⟩, -, so⟩ := id I
  refine STEP_mk (fc := fun h => f_X11_best F x y z h) (fm := fun h => f_X12_best F (x + 48) y z h) I ?_
  obtain ⟨v, h1, e1, A1, rc⟩ := cc_best F hF c.1 y z
  refine ⟨v, h1, S, e1, CA.rc (by decide) c r rc, so, fun ra => ?_⟩
  obtain ⟨w', h2, e2, ci, A2⟩ := rc_best F hF ra.1.1 y z
  rw [c.2.1] at A1
  rw [A_best_u A1 A2]
  exact ⟨h2, e2, (ci.j []).ro (by decide) (by decide) (ra.cj (ci.j []) (by decide) (by decide))⟩
theorem S_whom (hF : 70000 ≤ F) (I : INV h x ow hs T P S) (y z w i : Int32) : ∃ v h1 h2 ow' hs' T' P' S', f_X11_whom F x y z w i h = some (v, h1) ∧ f_X12_whom F (x + 48) y z w i h1 = some (v, h2) ∧ INV h2 x ow' hs' T' P' S' ∧ RMm T P h T' P' h2 ∧ KPt x h ow h1 h2 ow' := by
  obtain ⟨⟨a, p, c, r⟩, -, so⟩ := id I
  refine STEP_mk (fc := fun h => f_X11_whom F x y z w i h) (fm := fun h => f_X12_whom F (x + 48) y z w i h) I ?_
  obtain ⟨v, h1, e1, A1, rc, -⟩ := cc_whom F hF c.1 r.1 y z w i
  refine ⟨v, h1, S, e1, CA.rc (by decide) c r rc, so, fun ra => ?_⟩
  obtain ⟨w', h2, e2, ci, A2⟩ := rc_whom F (by omega) ra.1.1 ra.2.1 y z w i
  rw [c.2.1] at A1
  rw [A_whom_u A1 A2]
  exact ⟨h2, e2, (ci.j []).ro (by decide) (by decide) (ra.cj (ci.j []) (by decide) (by decide))⟩
theorem S_surely (hF : 70000 ≤ F) (I : INV h x ow hs T P S) (y z w i : Int32) : ∃ v h1 h2 ow' hs' T' P' S', f_X11_surely F x y z w i h = some (v, h1) ∧ f_X12_surely F (x + 48) y z w i h1 = some (v, h2) ∧ INV h2 x ow' hs' T' P' S' ∧ RMm T P h T' P' h2 ∧ KPt x h ow h1 h2 ow' := by
  obtain ⟨⟨a, p, c, r⟩, -, so⟩ := id I
  refine STEP_mk (fc := fun h => f_X11_surely F x y z w i h) (fm := fun h => f_X12_surely F (x + 48) y z w i h) I ?_
  obtain ⟨v, h1, e1, A1, rc, -⟩ := cc_surely F hF c.1 r.1 y z w i
  refine ⟨v, h1, S, e1, CA.rc (by decide) c r rc, so, fun ra => ?_⟩
  obtain ⟨w', h2, e2, ci, A2⟩ := rc_surely F (by omega) ra.1.1 ra.2.1 y z w i
  rw [c.2.1] at A1
  rw [A_surely_u A1 A2]
  exact ⟨h2, e2, (ci.j []).ro (by decide) (by decide) (ra.cj (ci.j []) (by decide) (by decide))⟩
theorem S_rows (hF : 70000 ≤ F) (I : INV h x ow hs T P S) (y z w : Int32) : ∃ v h1 h2 ow' hs' T' P' S', f_X11_rows F x y z w h = some (v, h1) ∧ f_X12_rows F (x + 48) y z w h1 = some (v, h2) ∧ INV h2 x ow' hs' T' P' S' ∧ RMm T P h T' P' h2 ∧ KPt x h ow h1 h2 ow' := by
  obtain ⟨⟨a, p, c, r⟩, -, so⟩ := id I
  refine STEP_mk (fc := fun h => f_X11_rows F x y z w h) (fm := fun h => f_X12_rows F (x + 48) y z w h) I ?_
  obtain ⟨h1, e1, rc⟩ := cc_rows F hF c.1 y z w
  rw [c.2.1] at e1
  refine ⟨_, h1, S, e1, CA.rc (by decide) c r rc, so, fun ra => ?_⟩
  obtain ⟨h2, e2, ci⟩ := rc_rows F hF ra.1.1 y z w
  exact ⟨h2, e2, ci.ro (by decide) (by decide) (ra.cj ci (by decide) (by decide))⟩
theorem S_stands (hF : 70000 ≤ F) (I : INV h x ow hs T P S) : ∃ v h1 h2 ow' hs' T' P' S', f_X11_stands F x h = some (v, h1) ∧ f_X12_stands F (x + 48) h1 = some (v, h2) ∧ INV h2 x ow' hs' T' P' S' ∧ RMm T P h T' P' h2 ∧ KPt x h ow h1 h2 ow' := by
  obtain ⟨⟨a, p, c, r⟩, -, so⟩ := id I
  refine STEP_mk (fc := fun h => f_X11_stands F x h) (fm := fun h => f_X12_stands F (x + 48) h) I ?_
  obtain ⟨h1, e1, rc⟩ := cc_stands F hF c.1
  rw [c.2.1] at e1
  refine ⟨_, h1, S, e1, CA.rc (by decide) c r rc, so, fun ra => ?_⟩
  obtain ⟨h2, e2, ci⟩ := rc_stands F hF ra.1.1
  exact ⟨h2, e2, (ci.j []).ro (by decide) (by decide) (ra.cj (ci.j []) (by decide) (by decide))⟩
theorem S_chance (hF : 70000 ≤ F) (I : INV h x ow hs T P S) (y z w u : Int32) : ∃ v h1 h2 ow' hs' T' P' S', f_X11_chance F x y z w u h = some (v, h1) ∧ f_X12_chance F (x + 48) y z w u h1 = some (v, h2) ∧ INV h2 x ow' hs' T' P' S' ∧ RMm T P h T' P' h2 ∧ KPt x h ow h1 h2 ow' := by
  obtain ⟨⟨a, p, c, r⟩, -, so⟩ := id I
  refine STEP_mk (fc := fun h => f_X11_chance F x y z w u h) (fm := fun h => f_X12_chance F (x + 48) y z w u h) I ?_
  obtain ⟨h1, e1, rc⟩ := cc_chance F hF c.1 y z w u
  rw [c.2.1] at e1
  refine ⟨_, h1, S, e1, CA.rc (by decide) c r rc, so, fun ra => ?_⟩
  obtain ⟨h2, e2, ci⟩ := rc_chance F (by omega) ra.1.1 y z w u
  exact ⟨h2, e2, (ci.j []).ro (by decide) (by decide) (ra.cj (ci.j []) (by decide) (by decide))⟩
theorem S_likeliest (hF : 70000 ≤ F) (I : INV h x ow hs T P S) (y z : Int32) : ∃ v h1 h2 ow' hs' T' P' S', f_X11_likeliest F x y z h = some (v, h1) ∧ f_X12_likeliest F (x + 48) y z h1 = some (v, h2) ∧ INV h2 x ow' hs' T' P' S' ∧ RMm T P h T' P' h2 ∧ KPt x h ow h1 h2 ow' := by
  obtain ⟨⟨a, p, c, r⟩, -, so⟩ := id I
  refine STEP_mk (fc := fun h => f_X11_likeliest F x y z h) (fm := fun h => f_X12_likeliest F (x + 48) y z h) I ?_
  obtain ⟨h1, e1, rc⟩ := cc_likeliest F hF c.1 y z
  rw [c.2.1] at e1
  refine ⟨_, h1, S, e1, CA.rc (by decide) c r rc, so, fun ra => ?_⟩
  obtain ⟨h2, e2, ci⟩ := rc_likeliest F (by omega) ra.1.1 y z
  exact ⟨h2, e2, (ci.j []).ro (by decide) (by decide) (ra.cj (ci.j []) (by decide) (by decide))⟩
theorem S_told (hF : 70000 ≤ F) (I : INV h x ow hs T P S) (y z w : Int32) : ∃ v h1 h2 ow' hs' T' P' S', f_X11_told F x y z w h = some (v, h1) ∧ f_X12_told F (x + 48) y z w h1 = some (v, h2) ∧ INV h2 x ow' hs' T' P' S' ∧ RMm T P h T' P' h2 ∧ KPt x h ow h1 h2 ow' := by
  obtain ⟨⟨a, p, c, r⟩, -, so⟩ := id I
  refine STEP_mk (fc := fun h => f_X11_told F x y z w h) (fm := fun h => f_X12_told F (x + 48) y z w h) I ?_
  obtain ⟨h1, e1, rc, -⟩ := cc_told F hF c.1 r.1 y z w
  rw [c.2.1] at e1
  refine ⟨_, h1, S, e1, CA.rc (by decide) c r rc, so, fun ra => ?_⟩
  obtain ⟨h2, e2, ci⟩ := rc_told F (by omega) ra.1.1 ra.2.1 y z w
  exact ⟨h2, e2, (ci.j []).ro (by decide) (by decide) (ra.cj (ci.j []) (by decide) (by decide))⟩
theorem S_days (hF : 70000 ≤ F) (I : INV h x ow hs T P S) (y : Int32) : ∃ v h1 h2 ow' hs' T' P' S', f_X11_days F x y h = some (v, h1) ∧ f_X12_days F (x + 48) y h1 = some (v, h2) ∧ INV h2 x ow' hs' T' P' S' ∧ RMm T P h T' P' h2 ∧ KPt x h ow h1 h2 ow' := by
  obtain ⟨⟨a, p, c, r⟩, -, so⟩ := id I
  refine STEP_mk (fc := fun h => f_X11_days F x y h) (fm := fun h => f_X12_days F (x + 48) y h) I ?_
  obtain ⟨h1, e1, f1, o1⟩ := cc_days F (by omega) c.2.2 y
  have co := CPo.co c r f1 o1
  rw [c.2.1] at e1 co
  refine ⟨_, h1, _, e1, co, nSt_so so _, fun ra => ?_⟩
  obtain ⟨h2, e2, ci, o2, j1⟩ := rc_days F (by omega) ra.1 y
  exact ⟨h2, e2, RPo.ro ra ci j1 o2⟩
theorem S_forget (hF : 70000 ≤ F) (I : INV h x ow hs T P S) (y z : Int32) : ∃ v h1 h2 ow' hs' T' P' S', f_X11_forget F x y z h = some (v, h1) ∧ f_X12_forget F (x + 48) y z h1 = some (v, h2) ∧ INV h2 x ow' hs' T' P' S' ∧ RMm T P h T' P' h2 ∧ KPt x h ow h1 h2 ow' := by
  obtain ⟨⟨a, p, c, r⟩, -, so⟩ := id I
  refine STEP_mk (fc := fun h => f_X11_forget F x y z h) (fm := fun h => f_X12_forget F (x + 48) y z h) I ?_
  obtain ⟨h1, e1, f1, o1⟩ := cc_forget F c.2.2 y z
  have co := CPo.co c r f1 o1
  rw [c.2.1] at e1 co
  refine ⟨_, h1, _, e1, co, nSt_so so _, fun ra => ?_⟩
  obtain ⟨h2, e2, ci, o2, j1⟩ := rc_forget F (by omega) ra.1 y z
  exact ⟨h2, e2, RPo.ro ra ci j1 o2⟩
theorem S_bond (hF : 70000 ≤ F) (I : INV h x ow hs T P S) (y : Int32) : ∃ v h1 h2 ow' hs' T' P' S', f_X11_bond F x y h = some (v, h1) ∧ f_X12_bond F (x + 48) y h1 = some (v, h2) ∧ INV h2 x ow' hs' T' P' S' ∧ RMm T P h T' P' h2 ∧ KPt x h ow h1 h2 ow' := by
  obtain ⟨⟨a, p, c, r⟩, -, so⟩ := id I
  refine STEP_mk (fc := fun h => f_X11_bond F x y h) (fm := fun h => f_X12_bond F (x + 48) y h) I ?_
  obtain ⟨h1, e1, f1, o1⟩ := cc_bond F c.2.2 y
  have co := CPo.co c r f1 o1
  refine ⟨_, h1, _, e1, co, nSt_so so _, fun ra => ?_⟩
  obtain ⟨h2, e2, ci, o2, j1⟩ := rc_bond F (by omega) ra.1 y
  exact ⟨h2, e2, RPo.ro ra ci j1 o2⟩
theorem S_perform (hF : 70000 ≤ F) (I : INV h x ow hs T P S) (y : Int32) : ∃ v h1 h2 ow' hs' T' P' S', f_X11_perform F x y h = some (v, h1) ∧ f_X12_perform F (x + 48) y h1 = some (v, h2) ∧ INV h2 x ow' hs' T' P' S' ∧ RMm T P h T' P' h2 ∧ KPt x h ow h1 h2 ow' := by
  obtain ⟨⟨a, p, c, r⟩, -, so⟩ := id I
  refine STEP_mk (fc := fun h => f_X11_perform F x y h) (fm := fun h => f_X12_perform F (x + 48) y h) I ?_
  obtain ⟨h1, e1, f1, o1⟩ := cc_perform F (by omega) c.2.2 r.1 y
  have co := CPo.co c r f1 o1
  rw [c.2.1] at e1 co
  refine ⟨_, h1, _, e1, co, nSt_so so _, fun ra => ?_⟩
  obtain ⟨h2, e2, ci, o2, j1⟩ := rc_perform F (by omega) ra.1 ra.2.1 y
  exact ⟨h2, e2, RPo.ro ra ci j1 o2⟩
theorem S_year (hF : 70000 ≤ F) (I : INV h x ow hs T P S) (y z : Int32) : ∃ v h1 h2 ow' hs' T' P' S', f_X11_year F x y z h = some (v, h1) ∧ f_X12_year F (x + 48) y z h1 = some (v, h2) ∧ INV h2 x ow' hs' T' P' S' ∧ RMm T P h T' P' h2 ∧ KPt x h ow h1 h2 ow' := by
  obtain ⟨⟨a, p, c, r⟩, -, so⟩ := id I
  refine STEP_mk (fc := fun h => f_X11_year F x y z h) (fm := fun h => f_X12_year F (x + 48) y z h) I ?_
  obtain ⟨h1, e1, f1, o1⟩ := cc_year F (by omega) c.2.2 y z
  have co := CPo.co c r f1 o1
  rw [c.2.1] at e1 co
  refine ⟨_, h1, _, e1, co, nSt_so so _, fun ra => ?_⟩
  obtain ⟨h2, e2, ci, o2, j1⟩ := rc_year F (by omega) ra.1 y z
  exact ⟨h2, e2, RPo.ro ra ci j1 o2⟩
theorem S_tell (hF : 70000 ≤ F) (I : INV h x ow hs T P S) (y z : Int32) : ∃ v h1 h2 ow' hs' T' P' S', f_X11_tell F x y z h = some (v, h1) ∧ f_X12_tell F (x + 48) y z h1 = some (v, h2) ∧ INV h2 x ow' hs' T' P' S' ∧ RMm T P h T' P' h2 ∧ KPt x h ow h1 h2 ow' := by
  obtain ⟨⟨a, p, c, r⟩, -, so⟩ := id I
  refine STEP_mk (fc := fun h => f_X11_tell F x y z h) (fm := fun h => f_X12_tell F (x + 48) y z h) I ?_
  obtain ⟨h1, e1, f1, o1⟩ := cc_tell F c.2.2 y z
  have co := CPo.co c r f1 o1
  rw [c.2.1] at e1 co
  refine ⟨_, h1, _, e1, co, nSt_so so _, fun ra => ?_⟩
  obtain ⟨h2, e2, ci, o2, j1⟩ := rc_tell F (by omega) ra.1 y z
  refine ⟨h2, e2, RPo.ro ra ci j1 ?_⟩
  cases hq : (sp_tell S.1.1 S.1.2.1 S.1.2.2 y z).2 with
  | none => rw [hq] at o2; exact o2
  | some u => rw [hq] at o2; exact o2
theorem S_undo (hF : 70000 ≤ F) (I : INV h x ow hs T P S) (y : Int32) : ∃ v h1 h2 ow' hs' T' P' S', f_X11_undo F x y h = some (v, h1) ∧ f_X12_undo F (x + 48) y h1 = some (v, h2) ∧ INV h2 x ow' hs' T' P' S' ∧ RMm T P h T' P' h2 ∧ KPt x h ow h1 h2 ow' := by
  obtain ⟨⟨a, p, c, r⟩, -, so⟩ := id I
  refine STEP_mk (fc := fun h => f_X11_undo F x y h) (fm := fun h => f_X12_undo F (x + 48) y h) I ?_
  obtain ⟨h1, e1, f1, o1⟩ := cc_undo F c.2.2 y
  cases hq : sp_undo S.2.1.1 y with
  | none =>
    rw [hq] at e1 o1
    refine ⟨_, h1, _, e1, CA.deed c r f1 o1, so, fun ra => ?_⟩
    obtain ⟨h2, e2, ci, o2, j1⟩ := rc_undo F (by omega) ra.1 y
    rw [hq] at e2 o2
    exact ⟨h2, e2, ra.deed ci j1 o2⟩
  | some k =>
    rw [hq] at e1 o1
    refine ⟨_, h1, _, e1, CA.deed c r f1 o1, so, fun ra => ?_⟩
    obtain ⟨h2, e2, ci, o2, j1⟩ := rc_undo F (by omega) ra.1 y
    rw [hq] at e2 o2
    exact ⟨h2, e2, ra.deed ci j1 o2⟩
theorem S_feed (hF : 70000 ≤ F) (I : INV h x ow hs T P S) (y1 y2 y3 y4 y5 : Int32) : ∃ v h1 h2 ow' hs' T' P' S', f_X11_feed F x y1 y2 y3 y4 y5 h = some (v, h1) ∧ f_X12_feed F (x + 48) y1 y2 y3 y4 y5 h1 = some (v, h2) ∧ INV h2 x ow' hs' T' P' S' ∧ RMm T P h T' P' h2 ∧ KPt x h ow h1 h2 ow' := by
  obtain ⟨⟨a, p, c, r⟩, -, so⟩ := id I
  refine STEP_mk (fc := fun h => f_X11_feed F x y1 y2 y3 y4 y5 h) (fm := fun h => f_X12_feed F (x + 48) y1 y2 y3 y4 y5 h) I ?_
  obtain ⟨h1, e1, f1, t1⟩ := cc_feed F (by omega) c.1.2.1.1 r.2.1 y1 y2 y3 y4 y5
  have k := c.1.1
  have fo : FO [0, 1] ow h h1 := f1.fo k (by decide)
  have oe := OE.rf h ow
  have cp := c.2.2.fa f1 (by decide)
  refine ⟨_, h1, (S.1, S.2.1, S.2.2.1, (sp_feed S.2.2.2.1.1 S.2.2.2.1.2 y1 y2 y3 y4 y5).2, S.2.2.2.2), e1, ⟨ow, hs, T, P, _, ⟨a, p, ⟨c.1.re fo (by decide) cp.1, c.2.1, cp⟩, r.1.foA k fo (by decide), t1, CA.rest2 k fo oe (by decide) r.2.2⟩, oe, fo, by decide, RMm.sh f1.1⟩, so, fun ra => ?_⟩
  obtain ⟨h2, e2, sh, hL, hI, h13, rt⟩ := rc_feed F (by omega) ra.1.1.1 ra.2.2.1 y1 y2 y3 y4 y5
  refine ⟨h2, e2, ⟨?_, sh, fun y hy => ⟨hI y (by have := hy 0 (by decide); exact this) (hy 3 (by decide)), by rw [hL]⟩⟩⟩
  obtain ⟨⟨⟨s, r2, r3, r4, r5, r6⟩, pa, pk⟩, rt0, rtp, ri, g1, g2⟩ := ra
  have i1 : hp_I h2 (x + 48 + 1) = hp_I h1 (x + 48 + 1) := hI _ (by omega) (by omega)
  exact ⟨⟨⟨s.sh sh, r2, by rw [i1]; exact r3, by rw [i1]; exact r4, r5, r6⟩, by rw [i1]; exact pa, pk⟩, rt0.cg (hI _ (by omega) (by omega)) (hI _ (by omega) (by omega)) hL, rt, ri.cg (hI _ (by omega) (by omega)) (fun j _ => by rw [i1]), by rw [h13 13 (by decide)]; exact g1, by rw [h13 14 (by decide)]; exact g2⟩
theorem S_numbers (hF : 70000 ≤ F) (I : INV h x ow hs T P S) (y z w : Int32) : ∃ v h1 h2 ow' hs' T' P' S', f_X11_numbers F x y z w h = some (v, h1) ∧ f_X12_numbers F (x + 48) y z w h1 = some (v, h2) ∧ INV h2 x ow' hs' T' P' S' ∧ RMm T P h T' P' h2 ∧ KPt x h ow h1 h2 ow' := by
  obtain ⟨⟨a, p, c, r⟩, -, so⟩ := id I
  refine STEP_mk (fc := fun h => f_X11_numbers F x y z w h) (fm := fun h => f_X12_numbers F (x + 48) y z w h) I ?_
  obtain ⟨h1, e1, f1, t1⟩ := cc_numbers F (by omega) c.1.2.1.1 r.1 y z w
  have k := c.1.1
  have fo : FO trks ow h h1 := f1.fo k (by decide)
  have oe := OE.rf h ow
  have cp := c.2.2.fa f1 (by decide)
  refine ⟨_, h1, (S.1, S.2.1, trL S.2.2.1 (sp_numbers y z w).2, S.2.2.2), e1, ⟨ow, hs, T, P, _, ⟨a, p, ⟨c.1.re fo (by decide) cp.1, c.2.1, cp⟩, t1, r.2.1.fo k fo (by decide), CA.rest2 k fo oe (by decide) r.2.2⟩, oe, fo, by decide, RMm.sh f1.1⟩, so, fun ra => ?_⟩
  obtain ⟨h2, e2, cj, rt⟩ := rc_numbers F (by omega) ra.1.1.1 ra.2.1 y z w
  refine ⟨h2, e2, cj.ro (by decide) (by decide) ?_⟩
  obtain ⟨⟨⟨s, r2, r3, r4, r5, r6⟩, pa, pk⟩, rt0, rtp, ri, g1, g2⟩ := ra
  have i1 := cj.at (k := 1) (by decide)
  refine ⟨⟨⟨s.sh cj.1, r2, by rw [i1]; exact r3, by rw [i1]; exact r4, r5, r6⟩, by rw [i1]; exact pa, pk⟩, rt, ?_, ri.cg (cj.at (by decide)) (fun j _ => by rw [i1]), by rw [cj.2.1 13 (by decide)]; exact g1, by rw [cj.2.1 14 (by decide)]; exact g2⟩
  unfold RTp
  rw [cj.2.1 5 (by decide), cj.at (by decide)]
  exact rtp
theorem S_write (hF : 70000 ≤ F) (I : INV h x ow hs T P S) (y z : Int32) (lv : Int64) : ∃ v h1 h2 ow' hs' T' P' S', f_X11_write F x y z lv h = some (v, h1) ∧ f_X12_write F (x + 48) y z lv h1 = some (v, h2) ∧ INV h2 x ow' hs' T' P' S' ∧ RMm T P h T' P' h2 ∧ KPt x h ow h1 h2 ow' := by
  obtain ⟨⟨a, p, c, r⟩, -, so⟩ := id I
  refine STEP_mk (fc := fun h => f_X11_write F x y z lv h) (fm := fun h => f_X12_write F (x + 48) y z lv h) I ?_
  obtain ⟨h1, e1, f1, t1⟩ := cc_write F c.1.2.1.1 r.1 y z lv
  have k := c.1.1
  have fo : FO trks ow h h1 := f1.fo k (by decide)
  have oe := OE.rf h ow
  have cp := c.2.2.fa f1 (by decide)
  refine ⟨_, h1, (S.1, S.2.1, trW S.2.2.1 (sp_write S.2.2.1 y z lv).2, S.2.2.2), e1, ⟨ow, hs, T, P, _, ⟨a, p, ⟨c.1.re fo (by decide) cp.1, c.2.1, cp⟩, t1, r.2.1.fo k fo (by decide), CA.rest2 k fo oe (by decide) r.2.2⟩, oe, fo, by decide, RMm.sh f1.1⟩, so, fun ra => ?_⟩
  obtain ⟨h2, e2, cj, rt⟩ := rc_write F (by omega) ra.1.1.1 ra.2.1 y z lv
  refine ⟨h2, e2, cj.ro (by decide) (by decide) ?_⟩
  obtain ⟨⟨⟨s, r2, r3, r4, r5, r6⟩, pa, pk⟩, rt0, rtp, ri, g1, g2⟩ := ra
  have i1 := cj.at (k := 1) (by decide)
  refine ⟨⟨⟨s.sh cj.1, r2, by rw [i1]; exact r3, by rw [i1]; exact r4, r5, r6⟩, by rw [i1]; exact pa, pk⟩, rt, ?_, ri.cg (cj.at (by decide)) (fun j _ => by rw [i1]), by rw [cj.2.1 13 (by decide)]; exact g1, by rw [cj.2.1 14 (by decide)]; exact g2⟩
  unfold RTp
  rw [cj.2.1 5 (by decide), cj.at (by decide)]
  exact rtp
theorem S_lists (hF : 70000 ≤ F) (I : INV h x ow hs T P S) (y z w : Int32) : ∃ v h1 h2 ow' hs' T' P' S', f_X11_lists F x y z w h = some (v, h1) ∧ f_X12_lists F (x + 48) y z w h1 = some (v, h2) ∧ INV h2 x ow' hs' T' P' S' ∧ RMm T P h T' P' h2 ∧ KPt x h ow h1 h2 ow' := by
  obtain ⟨⟨a, p, c, r⟩, -, so⟩ := id I
  refine STEP_mk (fc := fun h => f_X11_lists F x y z w h) (fm := fun h => f_X12_lists F (x + 48) y z w h) I ?_
  obtain ⟨v, h1, tr', e1, t1, A1, ow', T', cv, oe, fo, bu⟩ := cc_lists F hF c.1 r.1 y z w
  have k := c.1.1
  rw [c.2.1] at A1
  refine ⟨v, h1, (S.1, S.2.1, tr', S.2.2.2), e1, ⟨ow', hs, T', P, _, ⟨a, p, ⟨cv, c.2.1, cv.2.1, c.2.2.2.1.fo k fo (by decide), c.2.2.2.2⟩, t1, r.2.1.fo k fo (by decide), CA.rest2 k fo oe (by decide) r.2.2⟩, oe, fo, by decide, bu.rm⟩, so, fun ra => ?_⟩
  obtain ⟨w', h2, tr2, e2, cj, rt, A2⟩ := rc_lists F hF ra.1.1 ra.2.1 y z w
  obtain ⟨u1, u2⟩ := A_lists_u A1 A2
  subst u2
  rw [u1]
  refine ⟨h2, e2, cj.ro (by decide) (by decide) ?_⟩
  obtain ⟨⟨⟨s, r2, r3, r4, r5, r6⟩, pa, pk⟩, rt0, rtp, ri, g1, g2⟩ := ra
  have i1 := cj.at (k := 1) (by decide)
  refine ⟨⟨⟨s.sh cj.1, r2, by rw [i1]; exact r3, by rw [i1]; exact r4, r5, r6⟩, by rw [i1]; exact pa, pk⟩, rt, ?_, ri.cg (cj.at (by decide)) (fun j _ => by rw [i1]), by rw [cj.2.1 13 (by decide)]; exact g1, by rw [cj.2.1 14 (by decide)]; exact g2⟩
  unfold RTp
  rw [cj.2.1 5 (by decide), cj.at (by decide)]
  exact rtp
end calls
