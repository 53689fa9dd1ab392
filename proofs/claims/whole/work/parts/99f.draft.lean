/-! L3, the two readers: the draft of a house beside the walk -/
/-- lines, facts, doings, kinds, needs, buts, the first stand, the first bond, both laws (where from, codes) -/
abbrev DR : Type := (Nat × Nat × Nat) × (Nat → Nat) × (Nat → Nat → Nat) × (Nat → Nat) × (Nat × Nat) × (Nat × List Nat) × (Nat × List Nat)
def CD (h : Hp) (x a : Nat) (D : DR) : Prop := (hp_I h a 2 = nI D.1.1 ∧ hp_I h a 0 = nI D.1.2.1 ∧ hp_I h a 1 = nI D.1.2.2) ∧ (∀ i, i < 4 → hp_I h (a + 1) i = nI (D.2.1 i)) ∧ (∀ d f, d < 6 → f < 4 → hp_I h (a + 2) (4 * d + f) = nI (D.2.2.1 d f)) ∧ (∀ d, d < 6 → hp_I h (a + 3) d = nI (D.2.2.2.1 d)) ∧ (hp_I h a 4 = nI (cs D.2.2.2.2.1.1) ∧ hp_I h a 3 = nI D.2.2.2.2.1.2) ∧ (hp_I h (x + 11) 2 = nI D.2.2.2.2.2.1.1 ∧ hp_I h (x + 11) 3 = nI (D.2.2.2.2.2.1.1 + D.2.2.2.2.2.1.2.length)) ∧ hp_I h (x + 11) 4 = nI D.2.2.2.2.2.2.1 ∧ hp_I h (x + 11) 5 = nI (D.2.2.2.2.2.2.1 + D.2.2.2.2.2.2.2.length)
/-- a law in the reference's block -/
def MLw (A : Nat → Int32) (law : Nat) (q : Nat × List Nat) : Prop := (q.2 = [] → A (3 + law) = 0) ∧ (q.2 ≠ [] → A (3 + law) = 1 ∧ A (5 + law) = nI q.1 ∧ A (7 + law) = nI q.2.length)
def MD (A : Nat → Int32) (D : DR) : Prop := (A 0 = nI D.1.1 ∧ A 1 = nI D.1.2.1 ∧ A 2 = nI D.1.2.2) ∧ (∀ i, i < 4 → A (9 + i) = nI (D.2.1 i)) ∧ (∀ d f, d < 6 → f < 4 → A (13 + 4 * d + f) = nI (D.2.2.1 d f)) ∧ (∀ d, d < 6 → A (37 + d) = nI (D.2.2.2.1 d)) ∧ ((∀ k, k < 8 → A (43 + k) = nI (dg D.2.2.2.2.1.1 k)) ∧ A 51 = nI D.2.2.2.2.1.2 ∧ A 52 = 0) ∧ MLw A 0 D.2.2.2.2.2.1 ∧ MLw A 1 D.2.2.2.2.2.2
/-- a law of a draft is a piece of the codes -/
def LPc (may : Nat) (ls : List Nat) (q : Nat × List Nat) : Prop := LK may q.2 ∧ q.1 + q.2.length ≤ ls.length ∧ ∀ j, j < q.2.length → ls.getD (q.1 + j) 0 = q.2.getD j 0
def Dok (ls : List Nat) (D : DR) : Prop := (D.1.2.1 ≤ 4 ∧ D.1.2.2 ≤ 6) ∧ (∀ i, i < 4 → D.2.1 i < 10) ∧ (∀ d f, d < 6 → f < 4 → D.2.2.1 d f < 4) ∧ (∀ d, d < 6 → D.2.2.2.1 d < 16) ∧ ((D.2.2.2.2.1.1 < 65536 ∧ ∀ t f, t < 2 → f < 4 → D.1.2.1 ≤ f → dg D.2.2.2.2.1.1 (4 * t + f) = 0) ∧ D.2.2.2.2.1.2 < 10) ∧ LPc 0 ls D.2.2.2.2.2.1 ∧ LPc 1 ls D.2.2.2.2.2.2
def FDc (x a : Nat) (h0 h : Hp) : Prop := SH h0 h ∧ ∀ y, (∀ k ∈ [9, 11, 12], y ≠ x + k) → (∀ k, k < 4 → y ≠ a + k) → hp_I h y = hp_I h0 y ∧ hp_L h y = hp_L h0 y
theorem FDc.rf (x a : Nat) (h : Hp) : FDc x a h h := ⟨SH.rf h, fun _ _ _ => ⟨rfl, rfl⟩⟩
theorem FDc.tr {x a : Nat} {h h1 h2 : Hp} (p : FDc x a h h1) (q : FDc x a h1 h2) : FDc x a h h2 := ⟨p.1.tr q.1, fun y u v => ⟨(q.2 y u v).1.trans (p.2 y u v).1, (q.2 y u v).2.trans (p.2 y u v).2⟩⟩
theorem FZc.fdc {x a : Nat} {h h' : Hp} (f : FZc x h h') : FDc x a h h' := ⟨f.1.1, fun y u _ => f.1.2 y u⟩
/-- the class, its draft at a -/
def DX (x n : Nat) (tp : Nat → Nat) (a : Nat) (h0 h : Hp) (σ : PS) : Prop := CC x n tp h h σ ∧ (HSh h a ∧ apt x a ∧ hp_R h (x + 9) 8 = some a) ∧ FDc x a h0 h
def DJ (x n : Nat) (tp : Nat → Nat) (a : Nat) (h0 h : Hp) (σ : PS) (D : DR) : Prop := DX x n tp a h0 h σ ∧ ∀ A ls, σ = .inl (A, ls) → CD h x a D
def FRm (m : Nat) (g0 g : Hp) : Prop := SH g0 g ∧ hp_L g = hp_L g0 ∧ (∀ y, y ≠ m → y ≠ m + 4 → hp_I g y = hp_I g0 y) ∧ ∀ k, k ∉ [6, 7, 9, 10, 11, 12, 15] → hp_I g m k = hp_I g0 m k
theorem FRm.rf (m : Nat) (h : Hp) : FRm m h h := ⟨SH.rf h, rfl, fun _ _ _ => rfl, fun _ _ => rfl⟩
theorem FRm.tr {m : Nat} {h h1 h2 : Hp} (a : FRm m h h1) (b : FRm m h1 h2) : FRm m h h2 := ⟨a.1.tr b.1, b.2.1.trans a.2.1, fun y u v => (b.2.2.1 y u v).trans (a.2.2.1 y u v), fun k hk => (b.2.2.2 k hk).trans (a.2.2.2 k hk)⟩
theorem FZr.frm {m : Nat} {h h' : Hp} (f : FZr m h h') : FRm m h h' := ⟨f.1, f.2.1, f.2.2.1, fun k hk => f.2.2.2.1 k (fun z => hk (by
  have : ∀ k ∈ [6, 7, 9, 10, 11, 12], k ∈ [6, 7, 9, 10, 11, 12, 15] := by decide
  exact this k z))⟩
/-- the reference -/
def EXr (m n : Nat) (tp : Nat → Nat) (g0 g : Hp) (σ : PS) : Prop := MM m n tp g g σ ∧ FRm m g0 g
def EJ (m n : Nat) (tp : Nat → Nat) (g0 g : Hp) (σ : PS) (D : DR) : Prop := EXr m n tp g0 g σ ∧ ∀ A ls, σ = .inl (A, ls) → MD (hp_I g (m + 4)) D
section moves
variable {x m n a : Nat} {tp : Nat → Nat} {h0 h g0 g : Hp} {σ : PS}
theorem CC.rb (c : CC x n tp h0 h σ) : CC x n tp h h σ := ⟨c.1, c.2.1, FZc.rf _ _, c.2.2.2⟩
theorem MM.rb (c : MM m n tp g0 g σ) : MM m n tp g g σ := ⟨c.1, FZr.rf _ _, c.2.2⟩
theorem DX.st (c : DX x n tp a h0 h σ) {h1 : Hp} {σ1 : PS} (c1 : CC x n tp h h1 σ1) : DX x n tp a h0 h1 σ1 ∧ (∀ k, k < 6 → hp_I h1 (a + k) = hp_I h (a + k)) ∧ (∀ k, k ≠ 1 → hp_I h1 (x + 11) k = hp_I h (x + 11) k) ∧ hp_I h1 (x + 9) 10 = hp_I h (x + 9) 10 := by
  obtain ⟨c2, ⟨s, ap, r⟩, f⟩ := c
  have z := c1.2.2.1
  refine ⟨⟨c1.rb, ⟨s.sh z.1.1, ap, by rw [z.1.1.2.2.1]; exact r⟩, f.tr z.fdc⟩, fun k hk => ?_, z.2.2, z.2.1 10 (by decide)⟩
  refine (z.1.2 (a + k) (fun j hj => ?_)).1
  have : j = 9 ∨ j = 11 ∨ j = 12 := by simpa using hj
  rcases this with rfl | rfl | rfl
  · exact ap k 9 hk (by decide) (by decide)
  · exact ap k 11 hk (by decide) (by decide)
  · exact ap k 12 hk (by decide) (by decide)
theorem CC.re (c : CC x n tp h0 h σ) {h' : Hp} (s : SH h h') (e9 : ∀ k ∈ [0, 1, 3, 4, 5, 6, 7], hp_I h' (x + 9) k = hp_I h (x + 9) k) (e11 : hp_I h' (x + 11) 1 = hp_I h (x + 11) 1) (e12 : hp_I h' (x + 12) = hp_I h (x + 12)) (e1 : hp_I h' (x + 1) = hp_I h (x + 1)) (ks : KS h') : CC x n tp h' h' σ := by
  obtain ⟨c1, ⟨⟨r1, r2⟩, ⟨r3, r4⟩, ⟨r5, r6⟩, r7, -⟩, -, c4⟩ := c
  refine ⟨c1.sh s, ⟨⟨by rw [s.1]; exact r1, by rw [s.2.2.1]; exact r2⟩, ⟨by rw [s.1]; exact r3, by rw [s.2.1]; exact r4⟩, ⟨by rw [e9 3 (by decide)]; exact r5, r6⟩, by rw [e1]; exact r7, ks⟩, FZc.rf _ _, ?_⟩
  match σ, c4 with
  | .inl (A, ls), ⟨⟨a1, a2, a3, a4, a5, a5'⟩, a6, a7⟩ =>
    refine ⟨⟨?_, ?_, ?_, ?_, fun z => ?_, ?_⟩, ?_, ?_⟩
    · rw [e9 0 (by decide)]; exact a1
    · rw [e9 4 (by decide)]; exact a2
    · rw [e9 5 (by decide)]; exact a3
    · rw [e9 6 (by decide)]; exact a4
    · rw [e9 7 (by decide)]; exact a5 z
    · rw [e9 1 (by decide)]; exact a5'
    · rw [e11]; exact a6
    · rw [e12]; exact a7
  | .inr (k, p, b), ⟨a1, a2, a3, c', a4, a5⟩ =>
    refine ⟨?_, ?_, ?_, c', a4, ?_⟩
    · rw [e9 0 (by decide)]; exact a1
    · rw [e9 1 (by decide)]; exact a2
    · rw [e9 6 (by decide)]; exact a3
    · rw [e11]; exact a5
/-- the draft is written -/
theorem DX.w (c : DX x n tp a h0 h σ) {k : Nat} (hk : k < 4) (j : Nat) (v : Int32) : DX x n tp a h0 (hp_sI h (a + k) j v) σ := by
  obtain ⟨c1, ⟨s, ap, r⟩, f⟩ := c
  have tk : hp_t h (a + k) ≠ 14 ∧ hp_t h (a + k) ≠ 27 := by
    rcases (show k = 0 ∨ 0 < k by omega) with rfl | z
    · rw [Nat.add_zero, s.1]; decide
    · rw [(s.2 k z (by omega)).2.1]; decide
  have fq : FQ (a + k) h (hp_sI h (a + k) j v) := FQ.sI
  have ne : ∀ i, i < 48 → ct i ≠ 0 → hp_I (hp_sI h (a + k) j v) (x + i) = hp_I h (x + i) := fun i h1 h2 => sI_ne _ _ _ (Ne.symm (ap k i (by omega) h1 h2))
  refine ⟨c1.re (SH.rf h) (fun i _ => by rw [ne 9 (by decide) (by decide)]) (by rw [ne 11 (by decide) (by decide)]) (ne 12 (by decide) (by decide)) (ne 1 (by decide) (by decide)) (c1.2.1.2.2.2.2.fq fq tk), ⟨s.sh (SH.rf h), ap, r⟩, f.tr ⟨SH.rf h, fun y _ u => ⟨sI_ne _ _ _ (u k hk), rfl⟩⟩⟩
theorem DX.w0 (c : DX x n tp a h0 h σ) (j : Nat) (v : Int32) : DX x n tp a h0 (hp_sI h a j v) σ := c.w (k := 0) (by decide) j v
/-- the laws' places are written -/
theorem DX.w11 (c : DX x n tp a h0 h σ) {j : Nat} (hj : j ≠ 1) (v : Int32) : DX x n tp a h0 (hp_sI h (x + 11) j v) σ := by
  obtain ⟨c1, ⟨s, ap, r⟩, f⟩ := c
  have fq : FQ (x + 11) h (hp_sI h (x + 11) j v) := FQ.sI
  refine ⟨c1.re (SH.rf h) (fun i _ => by rw [sI_ne _ _ _ (by omega)]) (by rw [sI_at, if_neg (Ne.symm hj)]) (sI_ne _ _ _ (by omega)) (sI_ne _ _ _ (by omega)) (c1.2.1.2.2.2.2.fq fq (by rw [c1.1.t 11 4 (by decide)]; decide)), ⟨s.sh (SH.rf h), ap, r⟩, f.tr ⟨SH.rf h, fun y u _ => ⟨sI_ne _ _ _ (u 11 (by decide)), rfl⟩⟩⟩
theorem DX.w10 (c : DX x n tp a h0 h σ) (v : Int32) : DX x n tp a h0 (hp_sI h (x + 9) 10 v) σ := by
  obtain ⟨c1, ⟨s, ap, r⟩, f⟩ := c
  have fq : FQ (x + 9) h (hp_sI h (x + 9) 10 v) := FQ.sI
  refine ⟨c1.re (SH.rf h) (fun i hi => by rw [sI_at, if_neg (fun e => by rw [e] at hi; exact absurd hi (by decide))]) (by rw [sI_ne _ _ _ (by omega)]) (sI_ne _ _ _ (by omega)) (sI_ne _ _ _ (by omega)) (c1.2.1.2.2.2.2.fq fq (by rw [c1.tg]; decide)), ⟨s.sh (SH.rf h), ap, r⟩, f.tr ⟨SH.rf h, fun y u _ => ⟨sI_ne _ _ _ (u 9 (by decide)), rfl⟩⟩⟩
theorem DX.tg (c : DX x n tp a h0 h σ) : hp_t h (x + 9) = 6 := c.1.tg
theorem DX.ta (c : DX x n tp a h0 h σ) : hp_t h a = 3 := c.2.1.1.1
theorem DX.g8 {α : Type} (c : DX x n tp a h0 h σ) (K : Nat → Option α) : gR 6 h (x + 9) 8 K = K a := gR_n c.tg c.2.1.2.2 K
/-! the reference -/
theorem EXr.st (c : EXr m n tp g0 g σ) {g1 : Hp} {σ1 : PS} (c1 : MM m n tp g g1 σ1) : EXr m n tp g0 g1 σ1 ∧ (∀ k, k < 143 → hp_I g1 (m + 4) k = hp_I g (m + 4) k) ∧ (hp_I g m 11 ≠ 0 → hp_I g1 m 11 ≠ 0) ∧ hp_I g1 m 15 = hp_I g m 15 :=
  ⟨⟨c1.rb, c.2.tr c1.2.1.frm⟩, c1.2.1.2.2.2.2.1, c1.2.1.2.2.2.2.2, c1.2.1.2.2.2.1 15 (by decide)⟩
theorem MM.re (c : MM m n tp g0 g σ) {g' : Hp} (s : SH g g') (e0 : ∀ k ∈ [6, 7, 8, 9, 10, 11, 12], hp_I g' m k = hp_I g m k) (e4 : ∀ k, 143 ≤ k → hp_I g' (m + 4) k = hp_I g (m + 4) k) (e3 : hp_I g' (m + 3) = hp_I g (m + 3)) (ks : KS g') : MM m n tp g' g' σ := by
  obtain ⟨⟨r1, ⟨r2, r3⟩, r4, -⟩, -, c4⟩ := c
  have tk : ∀ A, TKr g m n A tp → TKr g' m n A tp := fun A ⟨b1, b2, b3, b4⟩ => ⟨by rw [e0 6 (by decide)]; exact b1, by rw [e0 7 (by decide)]; exact b2, by rw [e0 9 (by decide)]; exact b3, fun z => by rw [e0 10 (by decide)]; exact b4 z⟩
  refine ⟨⟨r1.sh s, ⟨by rw [e0 8 (by decide)]; exact r2, r3⟩, by rw [e3]; exact r4, ks⟩, FZr.rf _ _, ?_⟩
  match σ, c4 with
  | .inl (A, ls), ⟨b, b11, b6, b7⟩ =>
    exact ⟨tk A b, by rw [e0 11 (by decide)]; exact b11, by rw [e4 143 (by decide)]; exact b6, fun i hi => by rw [e4 _ (by omega)]; exact b7 i hi⟩
  | .inr (k, p, b), c4 =>
    rcases c4 with ⟨a1, a2⟩ | ⟨a1, a2, a3, a4, c', a5, a6⟩
    · exact Or.inl ⟨by rw [e0 11 (by decide)]; exact a1, by rw [e0 12 (by decide)]; exact a2⟩
    · exact Or.inr ⟨by rw [e0 11 (by decide)]; exact a1, a2, a3, tk p a4, c', a5, by rw [e4 143 (by decide)]; exact a6⟩
theorem EXr.w (c : EXr m n tp g0 g σ) {j : Nat} (hj : j < 143) (v : Int32) : EXr m n tp g0 (hp_sI g (m + 4) j v) σ := by
  have fq : FQ (m + 4) g (hp_sI g (m + 4) j v) := FQ.sI
  refine ⟨c.1.re (SH.rf g) (fun k _ => by rw [sI_ne _ _ _ (by omega)]) (fun k hk => by rw [sI_at, if_neg (by omega)]) (sI_ne _ _ _ (by omega)) (c.1.1.2.2.2.fq fq (by rw [(c.1.1.1.2 4 (by decide) (by decide)).2.1]; decide)), c.2.tr ⟨SH.rf g, rfl, fun y _ u => sI_ne _ _ _ u, fun k _ => by rw [sI_ne _ _ _ (by omega)]⟩⟩
theorem EXr.w15 (c : EXr m n tp g0 g σ) (v : Int32) : EXr m n tp g0 (hp_sI g m 15 v) σ := by
  have fq : FQ m g (hp_sI g m 15 v) := FQ.sI
  refine ⟨c.1.re (SH.rf g) (fun k hk => by rw [sI_at, if_neg (fun e => by rw [e] at hk; exact absurd hk (by decide))]) (fun k hk => by rw [sI_ne _ _ _ (by omega)]) (sI_ne _ _ _ (by omega)) (c.1.1.2.2.2.fq fq (by rw [c.1.tg]; decide)), c.2.tr ⟨SH.rf g, rfl, fun y u _ => sI_ne _ _ _ u, fun k hk => by rw [sI_at, if_neg (fun e => hk (by rw [e]; decide))]⟩⟩
theorem EXr.tg (c : EXr m n tp g0 g σ) : hp_t g m = 13 := c.1.tg
theorem EXr.S (c : EXr m n tp g0 g σ) : SR g m := c.1.1.1
/-- an entry of the draft is read, written -/
theorem EXr.rd {α : Type} (c : EXr m n tp g0 g σ) (j : Nat) {i : Int32} (hi : i = nI j) (hj : j < 1044) (K : Int32 → Option α) : (gR 13 g m 4 fun v => aI 20 g v i K) = K (hp_I g (m + 4) j) := by
  rw [c.S.g 4 4 (by decide) rfl, c.S.a 4 j hi (by decide) hj]
theorem EXr.pt {α : Type} (c : EXr m n tp g0 g σ) (j : Nat) {i v : Int32} (hi : i = nI j) (hj : j < 1044) (K : Hp → Option α) : (gR 13 g m 4 fun q => wI g q i v K) = K (hp_sI g (m + 4) j v) := by
  rw [c.S.g 4 4 (by decide) rfl, c.S.w 4 j hi (by decide) hj]
end moves
section nums
variable {F m n : Nat} {tp : Nat → Nat}
/-- a number in the reference: where no fault is yet, it is in its limits -/
theorem M_num2 (F : Nat) (hF : 2000 ≤ F) {g0 g : Hp} {lo hi : Int32} {σ : PS} (c : MM m n tp g0 g σ) (pk : Pok n tp σ) : ∃ g' w, f_X12_takes F m lo hi g = some (w, g') ∧ MM m n tp g0 g' (tkm tp n lo hi σ) ∧ (hp_I g' m 11 = 0 → w = nI (vkm tp n lo hi σ) ∧ inl' lo hi (vkm tp n lo hi σ)) := by
  have bad : ∀ k, (0 < k ∧ k < 5) → ∃ g' w, (cV 13 g m (f_X12_fails F m (nI k) g) fun _ h5 => f_X12_takes_37 F m h5) = some (w, g') ∧ MM m n tp g0 g' (flt k σ) ∧ hp_I g' m 11 ≠ 0 := fun k hk => by
    obtain ⟨g', e, c', ne⟩ := M_failk F k hk c pk
    refine ⟨g', hp_I g' m 10, ?_, c', ne⟩
    rw [cV_n c.tg e]
    unfold f_X12_takes_37
    rw [gI_n c'.tg, gI_n c'.tg, if_neg ne]
  unfold f_X12_takes
  rw [cV_n c.tg (show f_X12_is F m 23 g = _ from M_is F (K := 23) (by decide) c pk)]
  match σ with
  | .inr b =>
    obtain ⟨g', w, e, c', ne⟩ := bad 2 (by decide)
    rw [if_neg (show ¬ kin tp n (.inr b) = 23 from (by decide : ¬ 25 = 23)), if_pos rfl]
    exact ⟨g', w, e, c', fun y => absurd y ne⟩
  | .inl (A, ls) =>
    show ∃ g' w, _ ∧ MM m n tp g0 g' (if tK tp n A = 23 then @ite PS (inl' lo hi (tN tp n A)) (Classical.propDecidable _) (nx tp n A ls) (.inr (3, A, ls.length)) else .inr (2, A, ls.length)) ∧ (_ → w = nI (if tK tp n A = 23 then @ite Nat (inl' lo hi (tN tp n A)) (Classical.propDecidable _) (tN tp n A) 0 else 0) ∧ inl' lo hi (if tK tp n A = 23 then @ite Nat (inl' lo hi (tN tp n A)) (Classical.propDecidable _) (tN tp n A) 0 else 0))
    by_cases z : tK tp n A = 23
    · have lt := tN_lt z (fun j hj => (c.1.2.2.1 j hj).2)
      have e10 := c.2.2.1.2.2.2 z
      have ti : (nI (tN tp n A)).toInt = (tN tp n A : Int) := nI_toInt (by omega)
      rw [if_pos (show kin tp n (.inl (A, ls)) = 23 from z), if_neg (show ¬ (1 : Int32) = 0 by decide), if_pos z, if_pos z, gI_n c.tg, e10, bd_n (rc_wi F _ _ _ g), i64_toInt, i64_toInt, i64_toInt, ti]
      by_cases y : inl' lo hi (tN tp n A)
      · obtain ⟨g', e, c'⟩ := M_adv F hF c pk
        rw [show b1 (lo.toInt ≤ (tN tp n A : Int) ∧ (tN tp n A : Int) ≤ hi.toInt) = 1 from if_pos y, if_neg (show ¬ nI 1 = 0 by decide), if_pos y, if_pos y]
        unfold f_X12_takes_37
        rw [gI_n c.tg, gI_n c.tg, c.2.2.2.1, if_pos rfl, cV_n c.tg e, e10]
        exact ⟨g', _, rfl, c', fun _ => ⟨rfl, y⟩⟩
      · obtain ⟨g', w, e, c', ne⟩ := bad 3 (by decide)
        rw [show b1 (lo.toInt ≤ (tN tp n A : Int) ∧ (tN tp n A : Int) ≤ hi.toInt) = 0 from if_neg y, if_pos (show nI 0 = 0 from rfl), if_neg y, if_neg y]
        exact ⟨g', w, e, c', fun u => absurd u ne⟩
    · obtain ⟨g', w, e, c', ne⟩ := bad 2 (by decide)
      rw [if_neg (show ¬ kin tp n (.inl (A, ls)) = 23 from z), if_pos rfl, if_neg z, if_neg z]
      exact ⟨g', w, e, c', fun u => absurd u ne⟩
/-- where the walk stands behind a taking, it stood before it -/
theorem nx_ls {A A' : Nat} {ls ls' : List Nat} (h : nx tp n A ls = .inl (A', ls')) : ls' = ls := by
  rcases nx_inl (tp := tp) (n := n) (A := A) (ls := ls) with ⟨A1, y⟩ | ⟨b, y⟩
  · rw [y] at h
    injection h with h
    injection h with _ h
    exact h.symm
  · rw [y] at h; injection h
theorem tkm_inl {lo hi : Int32} {σ : PS} {A' : Nat} {ls' : List Nat} (h : tkm tp n lo hi σ = .inl (A', ls')) : (∃ A, σ = .inl (A, ls')) ∧ inl' lo hi (vkm tp n lo hi σ) := by
  rcases tkm_v (tp := tp) (n := n) (lo := lo) (hi := hi) (σ := σ) with ⟨b, e, -⟩ | ⟨A, ls, e1, e2, e3, e4, -⟩
  · rw [h] at e; injection e
  · rw [e2] at h
    exact ⟨⟨A, by rw [nx_ls h]; exact e1⟩, by rw [e3]; exact e4⟩
theorem tkn_inl {K : Nat} {σ : PS} {A' : Nat} {ls' : List Nat} (h : tkn tp n K σ = .inl (A', ls')) : ∃ A, σ = .inl (A, ls') ∧ tK tp n A = K ∧ nx tp n A ls' = .inl (A', ls') := by
  match σ with
  | .inr b => injection h
  | .inl (A, ls) =>
    have h : (if tK tp n A = K then nx tp n A ls else .inr (2, A, ls.length)) = Sum.inl (A', ls') := h
    by_cases z : tK tp n A = K
    · rw [if_pos z] at h
      have e := nx_ls h
      subst e
      exact ⟨A, rfl, z, h⟩
    · rw [if_neg z] at h; injection h
/-- a fault shows in the class as in the walk -/
theorem CC.f0 {x : Nat} {h0 h : Hp} {σ : PS} (c : CC x n tp h0 h σ) (pk : Pok n tp σ) : hp_I h (x + 9) 0 = 0 ↔ ∃ A ls, σ = .inl (A, ls) := by
  match σ with
  | .inl (A, ls) => exact ⟨fun _ => ⟨A, ls, rfl⟩, fun _ => c.2.2.2.1.1⟩
  | .inr (k, p, b) => exact ⟨fun e => absurd (c.2.2.2.1.symm.trans e) (nI_n0 k pk.2), fun ⟨_, _, e⟩ => by injection e⟩
/-- no fault in the reference: it stands, or the next token is none -/
theorem MM.f0 {g0 g : Hp} {A : Nat} {ls : List Nat} (c : MM m n tp g0 g (.inl (A, ls))) : hp_I g m 11 = 0 := c.2.2.2.1
end nums
