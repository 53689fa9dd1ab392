/-! L3, the class: which cells change; its fixed cells; stands and deeds -/
def FA (x : Nat) (ks : List Nat) (h h' : Hp) : Prop := SH h h' ∧ ∀ a, (∀ k ∈ ks, a ≠ x + k) → hp_I h' a = hp_I h a ∧ hp_L h' a = hp_L h a
theorem FA.rf (x : Nat) (ks : List Nat) (h : Hp) : FA x ks h h := ⟨SH.rf h, fun _ _ => ⟨rfl, rfl⟩⟩
theorem FA.tr {x : Nat} {ks : List Nat} {h h1 h2 : Hp} (a : FA x ks h h1) (b : FA x ks h1 h2) : FA x ks h h2 := ⟨a.1.tr b.1, fun y hy => ⟨(b.2 y hy).1.trans (a.2 y hy).1, (b.2 y hy).2.trans (a.2 y hy).2⟩⟩
theorem FA.mono {x : Nat} {ks ks' : List Nat} {h h' : Hp} (a : FA x ks h h') (hk : ∀ k ∈ ks, k ∈ ks') : FA x ks' h h' := ⟨a.1, fun y hy => a.2 y (fun k q => hy k (hk k q))⟩
theorem FA.sI {x k j : Nat} {ks : List Nat} {v : Int32} {h : Hp} (hk : k ∈ ks) : FA x ks h (hp_sI h (x + k) j v) := ⟨SH.rf h, fun y hy => ⟨sI_ne h j v (hy k hk), rfl⟩⟩
theorem FA.sL {x k j : Nat} {ks : List Nat} {v : Int64} {h : Hp} (hk : k ∈ ks) : FA x ks h (hp_sL h (x + k) j v) := ⟨SH.rf h, fun y hy => ⟨rfl, sL_ne h j v (hy k hk)⟩⟩
theorem FA.at {x k : Nat} {ks : List Nat} {h h' : Hp} (c : FA x ks h h') (hk : k ∉ ks) : hp_I h' (x + k) = hp_I h (x + k) := (c.2 _ (fun j hj e => hk (by rw [show k = j by omega]; exact hj))).1
theorem FA.atL {x k : Nat} {ks : List Nat} {h h' : Hp} (c : FA x ks h h') (hk : k ∉ ks) : hp_L h' (x + k) = hp_L h (x + k) := (c.2 _ (fun j hj e => hk (by rw [show k = j by omega]; exact hj))).2
theorem FA.at0 {x : Nat} {ks : List Nat} {h h' : Hp} (c : FA x ks h h') (hk : 0 ∉ ks) : hp_I h' x = hp_I h x := c.at (k := 0) hk
/-- only the ints of q changed -/
def FQ (q : Nat) (h h' : Hp) : Prop := SH h h' ∧ hp_L h' = hp_L h ∧ ∀ a, a ≠ q → hp_I h' a = hp_I h a
theorem FQ.rf (q : Nat) (h : Hp) : FQ q h h := ⟨SH.rf h, rfl, fun _ _ => rfl⟩
theorem FQ.tr {q : Nat} {h h1 h2 : Hp} (a : FQ q h h1) (b : FQ q h1 h2) : FQ q h h2 := ⟨a.1.tr b.1, b.2.1.trans a.2.1, fun y hy => (b.2.2 y hy).trans (a.2.2 y hy)⟩
theorem FQ.sI {q j : Nat} {v : Int32} {h : Hp} : FQ q h (hp_sI h q j v) := ⟨SH.rf h, rfl, fun _ hy => sI_ne h j v hy⟩
theorem FQ.fa {x k : Nat} {ks : List Nat} {h h' : Hp} (c : FQ (x + k) h h') (hk : k ∈ ks) : FA x ks h h' := ⟨c.1, fun y hy => ⟨c.2.2 y (hy k hk), by rw [c.2.1]⟩⟩
/-! the class's cells: tag and length of x + k; 0: not one of them -/
def ct : Nat → Nat := fun k => match k with
  | 0 => 12 | 1 => 21 | 2 => 24 | 9 => 6 | 11 => 4 | 12 => 20 | 13 => 20 | 14 => 20 | 15 => 9 | 16 => 9 | 17 => 5 | 18 => 20 | 19 => 20 | 20 => 26 | 21 => 24 | 22 => 25 | 23 => 8 | 26 => 8 | 29 => 7 | 31 => 2 | 33 => 1 | 34 => 20 | 35 => 11 | 38 => 10 | 39 => 23 | 40 => 10 | 41 => 23 | 42 => 10 | 43 => 23 | 44 => 10 | 45 => 23 | 46 => 9 | 47 => 9 | _ => 0
def cl : Nat → Nat := fun k => match k with
  | 1 => 900 | 2 => 4 | 12 => 900 | 13 => 6 | 14 => 100 | 18 => 10 | 19 => 10 | 20 => 4 | 21 => 2 | 22 => 2 | 34 => 6 | 39 => 40 | 41 => 40 | 43 => 40 | 45 => 40 | _ => 0
/-- references that stay -/
def crf : List (Nat × Nat × Nat) := [(0, 0, 1), (0, 2, 2), (0, 4, 9), (0, 5, 15), (0, 6, 16), (0, 7, 17), (0, 8, 20), (0, 9, 21), (0, 10, 22), (0, 11, 23), (0, 12, 26), (0, 13, 29), (0, 14, 31), (0, 15, 33), (0, 16, 35), (9, 9, 11), (11, 0, 12), (11, 6, 13), (11, 7, 14), (17, 1, 18), (17, 2, 19), (20, 0, 38), (20, 1, 40), (20, 2, 42), (20, 3, 44), (22, 0, 46), (22, 1, 47), (33, 1, 34), (38, 2, 39), (40, 2, 41), (42, 2, 43), (44, 2, 45)]
def CSH (h : Hp) (x : Nat) : Prop := (∀ k, k < 48 → ct k ≠ 0 → hp_t h (x + k) = ct k ∧ hp_l h (x + k) = cl k) ∧ ∀ q ∈ crf, hp_R h (x + q.1) q.2.1 = some (x + q.2.2)
theorem CSH.t0 {h : Hp} {x : Nat} (c : CSH h x) : hp_t h x = 12 := (c.1 0 (by decide) (by decide)).1
theorem CSH.t {h : Hp} {x : Nat} (c : CSH h x) (k t : Nat) (hk : k < 48 ∧ ct k = t ∧ t ≠ 0) : hp_t h (x + k) = t := by rw [← hk.2.1]; exact (c.1 k hk.1 (by rw [hk.2.1]; exact hk.2.2)).1
theorem CSH.l {h : Hp} {x : Nat} (c : CSH h x) (k n : Nat) (hk : k < 48 ∧ ct k ≠ 0 ∧ cl k = n) : hp_l h (x + k) = n := by rw [← hk.2.2]; exact (c.1 k hk.1 hk.2.1).2
theorem CSH.g0 {α : Type} {h : Hp} {x : Nat} (c : CSH h x) (f k' : Nat) (hq : (0, f, k') ∈ crf) (K : Nat → Option α) : gR 12 h x f K = K (x + k') := gR_n c.t0 (c.2 (0, f, k') hq) K
theorem CSH.g {α : Type} {h : Hp} {x : Nat} (c : CSH h x) (t k f k' : Nat) (hq : (k, f, k') ∈ crf ∧ k < 48 ∧ ct k = t ∧ t ≠ 0) (K : Nat → Option α) : gR t h (x + k) f K = K (x + k') := gR_n (c.t k t hq.2) (c.2 (k, f, k') hq.1) K
theorem CSH.sh {h h' : Hp} {x : Nat} (c : CSH h x) (s : SH h h') : CSH h' x := by
  obtain ⟨a1, a2, a3, -⟩ := s
  refine ⟨fun k hk h0 => ?_, fun q hq => ?_⟩
  · rw [a1, a2]; exact c.1 k hk h0
  · rw [a3]; exact c.2 q hq
theorem CSH.sR {h : Hp} {x k f : Nat} (c : CSH h x) (v : Option Nat) (hq : ∀ q ∈ crf, ¬ (q.1 = k ∧ q.2.1 = f)) : CSH (hp_sR h (x + k) f v) x := by
  refine ⟨c.1, fun q hq' => ?_⟩
  show (if x + q.1 = x + k ∧ q.2.1 = f then v else hp_R h (x + q.1) q.2.1) = _
  rw [if_neg (fun z => hq q hq' ⟨by omega, z.2⟩)]
  exact c.2 q hq'
/-- the tray i -/
theorem CSH.tray {α : Type} {h : Hp} {x i : Nat} (c : CSH h x) (hi : i < 4) (K : Nat → Option α) : aR 26 h (x + 20) (nI i) K = K (x + (38 + 2 * i)) := by
  unfold aR
  rw [gd_t ⟨c.t 20 26 (by decide), by rw [c.l 20 4 (by decide)]; exact inb_n hi (by decide)⟩, ix_n (by omega)]
  rw [show hp_R h (x + 20) i = some (x + (38 + 2 * i)) by
    rcases (show i = 0 ∨ i = 1 ∨ i = 2 ∨ i = 3 by omega) with rfl | rfl | rfl | rfl
    · exact c.2 (20, 0, 38) (by decide)
    · exact c.2 (20, 1, 40) (by decide)
    · exact c.2 (20, 2, 42) (by decide)
    · exact c.2 (20, 3, 44) (by decide)]
  rfl
theorem CSH.tt {h : Hp} {x i : Nat} (c : CSH h x) (hi : i < 4) : hp_t h (x + (38 + 2 * i)) = 10 ∧ hp_R h (x + (38 + 2 * i)) 2 = some (x + (39 + 2 * i)) ∧ hp_t h (x + (39 + 2 * i)) = 23 ∧ hp_l h (x + (39 + 2 * i)) = 40 := by
  rcases (show i = 0 ∨ i = 1 ∨ i = 2 ∨ i = 3 by omega) with rfl | rfl | rfl | rfl
  · exact ⟨c.t 38 10 (by decide), c.2 (38, 2, 39) (by decide), c.t 39 23 (by decide), c.l 39 40 (by decide)⟩
  · exact ⟨c.t 40 10 (by decide), c.2 (40, 2, 41) (by decide), c.t 41 23 (by decide), c.l 41 40 (by decide)⟩
  · exact ⟨c.t 42 10 (by decide), c.2 (42, 2, 43) (by decide), c.t 43 23 (by decide), c.l 43 40 (by decide)⟩
  · exact ⟨c.t 44 10 (by decide), c.2 (44, 2, 45) (by decide), c.t 45 23 (by decide), c.l 45 40 (by decide)⟩
/-! stands -/
def ST (h : Hp) (q s b : Nat) : Prop := hp_t h q = 9 ∧ hp_I h q 0 = nI (cs s) ∧ hp_I h q 1 = nI b
theorem ST.cg {h h' : Hp} {q s b : Nat} (r : ST h q s b) (e1 : hp_t h' q = hp_t h q) (e2 : hp_I h' q = hp_I h q) : ST h' q s b := by
  unfold ST
  rw [e1, e2]; exact r
theorem cc_copy (F : Nat) {h : Hp} {q q' s b : Nat} (hq : q ≠ q') (t : hp_t h q = 9) (r : ST h q' s b) : ∃ h', f_X8_copy F q q' h = some ((), h') ∧ FQ q h h' ∧ ST h' q s b ∧ hp_I h' q 2 = hp_I h q 2 ∧ hp_I h' q 3 = hp_I h q 3 := by
  obtain ⟨t', r1, r2⟩ := r
  unfold f_X8_copy
  rw [gI_n t', r1, pI_n t, gI_n (show hp_t (hp_sI h q 0 (nI (cs s))) q' = 9 from t'), sI_ne h 0 _ (Ne.symm hq), r2, pI_n (show hp_t (hp_sI h q 0 (nI (cs s))) q = 9 from t)]
  refine ⟨_, rfl, FQ.sI.tr FQ.sI, ⟨t, ?_, ?_⟩, ?_, ?_⟩
  · rw [sI_at, if_neg (by decide), sI_at, if_pos rfl]
  · rw [sI_at, if_pos rfl]
  · rw [sI_at, if_neg (by decide), sI_at, if_neg (by decide)]
  · rw [sI_at, if_neg (by decide), sI_at, if_neg (by decide)]
theorem viN {x : Int32} {n : Nat} (hn : n < 2 ^ 31) (h : vi x n = none) : x < 0 ∨ nI n ≤ x := by
  have := vi_none h
  by_cases q : x.toInt < 0
  · exact Or.inl (Int32.lt_iff_toInt_lt.mpr q)
  · exact Or.inr (Int32.le_iff_toInt_le.mpr (by rw [nI_toInt hn]; omega))
theorem not_lt_le {x y : Int32} (h : y ≤ x) : ¬ x < y := Int32.not_lt.mpr h
theorem not_le_lt {x y : Int32} (h : x < y) : ¬ y ≤ x := Int32.not_le.mpr h
theorem cc_there1 (F : Nat) {h : Hp} {a : Nat} {H : HM} (c : HC h a H) {t f : Nat} (ht : t < 2) (hf : f < hm_f H) : f_X8_isThere F a (nI t) (nI f) h = some (1, h) := by
  have := c.f4
  unfold f_X8_isThere
  rw [if_neg (nI_pos (by omega)), if_neg (show ¬ (2 : Int32) ≤ nI t from i_ge ht (by decide)), if_neg (nI_pos (by omega)), c.fs, if_neg (nI_ge hf (by omega))]
theorem cc_there0 (F : Nat) {h : Hp} {a : Nat} {H : HM} (c : HC h a H) {x y : Int32} (hv : vi x 2 = none ∨ vi y (hm_f H) = none) : f_X8_isThere F a x y h = some (0, h) := by
  have := c.f4
  unfold f_X8_isThere
  rw [c.fs]
  by_cases q1 : x < 0
  · rw [if_pos q1]
  rw [if_neg q1]
  by_cases q2 : (2 : Int32) ≤ x
  · rw [if_pos q2]
  rw [if_neg q2]
  by_cases q3 : y < 0
  · rw [if_pos q3]
  rw [if_neg q3]
  rcases hv with hv | hv
  · rcases viN (by decide) hv with z | z
    · exact absurd z q1
    · exact absurd z q2
  · rcases viN (by omega) hv with z | z
    · exact absurd z q3
    · rw [if_pos z]
def nbs {α : Type} (o : Option α) : Int32 := match o with
  | none => 1
  | some _ => 0
theorem cc_noTwin (F : Nat) (x0 : Nat) (x : Int32) (h : Hp) : f_X11_noTwin F x0 x h = some (nbs (vi x 2), h) := by
  unfold f_X11_noTwin
  cases hx : vi x 2 with
  | none =>
    rcases viN (by decide) hx with z | z
    · rw [if_pos z]; rfl
    · rw [if_neg (show ¬ x < 2 from not_lt_le z)]
      by_cases q : x < 0
      · rw [if_pos q]; rfl
      · rw [if_neg q]; rfl
  | some t =>
    obtain ⟨t1, rfl⟩ := vi_some hx
    rw [if_neg (nI_pos (by omega)), if_pos (show nI t < 2 from nI_lt (b := 2) t1 (by decide))]; rfl
/-- the class's house and stand -/
def CB (h : Hp) (x a : Nat) (H : HM) (s b : Nat) : Prop := CSH h x ∧ hp_R h x 3 = some a ∧ HC h a H ∧ ST h (x + 15) s b ∧ STok H s ∧ b < 10 ∧ ∀ k j, k < 6 → j < 48 → ct j ≠ 0 → a + k ≠ x + j
theorem CB.home {α : Type} {h : Hp} {x a : Nat} {H : HM} {s b : Nat} (c : CB h x a H s b) (K : Nat → Option α) : gR 12 h x 3 K = K a := gR_n c.1.t0 c.2.1 K
theorem CB.now {α : Type} {h : Hp} {x a : Nat} {H : HM} {s b : Nat} (c : CB h x a H s b) (K : Nat → Option α) : gR 12 h x 5 K = K (x + 15) := c.1.g0 5 15 (by decide) K
theorem CB.ages {α : Type} {h : Hp} {x a : Nat} {H : HM} {s b : Nat} (c : CB h x a H s b) (K : Int32 → Option α) : gI 9 h (x + 15) 0 K = K (nI (cs s)) := by rw [gI_n c.2.2.2.1.1, c.2.2.2.1.2.1]
theorem CB.bond {α : Type} {h : Hp} {x a : Nat} {H : HM} {s b : Nat} (c : CB h x a H s b) (K : Int32 → Option α) : gI 9 h (x + 15) 1 K = K (nI b) := by rw [gI_n c.2.2.2.1.1, c.2.2.2.1.2.2]
theorem CB.hc {h : Hp} {x a : Nat} {H : HM} {s b : Nat} (c : CB h x a H s b) : HC h a H := c.2.2.1
theorem CB.ok {h : Hp} {x a : Nat} {H : HM} {s b : Nat} (c : CB h x a H s b) : STok H s := c.2.2.2.2.1
theorem CB.b10 {h : Hp} {x a : Nat} {H : HM} {s b : Nat} (c : CB h x a H s b) : b < 10 := c.2.2.2.2.2.1
theorem CB.mv {h h' : Hp} {x a : Nat} {H : HM} {s b s' b' : Nat} {ks : List Nat} (c : CB h x a H s b) (f : FA x ks h h') (hk : ∀ k ∈ ks, k < 48 ∧ ct k ≠ 0) (st : ST h' (x + 15) s' b') (h1 : STok H s') (h2 : b' < 10) : CB h' x a H s' b' := by
  obtain ⟨c1, c2, c3, c4, c5, c6, c7⟩ := c
  refine ⟨c1.sh f.1, by rw [f.1.2.2.1]; exact c2, c3.cg (fun k _ => by rw [f.1.1, f.1.2.1]; exact ⟨rfl, rfl⟩) (by rw [f.1.2.2.1]) (fun k hk6 => (f.2 _ (fun j hj => c7 k j hk6 (hk j hj).1 (hk j hj).2)).1), st, h1, h2, c7⟩
theorem CB.fa {h h' : Hp} {x a : Nat} {H : HM} {s b : Nat} {ks : List Nat} (c : CB h x a H s b) (f : FA x ks h h') (hk : ∀ k ∈ ks, k < 48 ∧ ct k ≠ 0 ∧ k ≠ 15) : CB h' x a H s b :=
  c.mv f (fun k q => ⟨(hk k q).1, (hk k q).2.1⟩) (c.2.2.2.1.cg (by rw [f.1.1]) (f.at (fun q => (hk 15 q).2.2 rfl))) c.ok c.b10
theorem cc_noFact (F : Nat) {h : Hp} {x a : Nat} {H : HM} {s b : Nat} (c : CB h x a H s b) (y : Int32) : f_X11_noFact F x y h = some (nbs (vi y (hm_f H)), h) := by
  have := c.hc.f4
  unfold f_X11_noFact
  rw [c.home, c.hc.fs]
  cases hx : vi y (hm_f H) with
  | none =>
    rcases viN (by omega) hx with z | z
    · rw [if_pos z]; rfl
    · rw [if_neg (not_lt_le z)]
      by_cases q : y < 0
      · rw [if_pos q]; rfl
      · rw [if_neg q]; rfl
  | some t =>
    obtain ⟨t1, rfl⟩ := vi_some hx
    rw [if_neg (nI_pos (by omega)), if_pos (nI_lt t1 (by omega))]; rfl
theorem cc_noDoing (F : Nat) {h : Hp} {x a : Nat} {H : HM} {s b : Nat} (c : CB h x a H s b) (y : Int32) : f_X11_noDoing F x y h = some (nbs (vi y (hm_d H)), h) := by
  have := c.hc.d6
  unfold f_X11_noDoing
  rw [c.home, c.hc.ds]
  cases hx : vi y (hm_d H) with
  | none =>
    rcases viN (by omega) hx with z | z
    · rw [if_pos z]; rfl
    · rw [if_neg (not_lt_le z)]
      by_cases q : y < 0
      · rw [if_pos q]; rfl
      · rw [if_neg q]; rfl
  | some t =>
    obtain ⟨t1, rfl⟩ := vi_some hx
    rw [if_neg (nI_pos (by omega)), if_pos (nI_lt t1 (by omega))]; rfl
/-! simple answers -/
theorem msk_tb (p : Nat → Bool) : ∀ n {d : Nat}, d < n → (msk p n).testBit d = p d := by
  intro n
  induction n with
  | zero => intro d hd; omega
  | succ n ih =>
    intro d hd
    have hl := msk_lt p n
    rw [msk]
    by_cases e : d = n
    · subst e
      have z : (msk p d).testBit d = false := Nat.testBit_lt_two_pow hl
      by_cases q : p d = true
      · rw [if_pos q, Nat.add_comm, Nat.testBit_two_pow_add_eq, z, q]; rfl
      · rw [if_neg q, Nat.add_zero, z]
        cases hp : p d with
        | true => exact absurd hp q
        | false => rfl
    · by_cases q : p n = true
      · rw [if_pos q, Nat.add_comm, Nat.testBit_two_pow_add_gt (by omega)]; exact ih (by omega)
      · rw [if_neg q, Nat.add_zero]; exact ih (by omega)
theorem nbs0 {α : Type} (t : α) : nbs (some t) = 0 := rfl
theorem nbs1 {α : Type} : ¬ nbs (none : Option α) = 0 := by show ¬ (1 : Int32) = 0; decide
theorem cc_age (F : Nat) {h : Hp} {x a : Nat} {H : HM} {s b : Nat} (c : CB h x a H s b) (y z : Int32) : f_X11_age F x y z h = some (sp_age H s y z, h) := by
  have := c.hc.f4
  unfold f_X11_age sp_age
  rw [cV_n c.1.t0 (cc_noTwin F x y h)]
  cases hx : vi y 2 with
  | none => rw [if_neg nbs1]
  | some t =>
    obtain ⟨t1, t2⟩ := vi_some hx
    rw [if_pos (nbs0 t), cV_n c.1.t0 (cc_noFact F c z)]
    cases hy : vi z (hm_f H) with
    | none => rw [if_neg nbs1]
    | some f =>
      obtain ⟨f1, f2⟩ := vi_some hy
      rw [if_pos (nbs0 f), c.now, c.ages, t2, f2, bd_n (cc_ageIn F t1 (by omega) h)]
theorem cc_does (F : Nat) {h : Hp} {x a : Nat} {H : HM} {s b : Nat} (c : CB h x a H s b) (y : Int32) : f_X11_does F x y h = some (sp_does H s y, h) := by
  unfold f_X11_does sp_does
  rw [cV_n c.1.t0 (cc_noTwin F x y h)]
  cases hx : vi y 2 with
  | none => rw [if_neg nbs1]
  | some t =>
    obtain ⟨t1, t2⟩ := vi_some hx
    rw [if_pos (nbs0 t), c.home, c.now, c.ages, t2, cV_n c.hc.t (cc_doneBy F c.hc c.ok t1)]
theorem oNm_p (u : Nat) : (0 : Int32) ≤ oN (Option.map cs (some u)) := nI_pos' (Nat.lt_trans (cs_lt u) (by decide))
theorem oNm_n (u : Nat) : ¬ oN (Option.map cs (some u)) < 0 := nI_pos (Nat.lt_trans (cs_lt u) (by decide))
theorem oN_nn {u : Nat} (h : u < 2 ^ 31) : (0 : Int32) ≤ oN (some u) := nI_pos' h
theorem cc_brings (F : Nat) {h : Hp} {x a : Nat} {H : HM} {s b : Nat} (c : CB h x a H s b) (y z w : Int32) : f_X11_brings F x y z w h = some (sp_brings H s b y z w, h) := by
  have := c.hc.f4
  unfold f_X11_brings sp_brings
  rw [cV_n c.1.t0 (cc_noTwin F x y h)]
  cases hx : vi y 2 with
  | none => rw [if_neg nbs1]
  | some t =>
    obtain ⟨t1, t2⟩ := vi_some hx
    rw [if_pos (nbs0 t), cV_n c.1.t0 (cc_noFact F c z)]
    cases hy : vi z (hm_f H) with
    | none => rw [if_neg nbs1]
    | some f =>
      obtain ⟨f1, f2⟩ := vi_some hy
      rw [if_pos (nbs0 f), cV_n c.1.t0 (cc_noTwin F x w h)]
      cases hw : vi w 2 with
      | none => rw [if_neg nbs1]
      | some v =>
        obtain ⟨w1, w2⟩ := vi_some hw
        rw [if_pos (nbs0 v), c.home, c.now, c.ages, c.now, c.bond, t2, f2, cV_n c.hc.t (cc_afterTelling F c.hc c.ok c.b10 t1 f1)]
        dsimp only
        cases hu : tld H b s t f with
        | none => rw [if_neg (show ¬ (0 : Int32) ≤ oN (Option.map cs none) by decide)]
        | some u =>
          rw [if_pos (oNm_p u)]
          show bd (f_X2_ageIn F (nI (cs u)) w (nI f) h) _ = _
          rw [w2, bd_n (cc_ageIn F w1 (by omega) h)]
theorem cc_doing (F : Nat) (hF : 100 ≤ F) {h : Hp} {x a : Nat} {H : HM} {s b : Nat} (c : CB h x a H s b) (y z : Int32) : f_X11_doing F x y z h = some (sp_doing H s y z, h) := by
  have f4 := c.hc.f4
  have d6 := c.hc.d6
  unfold f_X11_doing sp_doing
  rw [cV_n c.1.t0 (cc_noDoing F c y)]
  cases hx : vi y (hm_d H) with
  | none => rw [if_neg nbs1]
  | some d =>
    obtain ⟨d1, d2⟩ := vi_some hx
    have hd6 : d < 6 := by omega
    rw [if_pos (nbs0 d), d2]
    dsimp only
    by_cases q0 : z = 0
    · rw [if_pos q0, if_pos q0, c.home, cV_n c.hc.t (cc_needBits F hF c.hc hd6)]
    rw [if_neg q0, if_neg q0]
    by_cases q1 : z = 1
    · rw [if_pos q1, if_pos q1, c.home, cV_n c.hc.t (cc_butBits F c.hc hd6)]
    rw [if_neg q1, if_neg q1]
    by_cases q2 : z = 2
    · rw [if_pos q2, if_pos q2, c.home, c.now, c.ages, cV_n c.hc.t (show f_X2_doneBy F a (nI (cs s)) 0 h = _ from cc_doneBy F c.hc c.ok (t := 0) (by decide)), c.home, c.now, c.ages, cV_n c.hc.t (show f_X2_doneBy F a (nI (cs s)) 1 h = _ from cc_doneBy F c.hc c.ok (t := 1) (by decide))]
      have l0 := dsa_lt c.hc.2.1 s 0
      have l1 := dsa_lt c.hc.2.1 s 1
      rw [tb_and (by omega) (by omega), tb_and (by omega) (by omega)]
      have tm : ∀ t, (dsa H s t).testBit d = dse H s t d := fun t => by
        unfold dsa
        exact msk_tb _ _ d1
      rw [tm 0, tm 1]
      have : ∀ p q : Bool, nI (b1 (p = true)) ||| (nI (b1 (q = true)) <<< ((1 : Int32) &&& 31)) = nI (b2 p + 2 * b2 q) := by decide +kernel
      rw [this]
    rw [if_neg q2, if_neg q2]
    by_cases q3 : z < 10
    · rw [if_pos q3, if_pos q3]
    rw [if_neg q3, if_neg q3, cV_n c.1.t0 (cc_noFact F c (z - 10))]
    cases hz : vi (z - 10) (hm_f H) with
    | none => rw [if_neg nbs1]
    | some f =>
      obtain ⟨f1, f2⟩ := vi_some hz
      rw [if_pos (nbs0 f), c.home, f2, cV_n c.hc.t (cc_needOf F c.hc hd6 (by omega))]
