/-! L3, the class: what a search has found -/
/-- only the ints of q, P, S changed -/
def F3 (q P S : Nat) (h h' : Hp) : Prop := SH h h' ∧ hp_L h' = hp_L h ∧ ∀ y, y ≠ q → y ≠ P → y ≠ S → hp_I h' y = hp_I h y
theorem F3.rf (q P S : Nat) (h : Hp) : F3 q P S h h := ⟨SH.rf h, rfl, fun _ _ _ _ => rfl⟩
theorem F3.tr {q P S : Nat} {h h1 h2 : Hp} (a : F3 q P S h h1) (b : F3 q P S h1 h2) : F3 q P S h h2 := ⟨a.1.tr b.1, b.2.1.trans a.2.1, fun y h1 h2 h3 => (b.2.2 y h1 h2 h3).trans (a.2.2 y h1 h2 h3)⟩
theorem F3.q {q P S j : Nat} {v : Int32} {h : Hp} : F3 q P S h (hp_sI h q j v) := ⟨SH.rf h, rfl, fun _ h1 _ _ => sI_ne h j v h1⟩
theorem F3.P {q P S j : Nat} {v : Int32} {h : Hp} : F3 q P S h (hp_sI h P j v) := ⟨SH.rf h, rfl, fun _ _ h2 _ => sI_ne h j v h2⟩
theorem F3.S {q P S j : Nat} {v : Int32} {h : Hp} : F3 q P S h (hp_sI h S j v) := ⟨SH.rf h, rfl, fun _ _ _ h3 => sI_ne h j v h3⟩
def SS (h : Hp) (q P S L : Nat) : Prop := (hp_t h q = 8 ∧ hp_R h q 0 = some P ∧ hp_R h q 1 = some S) ∧ (hp_t h P = 20 ∧ hp_l h P = L) ∧ (hp_t h S = 20 ∧ hp_l h S = L / 32 + 1) ∧ P ≠ S ∧ ∃ e, e ≤ 4 ∧ L = 16 ^ e
theorem SS.sh {h h' : Hp} {q P S L : Nat} (c : SS h q P S L) (s : SH h h') : SS h' q P S L := by
  obtain ⟨a1, a2, a3, -⟩ := s
  unfold SS
  rw [a1, a2, a3]; exact c
theorem SS.t {h : Hp} {q P S L : Nat} (c : SS h q P S L) : hp_t h q = 8 := c.1.1
theorem SS.qP {h : Hp} {q P S L : Nat} (c : SS h q P S L) : q ≠ P := fun e => by
  have a := c.1.1
  rw [e, c.2.1.1] at a
  exact absurd a (by decide)
theorem SS.qS {h : Hp} {q P S L : Nat} (c : SS h q P S L) : q ≠ S := fun e => by
  have a := c.1.1
  rw [e, c.2.2.1.1] at a
  exact absurd a (by decide)
theorem SS.g0 {α : Type} {h : Hp} {q P S L : Nat} (c : SS h q P S L) (K : Nat → Option α) : gR 8 h q 0 K = K P := gR_n c.1.1 c.1.2.1 K
theorem SS.g1 {α : Type} {h : Hp} {q P S L : Nat} (c : SS h q P S L) (K : Nat → Option α) : gR 8 h q 1 K = K S := gR_n c.1.1 c.1.2.2 K
theorem SS.aP {α : Type} {h : Hp} {q P S L : Nat} (c : SS h q P S L) (K : Int32 → Option α) : al 20 h P K = K (nI L) := al_n c.2.1.1 c.2.1.2 K
theorem SS.aS {α : Type} {h : Hp} {q P S L : Nat} (c : SS h q P S L) (K : Int32 → Option α) : al 20 h S K = K (nI (L / 32 + 1)) := al_n c.2.2.1.1 c.2.2.1.2 K
theorem SS.L16 {h : Hp} {q P S L : Nat} (c : SS h q P S L) : L ≤ 65536 := by
  obtain ⟨e, e1, rfl⟩ := c.2.2.2.2
  exact p16_le e1
/-- n places were found -/
def RW (h : Hp) (q P S L : Nat) (u p : Nat → Nat) (n : Nat) : Prop := SS h q P S L ∧ (hp_I h q 2 = nI n ∧ n ≤ L) ∧ (∀ i, i < n → hp_I h P i = nI (65536 * p i + cs (u i)) ∧ p i < 65536) ∧ ∀ c, c < L → (bt (hp_I h S (c / 32)) (c % 32) = true ↔ ∃ i, i < n ∧ cs (u i) = c)
theorem cc_add1 (F : Nat) {h : Hp} {q P S L : Nat} {u p : Nat → Nat} {n v : Nat} (r : RW h q P S L u p n) (hv : cs v < L) (hi : ∃ i, i < n ∧ cs (u i) = cs v) (x : Int32) : f_X7_add F q x (nI (cs v)) h = some ((), h) := by
  obtain ⟨ss, ⟨r1, r2⟩, r3, r4⟩ := r
  have c16 := cs_lt v
  have L16 := ss.L16
  have hb := (r4 (cs v) hv).mpr hi
  unfold f_X7_add
  rw [lt_e, shr5 _ c16, if_neg (nI_pos (by omega)), ss.g1, ss.aS, if_neg (nI_ge (show cs v / 32 < L / 32 + 1 by omega) (by omega)), gI_n ss.t, r1, ss.g0, ss.aP]
  by_cases z : n < L
  · rw [if_pos (nI_lt z (by omega)), lt_e, ss.g1, aI_n ss.2.2.1.1 ss.2.2.1.2 rfl (show cs v / 32 < L / 32 + 1 by omega) (by omega), and31 _ c16, if_neg (fun e => by rw [(and_one (by omega)).mp e] at hb; exact absurd hb (by decide))]
  · rw [if_neg (fun e => z ((nI_ltI (by omega) (by omega)).mp e))]
theorem cc_add0 (F : Nat) {h : Hp} {q P S L : Nat} {u p : Nat → Nat} {n v a : Nat} (r : RW h q P S L u p n) (hv : cs v < L) (ha : a < 65536) (hn : ∀ i, i < n → cs (u i) ≠ cs v) (hL : n < L) : ∃ h', f_X7_add F q (nI a) (nI (cs v)) h = some ((), h') ∧ F3 q P S h h' ∧ (∀ k, k ≠ 2 → hp_I h' q k = hp_I h q k) ∧ RW h' q P S L (fun i => if i = n then v else u i) (fun i => if i = n then a else p i) (n + 1) := by
  obtain ⟨ss, ⟨r1, r2⟩, r3, r4⟩ := r
  have c16 := cs_lt v
  have L16 := ss.L16
  have hb : bt (hp_I h S (cs v / 32)) (cs v % 32) = false := by
    cases hc : bt (hp_I h S (cs v / 32)) (cs v % 32) with
    | false => rfl
    | true =>
      obtain ⟨i, i1, i2⟩ := (r4 (cs v) hv).mp hc
      exact absurd i2 (hn i i1)
  have w31 : cs v / 32 < L / 32 + 1 := by omega
  unfold f_X7_add
  rw [lt_e, shr5 _ c16, if_neg (nI_pos (by omega)), ss.g1, ss.aS, if_neg (nI_ge w31 (by omega)), gI_n ss.t, r1, ss.g0, ss.aP, if_pos (nI_lt hL (by omega)), lt_e, ss.g1, aI_n ss.2.2.1.1 ss.2.2.1.2 rfl w31 (by omega), and31 _ c16, if_pos ((and_one (by omega)).mpr hb), ss.g1, aI_n ss.2.2.1.1 ss.2.2.1.2 rfl w31 (by omega), wI_n ss.2.2.1.1 ss.2.2.1.2 rfl w31 (by omega)]
  generalize hw : hp_I h S (cs v / 32) ||| ((1 : Int32) <<< (nI (cs v % 32) &&& 31)) = w
  have s1 : SS (hp_sI h S (cs v / 32) w) q P S L := ss.sh (SH.rf h)
  rw [s1.g0, gI_n s1.t, sI_ne h _ _ ss.qS, r1, pack16 ha c16, wI_n s1.2.1.1 s1.2.1.2 rfl hL (by omega)]
  have s2 : SS (hp_sI (hp_sI h S (cs v / 32) w) P n (nI (65536 * a + cs v))) q P S L := ss.sh (SH.rf h)
  rw [gI_n s2.t, sI_ne _ _ _ ss.qP, sI_ne h _ _ ss.qS, r1, pI_n s2.t, nI_1]
  refine ⟨_, rfl, (F3.S.tr F3.P).tr F3.q, fun k hk => ?_, ss.sh (SH.rf h), ⟨?_, by omega⟩, fun i hi => ?_, fun c hc => ?_⟩
  · rw [sI_at, if_neg hk, sI_ne _ _ _ ss.qP, sI_ne h _ _ ss.qS]
  · rw [sI_at, if_pos rfl]
  · dsimp only
    rw [sI_ne _ _ _ (Ne.symm ss.qP), sI_at, sI_ne h _ _ ss.2.2.2.1]
    by_cases e : i = n
    · rw [if_pos e, if_pos e, if_pos e]; exact ⟨rfl, ha⟩
    · rw [if_neg e, if_neg e, if_neg e]; exact r3 i (by omega)
  · rw [sI_ne _ _ _ (Ne.symm ss.qS), sI_ne _ _ _ (Ne.symm ss.2.2.2.1), sI_at]
    have key : (∃ i, i < n + 1 ∧ cs (if i = n then v else u i) = c) ↔ ((∃ i, i < n ∧ cs (u i) = c) ∨ cs v = c) := by
      constructor
      · rintro ⟨i, i1, i2⟩
        by_cases e : i = n
        · rw [if_pos e] at i2; exact Or.inr i2
        · rw [if_neg e] at i2; exact Or.inl ⟨i, by omega, i2⟩
      · rintro (⟨i, i1, i2⟩ | i2)
        · exact ⟨i, by omega, by rw [if_neg (show ¬ i = n by omega)]; exact i2⟩
        · exact ⟨n, by omega, by rw [if_pos rfl]; exact i2⟩
    dsimp only
    rw [key]
    by_cases e : c / 32 = cs v / 32
    · rw [if_pos e, ← hw, or_one (by omega) (by omega), Bool.or_eq_true, ← e, r4 c hc, decide_eq_true_iff]
      constructor
      · rintro (z | z)
        · exact Or.inl z
        · exact Or.inr (by omega)
      · rintro (z | z)
        · exact Or.inl z
        · exact Or.inr (by omega)
    · rw [if_neg e, r4 c hc]
      constructor
      · intro z; exact Or.inl z
      · rintro (z | z)
        · exact z
        · exact absurd (by rw [z]) e
/-! which moves are left out -/
def SK (x y : Int32) (M : Nat) : Prop := M.testBit 8 = true ∧ ∀ t f, t < 2 → f < 4 → (M.testBit (4 * t + f) = true ↔ (nI t ≠ x ∧ nI f ≠ y))
theorem SK_all : SK (-1) (-1) 511 := by
  refine ⟨by decide, fun t f ht hf => ⟨fun _ => ⟨nI_nm1 (by omega), nI_nm1 (by omega)⟩, fun _ => all511 _ (by omega)⟩⟩
theorem SK_t {t0 : Nat} (h0 : t0 < 2) : SK (nI t0) (-1) (Mt t0) := by
  have a : ∀ t0, t0 < 2 → (Mt t0).testBit 8 = true ∧ ∀ t, t < 2 → ∀ f, f < 4 → ((Mt t0).testBit (4 * t + f) = true ↔ t ≠ t0) := by decide
  refine ⟨(a t0 h0).1, fun t f ht hf => ?_⟩
  rw [(a t0 h0).2 t ht f hf]
  exact ⟨fun z => ⟨fun e => z (nI_inj (by omega) (by omega) e), nI_nm1 (by omega)⟩, fun z e => z.1 (by rw [e])⟩
theorem SK_f {f0 : Nat} (h0 : f0 < 4) : SK (-1) (nI f0) (Mf f0) := by
  have a : ∀ f0, f0 < 4 → (Mf f0).testBit 8 = true ∧ ∀ t, t < 2 → ∀ f, f < 4 → ((Mf f0).testBit (4 * t + f) = true ↔ f ≠ f0) := by decide
  refine ⟨(a f0 h0).1, fun t f ht hf => ?_⟩
  rw [(a f0 h0).2 t ht f hf]
  exact ⟨fun z => ⟨nI_nm1 (by omega), fun e => z (nI_inj (by omega) (by omega) e)⟩, fun z e => z.2 (by rw [e])⟩
theorem SK_uniq {x y : Int32} {M M' : Nat} (h : SK x y M) (h' : SK x y M') : ∀ k, k < 9 → (M.testBit k = true ↔ M'.testBit k = true) := by
  intro k hk
  rcases (show k = 8 ∨ k < 8 by omega) with e | e
  · rw [e, h.1, h'.1]
  · have a := h.2 (k / 4) (k % 4) (by omega) (by omega)
    have c := h'.2 (k / 4) (k % 4) (by omega) (by omega)
    rw [show 4 * (k / 4) + k % 4 = k by omega] at a c
    exact a.trans c.symm
theorem BQ.cgM {H : HM} {b M M' s : Nat} {u p kk : Nat → Nat} {n o k : Nat} (q : BQ H b M s u p kk n o k) (e : ∀ k, k < 9 → (M.testBit k = true ↔ M'.testBit k = true)) : BQ H b M' s u p kk n o k := by
  obtain ⟨q0, q5, q6, q7, q8, q9⟩ := q
  refine ⟨q0, q5, q6, fun i h0 hi => ?_, q8, fun j m v hj hjn hm hM hmv => q9 j m v hj hjn hm ((e m hm).mpr hM) hmv⟩
  obtain ⟨a1, a2, a3, a4, a5⟩ := q7 i h0 hi
  exact ⟨a1, a2, a3, (e _ a3).mp a4, a5⟩
theorem BQ.stays {H : HM} {b M s : Nat} {u p kk : Nat → Nat} {n o : Nat} (ho : o < n) : ∀ r k, k + r ≤ 9 → (∀ j, k ≤ j → j < k + r → M.testBit j = true → mv H b (u o) j = none) → BQ H b M s u p kk n o k → BQ H b M s u p kk n o (k + r) := by
  intro r
  induction r with
  | zero => intro k _ _ q; exact q
  | succ r ih =>
    intro k hk hj q
    have q1 := q.stay ho (by omega) (fun v hM hv => by rw [hj k (Nat.le_refl _) (by omega) hM] at hv; cases hv)
    have := ih (k + 1) (by omega) (fun j h1 h2 => hj j (by omega) (by omega)) q1
    rw [show k + (r + 1) = k + 1 + r by omega]
    exact this
/-! a search of a house -/
def SC (h : Hp) (q P S L a : Nat) (H : HM) (b M s : Nat) (u p kk : Nat → Nat) (n o k : Nat) : Prop :=
  RW h q P S L u p n ∧ (hp_R h q 4 = some a ∧ HC h a H ∧ (∀ j, j < 6 → a + j ≠ P ∧ a + j ≠ S) ∧ 16 ^ hm_f H ≤ L) ∧ (b < 10 ∧ STok H s) ∧
  (hp_I h q 3 = nI o ∧ hp_I h q 5 = nI (cs s) ∧ hp_I h q 6 = nI b ∧ SK (hp_I h q 7) (hp_I h q 8) M) ∧ BQ H b M s u p kk n o k
theorem HC.f3 {h h' : Hp} {a q P S : Nat} {H : HM} (c : HC h a H) (f : F3 q P S h h') (ht : hp_t h q = 8) (ha : ∀ j, j < 6 → a + j ≠ P ∧ a + j ≠ S) : HC h' a H := by
  refine c.cg (fun k _ => by rw [f.1.1, f.1.2.1]; exact ⟨rfl, rfl⟩) (by rw [f.1.2.2.1]) (fun k hk => f.2.2 _ (fun e => ?_) (ha k hk).1 (ha k hk).2)
  rcases Nat.eq_zero_or_pos k with z | z
  · subst z
    have := c.t
    rw [show a = q by omega, ht] at this
    exact absurd this (by decide)
  · have := (c.1.2 k z hk).2.1
    rw [e, ht] at this
    exact absurd this (by decide)
def EX (u p kk u' p' kk' : Nat → Nat) (n n' : Nat) : Prop := n ≤ n' ∧ ∀ i, i < n → u' i = u i ∧ p' i = p i ∧ kk' i = kk i
theorem EX.rf (u p kk : Nat → Nat) (n : Nat) : EX u p kk u p kk n n := ⟨Nat.le_refl _, fun _ _ => ⟨rfl, rfl, rfl⟩⟩
theorem EX.tr {u p kk u1 p1 kk1 u2 p2 kk2 : Nat → Nat} {n n1 n2 : Nat} (a : EX u p kk u1 p1 kk1 n n1) (b : EX u1 p1 kk1 u2 p2 kk2 n1 n2) : EX u p kk u2 p2 kk2 n n2 :=
  ⟨Nat.le_trans a.1 b.1, fun i hi => ⟨(b.2 i (by have := a.1; omega)).1.trans (a.2 i hi).1, (b.2 i (by have := a.1; omega)).2.1.trans (a.2 i hi).2.1, (b.2 i (by have := a.1; omega)).2.2.trans (a.2 i hi).2.2⟩⟩
section SCs
variable {h : Hp} {q P S L a : Nat} {H : HM} {b M s : Nat} {u p kk : Nat → Nat} {n o k : Nat}
theorem SC.ss (c : SC h q P S L a H b M s u p kk n o k) : SS h q P S L := c.1.1
theorem SC.hc (c : SC h q P S L a H b M s u p kk n o k) : HC h a H := c.2.1.2.1
theorem SC.bq (c : SC h q P S L a H b M s u p kk n o k) : BQ H b M s u p kk n o k := c.2.2.2.2
theorem SC.g4 {α : Type} (c : SC h q P S L a H b M s u p kk n o k) (K : Nat → Option α) : gR 8 h q 4 K = K a := gR_n c.ss.t c.2.1.1 K
theorem SC.nL (c : SC h q P S L a H b M s u p kk n o k) : n ≤ L ∧ L ≤ 65536 := ⟨c.1.2.1.2, c.ss.L16⟩
theorem SC.wk (c : SC h q P S L a H b M s u p kk n o k) {k' : Nat} (bq : BQ H b M s u p kk n o k') : SC h q P S L a H b M s u p kk n o k' := ⟨c.1, c.2.1, c.2.2.1, c.2.2.2.1, bq⟩
theorem SC.add (F : Nat) (c : SC h q P S L a H b M s u p kk n o k) (ho : o < n) (hk : k < 9) (hM : M.testBit k = true) : ∃ h' u' p' kk' n', f_X7_add F q (nI o) (oN ((mv H b (u o) k).map cs)) h = some ((), h') ∧ F3 q P S h h' ∧ SC h' q P S L a H b M s u' p' kk' n' o (k + 1) ∧ EX u p kk u' p' kk' n n' := by
  have cc := c
  obtain ⟨rw0, ⟨c1, c2, c3, c4⟩, c5, ⟨d1, d2, d3, d4⟩, bq⟩ := c
  have nL := cc.nL
  cases hv : mv H b (u o) k with
  | none =>
    refine ⟨h, u, p, kk, n, ?_, F3.rf _ _ _ _, cc.wk (bq.stay ho hk (fun v _ z => by rw [hv] at z; cases z)), EX.rf _ _ _ _⟩
    show f_X7_add F q (nI o) (-1) h = _
    unfold f_X7_add
    rw [lt_e, if_pos (by decide)]
  | some v =>
    have ok := (mv_ok c2.2.1 (bq.2.1 o ho) hk hv).1
    have hr := cs_room ok c2.f4
    show ∃ h' u' p' kk' n', f_X7_add F q (nI o) (nI (cs v)) h = some ((), h') ∧ _
    by_cases z : ∃ i, i < n ∧ u i = v
    · obtain ⟨i, i1, i2⟩ := z
      exact ⟨h, u, p, kk, n, cc_add1 F rw0 (by omega) ⟨i, i1, by rw [i2]⟩ _, F3.rf _ _ _ _, cc.wk (bq.stay ho hk (fun w _ e => by rw [hv] at e; obtain rfl := Option.some.inj e; exact ⟨i, i1, i2⟩)), EX.rf _ _ _ _⟩
    · have hn : ∀ i, i < n → cs (u i) ≠ cs v := fun i hi e => z ⟨i, hi, cs_inj (bq.2.1 i hi).1 ok.1 e⟩
      have hL : n < 16 ^ hm_f H := pig1 (f := fun i => cs (u i)) (fun i hi => cs_room (bq.2.1 i hi) c2.f4) (fun i j hi hj e => bq.2.2.1 i j hi hj (cs_inj (bq.2.1 i hi).1 (bq.2.1 j hj).1 e)) hr hn
      obtain ⟨h', e, f, g, r⟩ := cc_add0 F rw0 (show cs v < L by omega) (show o < 65536 by omega) hn (by omega)
      refine ⟨h', _, _, _, n + 1, e, f, ⟨r, ⟨?_, c2.f3 f cc.ss.t c3, c3, c4⟩, c5, ⟨?_, ?_, ?_, ?_⟩, bq.push ho hk hM hv ok (fun i hi e => z ⟨i, hi, e⟩)⟩, by omega, fun i hi => ?_⟩
      · rw [f.1.2.2.1]; exact c1
      · rw [g 3 (by decide)]; exact d1
      · rw [g 5 (by decide)]; exact d2
      · rw [g 6 (by decide)]; exact d3
      · rw [g 7 (by decide), g 8 (by decide)]; exact d4
      · dsimp only
        rw [if_neg (by omega), if_neg (by omega), if_neg (by omega)]; exact ⟨rfl, rfl, rfl⟩
theorem SC.agesOf (F : Nat) (c : SC h q P S L a H b M s u p kk n o k) {i : Nat} (hi : i < n) : f_X7_agesOf F q (nI i) h = some (nI (cs (u i)), h) := by
  have nL := c.nL
  obtain ⟨ss, ⟨r1, r2⟩, r3, r4⟩ := c.1
  have e := r3 i hi
  unfold f_X7_agesOf
  rw [if_neg (nI_pos (by omega)), gI_n ss.t, r1, if_neg (nI_ge hi (by omega)), ss.g0, ss.aP, if_neg (nI_ge (by omega) (by omega)), ss.g0, aI_n ss.2.1.1 ss.2.1.2 rfl (by omega) (by omega), e.1, unpack_lo e.2 (cs_lt _)]
theorem SC.placeAhead (F : Nat) (c : SC h q P S L a H b M s u p kk n o k) {i : Nat} (hi : i < n) : f_X7_placeAhead F q (nI i) h = some (nI (p i), h) := by
  have nL := c.nL
  obtain ⟨ss, ⟨r1, r2⟩, r3, r4⟩ := c.1
  have e := r3 i hi
  unfold f_X7_placeAhead
  rw [if_neg (nI_pos (by omega)), gI_n ss.t, r1, if_neg (nI_ge hi (by omega)), ss.g0, ss.aP, if_neg (nI_ge (by omega) (by omega)), ss.g0, aI_n ss.2.1.1 ss.2.1.2 rfl (by omega) (by omega), e.1, unpack_hi e.2 (cs_lt _)]
end SCs
theorem mv_t {H : HM} {b v t f : Nat} (ht : t < 2) (h4 : hm_f H ≤ 4) (hf : f < hm_f H) : mv H b v (4 * t + f) = tld H b v t f := by
  unfold mv
  rw [if_neg (by omega), show (4 * t + f) % 4 = f by omega, if_pos hf, show (4 * t + f) / 4 = t by omega]
theorem mv_n {H : HM} {b v t f : Nat} (ht : t < 2) (h4 : f < 4) (hf : hm_f H ≤ f) : mv H b v (4 * t + f) = none := by
  unfold mv
  rw [if_neg (by omega), show (4 * t + f) % 4 = f by omega, if_neg (by omega)]
theorem cc_open31 (F : Nat) {q P S L a : Nat} {H : HM} {b M s : Nat} {o t v0 : Nat} (ht : t < 2) (K8 : Nat → Int32 → Int32 → Int32 → Hp → Option (Unit × Hp)) : ∀ r f m (h : Hp) (u p kk : Nat → Nat) (n : Nat), f + r = hm_f H → r < m → SC h q P S L a H b M s u p kk n o (4 * t + f) → o < n → u o = v0 → ∃ h' u' p' kk' n', f_X7_open_31 F K8 m q (nI o) (nI (cs v0)) (nI t) (nI (cpl b t (kn v0 t) (kn v0 (1 - t)))) (nI f) h = K8 q (nI o) (nI (cs v0)) (nI (t + 1)) h' ∧ F3 q P S h h' ∧ SC h' q P S L a H b M s u' p' kk' n' o (4 * t + 4) ∧ EX u p kk u' p' kk' n n' := by
  intro r
  induction r with
  | zero =>
    intro f m h u p kk n hf hm c ho hu
    obtain ⟨m, rfl⟩ : ∃ j, m = j + 1 := ⟨m - 1, by omega⟩
    have h4 := c.hc.f4
    show ∃ h' u' p' kk' n', f_X7_open_31_b F K8 (f_X7_open_31 F K8 m) _ _ _ _ _ _ h = _ ∧ _
    unfold f_X7_open_31_b f_X7_open_84
    rw [c.g4, c.hc.fs, if_pos (nI_le (by omega) (by omega)), nI_1]
    refine ⟨h, u, p, kk, n, rfl, F3.rf _ _ _ _, c.wk ?_, EX.rf _ _ _ _⟩
    have := c.bq.stays ho (4 - f) (4 * t + f) (by omega) (fun j h1 h2 _ => by
      rw [show j = 4 * t + (j - 4 * t) by omega]
      exact mv_n ht (by omega) (by omega))
    rw [show 4 * t + f + (4 - f) = 4 * t + 4 by omega] at this
    exact this
  | succ r ih =>
    intro f m h u p kk n hf hm c ho hu
    obtain ⟨m, rfl⟩ : ∃ j, m = j + 1 := ⟨m - 1, by omega⟩
    have h4 := c.hc.f4
    obtain ⟨-, sk⟩ := c.2.2.2.1.2.2.2
    show ∃ h' u' p' kk' n', f_X7_open_31_b F K8 (f_X7_open_31 F K8 m) _ _ _ _ _ _ h = _ ∧ _
    unfold f_X7_open_31_b f_X7_open_84 f_X7_open_78
    rw [c.g4, c.hc.fs, if_neg (nI_ge (by omega) (by omega)), gI_n c.ss.t, nI_1]
    by_cases z : nI t = hp_I h q 7
    · rw [if_pos z]
      refine ⟨h, u, p, kk, n, rfl, F3.rf _ _ _ _, c.wk ?_, EX.rf _ _ _ _⟩
      have := c.bq.stays ho (4 - f) (4 * t + f) (by omega) (fun j h1 h2 hM => by
        rw [show j = 4 * t + (j - 4 * t) by omega] at hM
        exact absurd z ((sk t (j - 4 * t) ht (by omega)).mp hM).1)
      rw [show 4 * t + f + (4 - f) = 4 * t + 4 by omega] at this
      exact this
    · rw [if_neg z, gI_n c.ss.t, nI_1]
      by_cases z2 : nI f = hp_I h q 8
      · rw [if_pos z2]
        exact ih (f + 1) m h u p kk n (by omega) (by omega) (c.wk (c.bq.stay ho (by omega) (fun v hM _ => absurd z2 ((sk t f ht (by omega)).mp hM).2))) ho hu
      · have hM := (sk t f ht (by omega)).mpr ⟨z, z2⟩
        obtain ⟨h1, u1, p1, k1, n1, e1, f1, c1, x1⟩ := c.add F ho (by omega) hM
        rw [hu, mv_t ht h4 (show f < hm_f H by omega)] at e1
        obtain ⟨h2, u2, p2, k2, n2, e2, f2, c2, x2⟩ := ih (f + 1) m h1 u1 p1 k1 n1 (by omega) (by omega) c1 (by have := x1.1; omega) ((x1.2 o ho).1.trans hu)
        rw [if_neg z2, c.g4, cV_n c.hc.t (cc_afterCase F c.hc (by rw [← hu]; exact c.bq.2.1 o ho) c.2.2.1.1 ht (show f < hm_f H by omega)), cV_n c.ss.t e1, e2]
        exact ⟨h2, u2, p2, k2, n2, rfl, f1.tr f2, c2, x1.tr x2⟩
theorem cc_open (F : Nat) (hF : 100 ≤ F) {h : Hp} {q P S L a : Nat} {H : HM} {b M s : Nat} {u p kk : Nat → Nat} {n o : Nat} (c : SC h q P S L a H b M s u p kk n o 0) (ho : o < n) : ∃ h' u' p' kk' n', f_X7_open F q (nI o) h = some ((), h') ∧ F3 q P S h h' ∧ SC h' q P S L a H b M s u' p' kk' n' o 9 ∧ EX u p kk u' p' kk' n n' := by
  obtain ⟨F1, hF1⟩ : ∃ j, F = j + 3 := ⟨F - 3, by omega⟩
  have h4 := c.hc.f4
  have b10 := c.2.2.1.1
  unfold f_X7_open
  rw [cV_n c.ss.t (c.agesOf _ ho), congrArg (f_X7_open_8 F) hF1]
  have step : ∀ t m (h : Hp) (u p kk : Nat → Nat) (n : Nat), t < 2 → SC h q P S L a H b M s u p kk n o (4 * t) → o < n → ∃ h' u' p' kk' n', f_X7_open_8 F (m + 1) q (nI o) (nI (cs (u o))) (nI t) h = f_X7_open_8 F m q (nI o) (nI (cs (u o))) (nI (t + 1)) h' ∧ F3 q P S h h' ∧ SC h' q P S L a H b M s u' p' kk' n' o (4 * (t + 1)) ∧ EX u p kk u' p' kk' n n' := by
    intro t m h u p kk n ht c ho
    show ∃ h' u' p' kk' n', f_X7_open_8_b F (f_X7_open_8 F m) q (nI o) (nI (cs (u o))) (nI t) h = _ ∧ _
    unfold f_X7_open_8_b
    rw [if_neg (show ¬ (2 : Int32) ≤ nI t from i_ge ht (by decide)), c.g4, gI_n c.ss.t, c.2.2.2.1.2.2.1, cV_n c.hc.t (cc_caseAt F ht a b h)]
    obtain ⟨h1, u1, p1, k1, n1, e1, f1, c1, x1⟩ := cc_open31 F ht (f_X7_open_8 F m) (hm_f H) 0 F h u p kk n (by omega) (by omega) c ho rfl
    exact ⟨h1, u1, p1, k1, n1, e1, f1, c1, x1⟩
  obtain ⟨h1, u1, p1, k1, n1, e1, f1, c1, x1⟩ := step 0 (F1 + 2) h u p kk n (by decide) c ho
  have o1 : o < n1 := by have := x1.1; omega
  obtain ⟨h2, u2, p2, k2, n2, e2, f2, c2, x2⟩ := step 1 (F1 + 1) h1 u1 p1 k1 n1 (by decide) c1 o1
  have o2 : o < n2 := by have := x2.1; omega
  have hu1 : u1 o = u o := (x1.2 o ho).1
  have hu2 : u2 o = u o := (x2.2 o o1).1.trans hu1
  rw [hu1] at e2
  have e3 : f_X7_open_8 F (F1 + 3) q (nI o) (nI (cs (u o))) 0 h = f_X7_open_8 F (F1 + 1) q (nI o) (nI (cs (u o))) (nI 2) h2 := e1.trans e2
  rw [e3]
  show ∃ h' u' p' kk' n', f_X7_open_8_b F (f_X7_open_8 F F1) q (nI o) (nI (cs (u o))) (nI 2) h2 = _ ∧ _
  unfold f_X7_open_8_b
  rw [if_pos (show (2 : Int32) ≤ nI 2 by decide), bd_n (cc_day F (u o) h2)]
  obtain ⟨h5, u5, p5, k5, n5, e5, f5, c5, x5⟩ := c2.add F o2 (by decide) (c2.2.2.2.1.2.2.2.1)
  rw [hu2] at e5
  rw [cV_n c2.ss.t (show f_X7_add F q (nI o) (nI (cs (dy (u o)))) h2 = some ((), h5) from e5)]
  exact ⟨h5, u5, p5, k5, n5, rfl, (f1.tr f2).tr f5, c5, (x1.tr x2).tr x5⟩
theorem cc_finds_52 (F : Nat) {q P S L a : Nat} {H : HM} {b M s pl : Nat} (hpl : pl < 2 ^ 31) {h : Hp} {u p kk : Nat → Nat} {n o : Nat} (c : SC h q P S L a H b M s u p kk n o 0) : f_X7_finds_52 F q (nI pl) h = some (nI (b1 (pl < n)), h) := by
  have nL := c.nL
  unfold f_X7_finds_52
  rw [gI_n c.ss.t, c.1.2.1.1]
  by_cases z : pl < n
  · rw [if_neg (nI_ge z (by omega))]
    unfold b1; rw [if_pos z]; rfl
  · rw [if_pos (nI_le (by omega) hpl)]
    unfold b1; rw [if_neg z]; rfl
theorem cc_finds_r (F : Nat) (hF : 100 ≤ F) {q P S L a : Nat} {H : HM} {b M s pl : Nat} (hpl : pl < 2 ^ 31) : ∀ r m (h : Hp) (u p kk : Nat → Nat) (n o : Nat), L ≤ o + r → r < m → SC h q P S L a H b M s u p kk n o 0 → ∃ h' u' p' kk' n' o', f_X7_finds_0 F m q (nI pl) h = some (nI (b1 (pl < n')), h') ∧ F3 q P S h h' ∧ SC h' q P S L a H b M s u' p' kk' n' o' 0 ∧ EX u p kk u' p' kk' n n' ∧ (pl < n' ∨ o' = n') := by
  intro r
  induction r with
  | zero =>
    intro m h u p kk n o hr hm c
    obtain ⟨m, rfl⟩ : ∃ j, m = j + 1 := ⟨m - 1, by omega⟩
    have nL := c.nL
    have on := c.bq.1.2.2.1
    refine ⟨h, u, p, kk, n, o, ?_, F3.rf _ _ _ _, c, EX.rf _ _ _ _, Or.inr (by omega)⟩
    show f_X7_finds_0_b F (f_X7_finds_0 F m) q (nI pl) h = _
    unfold f_X7_finds_0_b
    rw [gI_n c.ss.t, c.2.2.2.1.1, c.ss.g0, c.ss.aP, if_pos (nI_le (by omega) (by omega)), cc_finds_52 F hpl c]
  | succ r ih =>
    intro m h u p kk n o hr hm c
    obtain ⟨m, rfl⟩ : ∃ j, m = j + 1 := ⟨m - 1, by omega⟩
    have nL := c.nL
    have on := c.bq.1.2.2.1
    show ∃ h' u' p' kk' n' o', f_X7_finds_0_b F (f_X7_finds_0 F m) q (nI pl) h = _ ∧ _
    unfold f_X7_finds_0_b
    by_cases z : pl < n ∨ o = n
    · refine ⟨h, u, p, kk, n, o, ?_, F3.rf _ _ _ _, c, EX.rf _ _ _ _, z⟩
      rw [gI_n c.ss.t, c.2.2.2.1.1, c.ss.g0, c.ss.aP]
      by_cases zL : L ≤ o
      · rw [if_pos (nI_le zL (by omega)), cc_finds_52 F hpl c]
      · rw [if_neg (nI_ge (show o < L by omega) (by omega)), gI_n c.ss.t, c.2.2.2.1.1, gI_n c.ss.t, c.1.2.1.1]
        by_cases z3 : n ≤ o
        · rw [if_pos (nI_le z3 (by omega)), cc_finds_52 F hpl c]
        · rw [if_neg (nI_ge (show o < n by omega) (by omega)), gI_n c.ss.t, c.1.2.1.1, if_pos (nI_lt (show pl < n by omega) (by omega)), cc_finds_52 F hpl c]
    · have on2 : o < n := by omega
      obtain ⟨h1, u1, p1, k1, n1, e1, f1, c1, x1⟩ := cc_open F hF c on2
      have o1 : o < n1 := by have := x1.1; omega
      have nL1 := c1.nL
      have c2 : SC (hp_sI h1 q 3 (nI (o + 1))) q P S L a H b M s u1 p1 k1 n1 (o + 1) 0 := by
        obtain ⟨⟨ss, ⟨r1, r2⟩, r3, r4⟩, ⟨c1', c2', c3', c4'⟩, c5', ⟨d1, d2, d3, d4⟩, bq⟩ := c1
        refine ⟨⟨ss.sh (SH.rf _), ⟨?_, r2⟩, ?_, ?_⟩, ⟨c1', c2'.f3 (F3.q (P := P) (S := S)) ss.t c3', c3', c4'⟩, c5', ⟨?_, ?_, ?_, ?_⟩, bq.next o1⟩
        · rw [sI_at, if_neg (by decide)]; exact r1
        · rw [sI_ne _ _ _ (Ne.symm ss.qP)]; exact r3
        · rw [sI_ne _ _ _ (Ne.symm ss.qS)]; exact r4
        · rw [sI_at, if_pos rfl]
        · rw [sI_at, if_neg (by decide)]; exact d2
        · rw [sI_at, if_neg (by decide)]; exact d3
        · rw [sI_at, if_neg (by decide), sI_at, if_neg (by decide)]; exact d4
      obtain ⟨h3, u3, p3, k3, n3, o3, e3, f3, c3, x3, y3⟩ := ih m _ u1 p1 k1 n1 (o + 1) (by omega) (by omega) c2
      rw [gI_n c.ss.t, c.2.2.2.1.1, c.ss.g0, c.ss.aP, if_neg (nI_ge (show o < L by omega) (by omega)), gI_n c.ss.t, c.2.2.2.1.1, gI_n c.ss.t, c.1.2.1.1, if_neg (nI_ge on2 (by omega)), gI_n c.ss.t, c.1.2.1.1, if_neg (fun e => z (Or.inl ((nI_ltI hpl (by omega)).mp e))), gI_n c.ss.t, c.2.2.2.1.1, cV_n c.ss.t e1, gI_n c1.ss.t, c1.2.2.2.1.1, pI_n c1.ss.t, nI_1, e3]
      exact ⟨h3, u3, p3, k3, n3, o3, rfl, (f1.tr F3.q).tr f3, c3, x1.tr x3, y3⟩
theorem cc_finds (F : Nat) (hF : 70000 ≤ F) {h : Hp} {q P S L a : Nat} {H : HM} {b M s pl : Nat} (hpl : pl < 2 ^ 31) {u p kk : Nat → Nat} {n o : Nat} (c : SC h q P S L a H b M s u p kk n o 0) : ∃ h' u' p' kk' n' o', f_X7_finds F q (nI pl) h = some (nI (b1 (pl < n')), h') ∧ F3 q P S h h' ∧ SC h' q P S L a H b M s u' p' kk' n' o' 0 ∧ EX u p kk u' p' kk' n n' ∧ (pl < n' ∨ o' = n') := by
  unfold f_X7_finds
  have := c.nL
  exact cc_finds_r F (by omega) hpl L F h u p kk n o (by omega) (by omega) c
theorem cc_findAll (F : Nat) (hF : 70000 ≤ F) {h : Hp} {q P S L a : Nat} {H : HM} {b M s : Nat} {u p kk : Nat → Nat} {n o : Nat} (c : SC h q P S L a H b M s u p kk n o 0) : ∃ h' u' p' kk' n', f_X7_findAll F q h = some (nI n', h') ∧ F3 q P S h h' ∧ SC h' q P S L a H b M s u' p' kk' n' n' 0 := by
  unfold f_X7_findAll
  have nL := c.nL
  obtain ⟨h1, u1, p1, k1, n1, o1, e1, f1, c1, x1, y1⟩ := cc_finds F hF (pl := L) (by omega) c
  have nL1 := c1.nL
  rw [c.ss.g0, c.ss.aP, cV_n c.ss.t e1, gI_n c1.ss.t, c1.1.2.1.1]
  have : o1 = n1 := by omega
  subst this
  exact ⟨h1, u1, p1, k1, o1, rfl, f1, c1⟩
