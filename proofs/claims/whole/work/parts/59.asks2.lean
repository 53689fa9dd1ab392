/-! L3, the class: needed, can, stands, most, overhears, lists -/
theorem RC.tr {h h1 h2 : Hp} {x a s b : Nat} {ow : Nat → Nat} {hs : Nat → HM} {T : Nat} {os : List Nat} (r : RC h x a s b ow hs T os h1) (k : ∀ ow' T', CV h1 x a s b ow' hs T' → RC h1 x a s b ow' hs T' os h2) : RC h x a s b ow hs T os h2 := by
  obtain ⟨ow1, T1, c1, o1, f1, b1⟩ := r
  obtain ⟨ow2, T2, c2, o2, f2, b2⟩ := k ow1 T1 c1
  exact ⟨ow2, T2, c2, o1.tr f1.1 o2, f1.tr o1 f2, b1.tr b2⟩
theorem RC.mono {h h' : Hp} {x a s b : Nat} {ow : Nat → Nat} {hs : Nat → HM} {T : Nat} {os os' : List Nat} (r : RC h x a s b ow hs T os h') (hm : ∀ o ∈ os, o ∈ os') : RC h x a s b ow hs T os' h' := by
  obtain ⟨ow1, T1, c1, o1, f1, b1⟩ := r
  exact ⟨ow1, T1, c1, o1, f1.mono hm, b1⟩
def OKv (os : List Nat) : Prop := OKs os ∧ ∀ o ∈ os, o ≠ 23 ∧ o ≠ 26 ∧ o ≠ 29 ∧ o ≠ 31 ∧ (o < 200 ∨ 204 ≤ o)
/-- other cells may change -/
theorem CV.fo {h h' : Hp} {x a s b : Nat} {ow : Nat → Nat} {hs : Nat → HM} {T : Nat} {os : List Nat} (c : CV h x a s b ow hs T) (f : FO os ow h h') (ok : OKv os) : CV h' x a s b ow hs T := by
  obtain ⟨k, cb, ho, P1, S1, L1, P2, S2, L2, W, L3, J, L4, s1, s2, l3, l4, rfl⟩ := c
  have oe := OE.rf h ow
  have n : ∀ q, (∀ o ∈ os, o ≠ q) → q ∉ os := fun q hq z => hq q z rfl
  refine ⟨k.oe oe f.1, cb.fo k ho f ok.1, ho.oe oe f.1, P1, S1, L1, P2, S2, L2, W, L3, J, L4, s1.fo k ⟨by decide, by decide, n 23 fun o z => (ok.2 o z).1⟩ f oe (fun o z => ?_), s2.fo k ⟨by decide, by decide, n 26 fun o z => (ok.2 o z).2.1⟩ f oe (fun o z => ?_), l3.fo f oe (k.q 29 ⟨by decide, by decide, n 29 fun o z => (ok.2 o z).2.2.1⟩), l4.fo f oe (k.q 31 ⟨by decide, by decide, n 31 fun o z => (ok.2 o z).2.2.2.1⟩), rfl⟩
  · have a1 := (ok.2 o z).2.2.2.2
    have a2 := (ok.1 o z).2.2
    exact ⟨by omega, by omega, a2⟩
  · have a1 := (ok.2 o z).2.2.2.2
    have a2 := (ok.1 o z).2.2
    exact ⟨by omega, by omega, a2⟩
theorem FO.sL {x k j : Nat} {os : List Nat} {ow : Nat → Nat} {v : Int64} {h : Hp} (ka : KA h x ow) (hk : k < 48 ∧ ct k ≠ 0 ∧ k ∈ os) : FO os ow h (hp_sL h (x + k) j v) := FW.sL (by rw [(ka.1 k hk.1 hk.2.1).1]; exact hk.2.2)
theorem FA.fo {x : Nat} {ks : List Nat} {ow : Nat → Nat} {h h' : Hp} (f : FA x ks h h') (ka : KA h x ow) (hk : ∀ k ∈ ks, k < 48 ∧ ct k ≠ 0) : FO ks ow h h' := f.fw.mono (fun y _ ⟨k, k1, k2⟩ => by rw [k2, (ka.1 k (hk k k1).1 (hk k k1).2).1]; exact k1)
/-- how many there are -/
theorem cb_n (p : Nat → Bool) : ∀ N n (u : Nat → Nat), (∀ i, i < n → u i < N) → (∀ i j, i < n → j < n → u i = u j → i = j) → (∀ v, v < N → (p v = true ↔ ∃ i, i < n ∧ u i = v)) → cb p N = n := by
  intro N
  induction N with
  | zero =>
    intro n u h _ _
    rcases Nat.eq_zero_or_pos n with e | e
    · rw [e]; rfl
    · exact absurd (h 0 e) (by omega)
  | succ N ih =>
    intro n u h hi hp
    show cb p N + b2 (p N) = n
    cases hN : p N with
    | true =>
      obtain ⟨i0, h0, e0⟩ := (hp N (by omega)).mp hN
      have key : ∀ v, v < N → ((∃ i, i < n - 1 ∧ (if i = i0 then u (n - 1) else u i) = v) ↔ ∃ i, i < n ∧ u i = v) := fun v hv => by
        constructor
        · rintro ⟨i, i1, i2⟩
          by_cases e : i = i0
          · rw [if_pos e] at i2; exact ⟨n - 1, by omega, i2⟩
          · rw [if_neg e] at i2; exact ⟨i, by omega, i2⟩
        · rintro ⟨i, i1, i2⟩
          have ne : i ≠ i0 := fun z => by rw [z, e0] at i2; omega
          by_cases e : i = n - 1
          · exact ⟨i0, by omega, by rw [if_pos rfl, ← e]; exact i2⟩
          · exact ⟨i, by omega, by rw [if_neg ne]; exact i2⟩
      have := ih (n - 1) (fun i => if i = i0 then u (n - 1) else u i) (fun i hin => by
        show (if i = i0 then u (n - 1) else u i) < N
        by_cases e : i = i0
        · rw [if_pos e]
          have a := h (n - 1) (by omega)
          have : u (n - 1) ≠ N := fun z => by
            have := hi (n - 1) i0 (by omega) h0 (z.trans e0.symm)
            omega
          omega
        · rw [if_neg e]
          have a := h i (by omega)
          have : u i ≠ N := fun z => e (hi i i0 (by omega) h0 (z.trans e0.symm))
          omega) (fun i j hin hjn => by
        show (if i = i0 then u (n - 1) else u i) = (if j = i0 then u (n - 1) else u j) → i = j
        by_cases e : i = i0
        · by_cases e2 : j = i0
          · intro _; omega
          · rw [if_pos e, if_neg e2]; intro z
            have := hi (n - 1) j (by omega) (by omega) z
            omega
        · by_cases e2 : j = i0
          · rw [if_neg e, if_pos e2]; intro z
            have := hi i (n - 1) (by omega) (by omega) z
            omega
          · rw [if_neg e, if_neg e2]; exact hi i j (by omega) (by omega)) (fun v hv => by rw [hp v (by omega)]; exact (key v hv).symm)
      rw [this]
      show n - 1 + 1 = n
      omega
    | false =>
      show cb p N + 0 = n
      rw [Nat.add_zero]
      exact ih n u (fun i hin => by
        have a := h i hin
        have : u i ≠ N := fun z => by
          have := (hp N (by omega)).mpr ⟨i, hin, z⟩
          rw [hN] at this
          exact absurd this (by decide)
        omega) hi (fun v hv => hp v (by omega))
theorem BQ.count {H : HM} {b M s : Nat} {u p kk : Nat → Nat} {n : Nat} (q : BQ H b M s u p kk n n 0) : cb (rhb H b M s) 65536 = n :=
  cb_n _ 65536 n u (fun i hi => (q.2.1 i hi).1) (fun i j hi hj e => q.2.2.1 i j hi hj e) (fun v _ => by rw [rhb_e, q.all])
theorem GP.np {H : HM} {b M s : Nat} {g : GL} {u p kk : Nat → Nat} {n o k : Nat} {v : Int32} (gp : GP H b M s g u n v) (q : BQ H b M s u p kk n o k) (hn : n ≤ 65536) : (v = -1 ∧ NP H b M g s) ∨ ((0 : Int32) ≤ v ∧ ¬ NP H b M g s) := by
  rcases gp with ⟨g1, g2⟩ | ⟨e, rfl, e1, e2, e3⟩
  · exact Or.inl ⟨g1, (SD.np (SD_none (free := false) g2)).mp rfl⟩
  · refine Or.inr ⟨nI_pos' (by omega), fun z => ?_⟩
    have r := q.row e e1
    exact z (Pp p kk e).reverse (fun k hk => r.2 k (List.mem_reverse.mp hk)) ⟨u e, by rw [pth_rpt, List.reverse_reverse]; exact r.1, e2⟩
theorem cc_stands (F : Nat) (hF : 70000 ≤ F) {h : Hp} {x a s b : Nat} {ow : Nat → Nat} {hs : Nat → HM} {T : Nat} (c : CV h x a s b ow hs T) : ∃ h', f_X11_stands F x h = some (nI (cb (rhb (hs a) b 511 s) 65536), h') ∧ RC h x a s b ow hs T [23, 200, 201] h' := by
  obtain ⟨h3, P, S, L, R, ow', u, p, kk, n, o, e3, c3, oe, cl⟩ := c.beg F hF (Or.inl ⟨rfl, rfl⟩) SK_all
  obtain ⟨h4, u4, p4, k4, n4, e4, f4, c4⟩ := cc_findAll F hF c3
  have w3 := (cl h3 u p kk n o (F3.rf _ _ _ _) c3).1
  have w4 := cl h4 u4 p4 k4 n4 n4 f4 c4
  unfold f_X11_stands
  rw [c.2.1.1.g0 11 23 (by decide), c.2.1.home, c.2.1.now, cV_n (c.2.1.1.t 23 8 (by decide)) e3, w3.2.1.1.g0 11 23 (by decide), cV_n (w3.2.1.1.t 23 8 (by decide)) e4, c4.bq.count]
  exact ⟨h4, rfl, ow', L + R, w4.1, oe, w4.2.1, w4.2.2⟩
theorem cc_can_r (F : Nat) {h : Hp} {x a s b t : Nat} {ow : Nat → Nat} {hs : Nat → HM} {T : Nat} (c : CV h x a s b ow hs T) (ht : t < 2) {P S L : Nat} {u p kk : Nat → Nat} {n : Nat} (sc : SC h (x + 23) P S L a (hs a) b 511 s u p kk n n 0) : ∀ r k m A, k + r = n → r < m → A < 64 → (∀ d, A.testBit d = true ↔ ∃ i, i < k ∧ (dsa (hs a) (u i) t).testBit d = true) → ∃ A', f_X11_can_41 F m x (nI t) (nI n) (nI A) (nI k) h = some (nI A', h) ∧ A' < 64 ∧ ∀ d, A'.testBit d = true ↔ ∃ i, i < n ∧ (dsa (hs a) (u i) t).testBit d = true := by
  have nL := sc.nL
  intro r
  induction r with
  | zero =>
    intro k m A hk hm hA hb
    obtain ⟨m, rfl⟩ : ∃ j, m = j + 1 := ⟨m - 1, by omega⟩
    show ∃ A', f_X11_can_41_b F (f_X11_can_41 F m) x (nI t) (nI n) (nI A) (nI k) h = _ ∧ _
    unfold f_X11_can_41_b
    rw [if_pos (nI_le (by omega) (by omega))]
    exact ⟨A, rfl, hA, by rw [show n = k by omega]; exact hb⟩
  | succ r ih =>
    intro k m A hk hm hA hb
    obtain ⟨m, rfl⟩ : ∃ j, m = j + 1 := ⟨m - 1, by omega⟩
    have kn : k < n := by omega
    have l := dsa_lt c.2.1.hc.2.1 (u k) t
    show ∃ A', f_X11_can_41_b F (f_X11_can_41 F m) x (nI t) (nI n) (nI A) (nI k) h = _ ∧ _
    unfold f_X11_can_41_b
    rw [if_neg (nI_ge kn (by omega)), c.2.1.home, c.2.1.1.g0 11 23 (by decide), cV_n sc.ss.t (sc.agesOf F kn), cV_n c.2.1.hc.t (cc_doneBy F c.2.1.hc (sc.bq.2.1 k kn) ht), lt_e, nx_or, nI_1]
    refine ih (k + 1) m (A ||| dsa (hs a) (u k) t) (by omega) (by omega) (Nat.or_lt_two_pow (n := 6) hA l) (fun d => ?_)
    rw [Nat.testBit_or, Bool.or_eq_true, hb d]
    constructor
    · rintro (⟨i, i1, i2⟩ | z)
      · exact ⟨i, by omega, i2⟩
      · exact ⟨k, by omega, z⟩
    · rintro ⟨i, i1, i2⟩
      by_cases z : i = k
      · rw [z] at i2; exact Or.inr i2
      · exact Or.inl ⟨i, by omega, i2⟩
theorem cc_can (F : Nat) (hF : 70000 ≤ F) {h : Hp} {x a s b : Nat} {ow : Nat → Nat} {hs : Nat → HM} {T : Nat} (c : CV h x a s b ow hs T) (y : Int32) : ∃ v h', f_X11_can F x y h = some (v, h') ∧ A_can (hs a) s b y v ∧ RC h x a s b ow hs T [23, 200, 201] h' := by
  unfold f_X11_can A_can
  rw [cV_n c.2.1.1.t0 (cc_noTwin F x y h)]
  cases hy : vi y 2 with
  | none => rw [if_neg nbs1]; exact ⟨_, h, rfl, rfl, RC.rf c _⟩
  | some t =>
    obtain ⟨t1, rfl⟩ := vi_some hy
    obtain ⟨h3, P, S, L, R, ow', u, p, kk, n, o, e3, c3, oe, cl⟩ := c.beg F hF (Or.inl ⟨rfl, rfl⟩) SK_all
    obtain ⟨h4, u4, p4, k4, n4, e4, f4, c4⟩ := cc_findAll F hF c3
    have w3 := (cl h3 u p kk n o (F3.rf _ _ _ _) c3).1
    have w4 := cl h4 u4 p4 k4 n4 n4 f4 c4
    have nL := c4.nL
    obtain ⟨A, a1, a2, a3⟩ := cc_can_r F w4.1 t1 c4 n4 0 F 0 (by omega) (by omega) (by decide) (fun d => ⟨fun z => by simp at z, fun ⟨i, i1, _⟩ => absurd i1 (by omega)⟩)
    rw [if_pos (nbs0 t), c.2.1.1.g0 11 23 (by decide), c.2.1.home, c.2.1.now, cV_n (c.2.1.1.t 23 8 (by decide)) e3, w3.2.1.1.g0 11 23 (by decide), cV_n (w3.2.1.1.t 23 8 (by decide)) e4, show f_X11_can_41 F F x (nI t) (nI n4) 0 0 h4 = _ from a1]
    refine ⟨_, h4, rfl, ⟨A, a2, rfl, fun d => ?_⟩, ow', L + R, w4.1, oe, w4.2.1, w4.2.2⟩
    rw [a3 d]
    constructor
    · rintro ⟨i, i1, i2⟩; exact ⟨u4 i, c4.bq.all.mpr ⟨i, i1, rfl⟩, i2⟩
    · rintro ⟨w, w1, w2⟩
      obtain ⟨i, i1, rfl⟩ := c4.bq.all.mp w1
      exact ⟨i, i1, w2⟩
theorem jmax (F : Nat) {A B : Nat} (hA : A < 2 ^ 31) (hB : B < 2 ^ 31) (h : Hp) : f_J9_max_7cf53 F (nI A) (nI B) h = some (nI (max A B), h) := by
  unfold f_J9_max_7cf53
  by_cases z : A < B
  · rw [if_pos (nI_lt z hB), Nat.max_eq_right (by omega)]
  · rw [if_neg (fun e => z ((nI_ltI hA hB).mp e)), Nat.max_eq_left (by omega)]
theorem jmin (F : Nat) {A B : Nat} (hA : A < 2 ^ 31) (hB : B < 2 ^ 31) (h : Hp) : f_J9_min_7cf53 F (nI A) (nI B) h = some (nI (min A B), h) := by
  unfold f_J9_min_7cf53
  by_cases z : B < A
  · rw [if_pos (nI_lt z hA), Nat.min_eq_right (by omega)]
  · rw [if_neg (fun e => z ((nI_ltI hB hA).mp e)), Nat.min_eq_left (by omega)]
theorem pb2_le (H : HM) (s : Nat) : pb2 H s ≤ 20 := by
  have := pc_le (dsa H s 0)
  have := pc_le (dsa H s 1)
  unfold pb2
  omega
theorem cc_most_r (F : Nat) {h : Hp} {x a s b : Nat} {ow : Nat → Nat} {hs : Nat → HM} {T : Nat} (c : CV h x a s b ow hs T) {P S L : Nat} {u p kk : Nat → Nat} {n : Nat} (sc : SC h (x + 23) P S L a (hs a) b 511 s u p kk n n 0) : ∀ r k m A, k + r = n → r < m → A ≤ 20 → (∀ i, i < k → pb2 (hs a) (u i) ≤ A) → (A = 0 ∨ ∃ i, i < k ∧ pb2 (hs a) (u i) = A) → ∃ A', f_X11_most_29 F m x (nI n) (nI A) (nI k) h = some (nI A', h) ∧ A' ≤ 20 ∧ (∀ i, i < n → pb2 (hs a) (u i) ≤ A') ∧ (A' = 0 ∨ ∃ i, i < n ∧ pb2 (hs a) (u i) = A') := by
  have nL := sc.nL
  intro r
  induction r with
  | zero =>
    intro k m A hk hm hA h1 h2
    obtain ⟨m, rfl⟩ : ∃ j, m = j + 1 := ⟨m - 1, by omega⟩
    show ∃ A', f_X11_most_29_b F (f_X11_most_29 F m) x (nI n) (nI A) (nI k) h = _ ∧ _
    unfold f_X11_most_29_b
    rw [if_pos (nI_le (by omega) (by omega))]
    exact ⟨A, rfl, hA, by rw [show n = k by omega]; exact h1, by rw [show n = k by omega]; exact h2⟩
  | succ r ih =>
    intro k m A hk hm hA h1 h2
    obtain ⟨m, rfl⟩ : ∃ j, m = j + 1 := ⟨m - 1, by omega⟩
    have kn : k < n := by omega
    have l := pb2_le (hs a) (u k)
    show ∃ A', f_X11_most_29_b F (f_X11_most_29 F m) x (nI n) (nI A) (nI k) h = _ ∧ _
    unfold f_X11_most_29_b
    rw [if_neg (nI_ge kn (by omega)), c.2.1.home, c.2.1.1.g0 11 23 (by decide), cV_n sc.ss.t (sc.agesOf F kn), cV_n c.2.1.hc.t (cc_doneByBoth F c.2.1.hc (sc.bq.2.1 k kn)), bd_n (jmax F (by omega) (by omega) h), nI_1]
    refine ih (k + 1) m (max A (pb2 (hs a) (u k))) (by omega) (by omega) (by omega) (fun i hi => ?_) ?_
    · by_cases z : i = k
      · rw [z]; omega
      · have := h1 i (by omega); omega
    · rcases Nat.le_total A (pb2 (hs a) (u k)) with z | z
      · right; exact ⟨k, by omega, by omega⟩
      · rcases h2 with e | ⟨i, i1, i2⟩
        · left; omega
        · right; exact ⟨i, by omega, by omega⟩
theorem cc_most (F : Nat) (hF : 70000 ≤ F) {h : Hp} {x a s b : Nat} {ow : Nat → Nat} {hs : Nat → HM} {T : Nat} (c : CV h x a s b ow hs T) : ∃ v h', f_X11_most F x h = some (v, h') ∧ A_most (hs a) s b v ∧ RC h x a s b ow hs T [23, 200, 201] h' := by
  obtain ⟨h3, P, S, L, R, ow', u, p, kk, n, o, e3, c3, oe, cl⟩ := c.beg F hF (Or.inl ⟨rfl, rfl⟩) SK_all
  obtain ⟨h4, u4, p4, k4, n4, e4, f4, c4⟩ := cc_findAll F hF c3
  have w3 := (cl h3 u p kk n o (F3.rf _ _ _ _) c3).1
  have w4 := cl h4 u4 p4 k4 n4 n4 f4 c4
  have nL := c4.nL
  obtain ⟨A, a1, a2, a3, a4⟩ := cc_most_r F w4.1 c4 n4 0 F 0 (by omega) (by omega) (by omega) (fun i hi => absurd hi (by omega)) (Or.inl rfl)
  unfold f_X11_most
  rw [c.2.1.1.g0 11 23 (by decide), c.2.1.home, c.2.1.now, cV_n (c.2.1.1.t 23 8 (by decide)) e3, w3.2.1.1.g0 11 23 (by decide), cV_n (w3.2.1.1.t 23 8 (by decide)) e4, show f_X11_most_29 F F x (nI n4) 0 0 h4 = _ from a1]
  refine ⟨_, h4, rfl, ⟨A, a2, rfl, fun w hw => ?_, ?_⟩, ow', L + R, w4.1, oe, w4.2.1, w4.2.2⟩
  · obtain ⟨i, i1, rfl⟩ := c4.bq.all.mp hw
    exact a3 i i1
  · rcases a4 with e | ⟨i, i1, i2⟩
    · exact Or.inl e
    · exact Or.inr ⟨u4 i, c4.bq.all.mpr ⟨i, i1, rfl⟩, i2⟩
/-! what is overheard -/
def andn (A k : Nat) : Nat := A &&& (15 - k)
theorem andn_e : ∀ A, A < 16 → ∀ k, k < 16 → nI A &&& (nI k ^^^ (-1)) = nI (andn A k) ∧ andn A k < 16 ∧ ∀ g, g < 4 → (andn A k).testBit g = (A.testBit g && !k.testBit g) := by decide +kernel
theorem kwm {H : HM} {s t : Nat} (hs : STok H s) (ht : t < 2) (h4 : hm_f H ≤ 4) : msk (kwb s t) (hm_f H) < 16 ∧ ∀ f, f < 4 → ((msk (kwb s t) (hm_f H)).testBit f = true ↔ 0 < dg s (4 * t + f)) := by
  have l := msk_lt (kwb s t) (hm_f H)
  have p : 2 ^ hm_f H ≤ 2 ^ 4 := Nat.pow_le_pow_right (by decide) h4
  refine ⟨by omega, fun f hf => ?_⟩
  by_cases z : f < hm_f H
  · rw [msk_tb _ _ z]; unfold kwb; exact decide_eq_true_iff
  · rw [Nat.testBit_lt_two_pow (Nat.lt_of_lt_of_le l (Nat.pow_le_pow_right (by decide) (by omega))), hs.2 t f ht hf (by omega)]
    exact ⟨fun z => absurd z (by decide), fun z => by omega⟩
theorem cc_over_r (F : Nat) (hF : 100 ≤ F) {h : Hp} {x a s b t M : Nat} {ow : Nat → Nat} {hs : Nat → HM} {T : Nat} (c : CV h x a s b ow hs T) (ht : t < 2) {P S L : Nat} {u p kk : Nat → Nat} {n : Nat} (sc : SC h (x + 26) P S L a (hs a) b M s u p kk n n 0) : ∀ r k m A, k + r = n → r < m → A < 16 → (∀ f, f < 4 → (A.testBit f = true ↔ ∃ i, i < k ∧ 0 < dg (u i) (4 * t + f))) → ∃ A', f_X11_overhears_41 F m x (nI t) (nI n) (nI A) (nI k) h = some (nI A', h) ∧ A' < 16 ∧ ∀ f, f < 4 → (A'.testBit f = true ↔ (∃ i, i < n ∧ 0 < dg (u i) (4 * t + f)) ∧ dg s (4 * t + f) = 0) := by
  have nL := sc.nL
  have h4 := c.2.1.hc.f4
  intro r
  induction r with
  | zero =>
    intro k m A hk hm hA hb
    obtain ⟨m, rfl⟩ : ∃ j, m = j + 1 := ⟨m - 1, by omega⟩
    show ∃ A', f_X11_overhears_41_b F (f_X11_overhears_41 F m) x (nI t) (nI n) (nI A) (nI k) h = _ ∧ _
    unfold f_X11_overhears_41_b
    have w := kwm c.2.1.ok ht h4
    obtain ⟨a1, a2, a3⟩ := andn_e A hA _ w.1
    rw [if_pos (nI_le (by omega) (by omega)), c.2.1.home, c.2.1.now, c.2.1.ages, cV_n c.2.1.hc.t (cc_knownBits F hF c.2.1.hc ht), a1]
    refine ⟨_, rfl, a2, fun f hf => ?_⟩
    have hk2 : k = n := by omega
    rw [a3 f hf, Bool.and_eq_true, hb f hf, hk2]
    have wf := w.2 f hf
    constructor
    · rintro ⟨z1, z2⟩
      refine ⟨z1, ?_⟩
      by_cases q : 0 < dg s (4 * t + f)
      · rw [wf.mpr q] at z2; exact absurd z2 (by decide)
      · omega
    · rintro ⟨z1, z2⟩
      refine ⟨z1, ?_⟩
      cases hq : (msk (kwb s t) (hm_f (hs a))).testBit f with
      | false => rfl
      | true => have := wf.mp hq; omega
  | succ r ih =>
    intro k m A hk hm hA hb
    obtain ⟨m, rfl⟩ : ∃ j, m = j + 1 := ⟨m - 1, by omega⟩
    have kn : k < n := by omega
    have w := kwm (sc.bq.2.1 k kn) ht h4
    show ∃ A', f_X11_overhears_41_b F (f_X11_overhears_41 F m) x (nI t) (nI n) (nI A) (nI k) h = _ ∧ _
    unfold f_X11_overhears_41_b
    rw [if_neg (nI_ge kn (by omega)), c.2.1.home, c.2.1.1.g0 12 26 (by decide), cV_n sc.ss.t (sc.agesOf F kn), cV_n c.2.1.hc.t (cc_knownBits F hF c.2.1.hc ht), lt_e, nx_or, nI_1]
    refine ih (k + 1) m (A ||| msk (kwb (u k) t) (hm_f (hs a))) (by omega) (by omega) (Nat.or_lt_two_pow (n := 4) hA w.1) (fun f hf => ?_)
    rw [Nat.testBit_or, Bool.or_eq_true, hb f hf, w.2 f hf]
    constructor
    · rintro (⟨i, i1, i2⟩ | z)
      · exact ⟨i, by omega, i2⟩
      · exact ⟨k, by omega, z⟩
    · rintro ⟨i, i1, i2⟩
      by_cases z : i = k
      · rw [z] at i2; exact Or.inr i2
      · exact Or.inl ⟨i, by omega, i2⟩
theorem cc_overhears (F : Nat) (hF : 70000 ≤ F) {h : Hp} {x a s b : Nat} {ow : Nat → Nat} {hs : Nat → HM} {T : Nat} (c : CV h x a s b ow hs T) (y : Int32) : ∃ v h', f_X11_overhears F x y h = some (v, h') ∧ A_over (hs a) s b y v ∧ RC h x a s b ow hs T [26, 202, 203] h' := by
  unfold f_X11_overhears A_over
  rw [cV_n c.2.1.1.t0 (cc_noTwin F x y h)]
  cases hy : vi y 2 with
  | none => rw [if_neg nbs1]; exact ⟨_, h, rfl, rfl, RC.rf c _⟩
  | some t =>
    obtain ⟨t1, rfl⟩ := vi_some hy
    obtain ⟨h3, P, S, L, R, ow', u, p, kk, n, o, e3, c3, oe, cl⟩ := c.beg F hF (q := 26) (e := 202) (Or.inr ⟨rfl, rfl⟩) (SK_t t1)
    obtain ⟨h4, u4, p4, k4, n4, e4, f4, c4⟩ := cc_findAll F hF c3
    have w3 := (cl h3 u p kk n o (F3.rf _ _ _ _) c3).1
    have w4 := cl h4 u4 p4 k4 n4 n4 f4 c4
    have nL := c4.nL
    obtain ⟨A, a1, a2, a3⟩ := cc_over_r F (by omega) w4.1 t1 c4 n4 0 F 0 (by omega) (by omega) (by decide) (fun d _ => ⟨fun z => by simp at z, fun ⟨i, i1, _⟩ => absurd i1 (by omega)⟩)
    rw [if_pos (nbs0 t), c.2.1.1.g0 12 26 (by decide), c.2.1.home, c.2.1.now, cV_n (c.2.1.1.t 26 8 (by decide)) e3, w3.2.1.1.g0 12 26 (by decide), cV_n (w3.2.1.1.t 26 8 (by decide)) e4, show f_X11_overhears_41 F F x (nI t) (nI n4) 0 0 h4 = _ from a1]
    refine ⟨_, h4, rfl, ⟨A, a2, rfl, fun f hf => ?_⟩, ow', L + R, w4.1, oe, w4.2.1, w4.2.2⟩
    rw [a3 f hf]
    constructor
    · rintro ⟨⟨i, i1, i2⟩, z⟩; exact ⟨⟨u4 i, c4.bq.all.mpr ⟨i, i1, rfl⟩, i2⟩, z⟩
    · rintro ⟨⟨w, w1, w2⟩, z⟩
      obtain ⟨i, i1, rfl⟩ := c4.bq.all.mp w1
      exact ⟨⟨i, i1, w2⟩, z⟩
/-! what one can't do without -/
theorem cc_needed_r (F : Nat) (hF : 70000 ≤ F) {x a s b : Nat} {hs : Nat → HM} {g1 g2 : Nat} (h1 : g1 < 64) (h2 : g2 < 64) : ∀ r k m (h : Hp) (ow : Nat → Nat) (T : Nat), CV h x a s b ow hs T → k + r = hm_f (hs a) → r < m → ∃ h', f_X11_needed_35 F m x (nI g1) (nI g2) (nI (msk (npb (hs a) b (.inl (g1, g2)) s) k)) (nI k) h = some (nI (msk (npb (hs a) b (.inl (g1, g2)) s) (hm_f (hs a))), h') ∧ RC h x a s b ow hs T [26, 202, 203] h' := by
  intro r
  induction r with
  | zero =>
    intro k m h ow T c hk hm
    obtain ⟨m, rfl⟩ : ∃ j, m = j + 1 := ⟨m - 1, by omega⟩
    have h4 := c.2.1.hc.f4
    show ∃ h', f_X11_needed_35_b F (f_X11_needed_35 F m) x (nI g1) (nI g2) _ (nI k) h = _ ∧ _
    unfold f_X11_needed_35_b
    rw [c.2.1.home, c.2.1.hc.fs, if_pos (nI_le (by omega) (by omega)), show k = hm_f (hs a) by omega]
    exact ⟨h, rfl, RC.rf c _⟩
  | succ r ih =>
    intro k m h ow T c hk hm
    obtain ⟨m, rfl⟩ : ∃ j, m = j + 1 := ⟨m - 1, by omega⟩
    have h4 := c.2.1.hc.f4
    obtain ⟨h3, P, S, L, R, ow', u, p, kk, n, o, e3, c3, oe, cl⟩ := c.beg F hF (q := 26) (e := 202) (Or.inr ⟨rfl, rfl⟩) (SK_f (show k < 4 by omega))
    obtain ⟨v, h5, u5, p5, k5, n5, o5, e5, f5, c5, g5⟩ := cc_firstAtGoal F hF h1 h2 c3
    have w3 := (cl h3 u p kk n o (F3.rf _ _ _ _) c3).1
    have w5 := cl h5 u5 p5 k5 n5 o5 f5 c5
    have gp := GP.np g5 c5.bq (by have := c5.nL; omega)
    obtain ⟨h6, e6, r6⟩ := ih (k + 1) m h5 ow' (L + R) w5.1 (by omega) (by omega)
    have rc : RC h x a s b ow hs T [26, 202, 203] h6 := by
      obtain ⟨ow6, T6, c6, o6, f6, b6⟩ := r6
      exact ⟨ow6, T6, c6, oe.tr w5.2.1.1 o6, w5.2.1.tr oe f6, w5.2.2.tr b6⟩
    have em := or_msk (p := npb (hs a) b (.inl (g1, g2)) s) (n := k) (by omega)
    show ∃ h', f_X11_needed_35_b F (f_X11_needed_35 F m) x (nI g1) (nI g2) _ (nI k) h = _ ∧ _
    unfold f_X11_needed_35_b f_X11_needed_84
    rw [c.2.1.home, c.2.1.hc.fs, if_neg (nI_ge (by omega) (by omega)), c.2.1.1.g0 12 26 (by decide), c.2.1.home, c.2.1.now, cV_n (c.2.1.1.t 26 8 (by decide)) e3, w3.2.1.1.g0 12 26 (by decide), cV_n (w3.2.1.1.t 26 8 (by decide)) e5, lt_e, nI_1, shl1 k (by omega)]
    rcases gp with ⟨rfl, np⟩ | ⟨v0, np⟩
    · rw [if_pos (npb_e.mpr np)] at em
      rw [if_neg (by decide), em]
      exact ⟨h6, e6, rc⟩
    · have nf : npb (hs a) b (.inl (g1, g2)) s k = false := by
        cases z : npb (hs a) b (.inl (g1, g2)) s k with
        | false => rfl
        | true => exact absurd (npb_e.mp z) np
      rw [if_pos v0, msk_s nf]
      exact ⟨h6, e6, rc⟩
theorem cc_needed (F : Nat) (hF : 70000 ≤ F) {h : Hp} {x a s b : Nat} {ow : Nat → Nat} {hs : Nat → HM} {T : Nat} (c : CV h x a s b ow hs T) (y z : Int32) : ∃ v h', f_X11_needed F x y z h = some (v, h') ∧ A_needed (hs a) s b y z v ∧ RC h x a s b ow hs T [23, 200, 201, 26, 202, 203] h' := by
  unfold f_X11_needed A_needed
  rw [cc_sets F c.2.1 y z (fun h => some (-3, h)) (fun h5 => cV 12 h5 x (f_X11_endOfComing F x y z h5) fun v7 h8 => if 0 ≤ v7 then (f_X11_needed_35 F F x y z 0 0 h8) else (some (0, h8)))]
  cases hq : gsets (hs a) y z with
  | none => exact ⟨_, h, rfl, rfl, RC.rf c _⟩
  | some q =>
    obtain ⟨rfl, rfl, q1, q2⟩ := gsets_some c.2.1.hc.d6 hq
    obtain ⟨v, h2, P, S, L, u, p, kk, n, o, ow', T', e2, sc, gp, cv, oe, fo, bu⟩ := cc_endOfComing F hF c q1 q2
    have rc : RC h x a s b ow hs T [23, 200, 201, 26, 202, 203] h2 := ⟨ow', T', cv, oe, fo.mono (by decide), bu⟩
    dsimp only
    rw [cV_n c.2.1.1.t0 e2]
    rcases gp.np sc.bq (by have := sc.nL; omega) with ⟨rfl, np⟩ | ⟨v0, np⟩
    · rw [if_neg (by decide)]
      exact ⟨_, h2, rfl, Or.inl ⟨np, rfl⟩, rc⟩
    · obtain ⟨h3, e3, r3⟩ := cc_needed_r F hF q1 q2 (hm_f (hs a)) 0 F h2 ow' T' cv (by omega) (by have := c.2.1.hc.f4; omega)
      rw [if_pos v0, show f_X11_needed_35 F F x (nI q.1) (nI q.2) 0 0 h2 = _ from e3]
      refine ⟨_, h3, rfl, Or.inr ⟨np, rfl⟩, ?_⟩
      obtain ⟨ow6, T6, c6, o6, f6, b6⟩ := r3
      exact ⟨ow6, T6, c6, oe.tr fo.1 o6, FO.tr (fo.mono (by decide)) oe (f6.mono (by decide)), bu.tr b6⟩
