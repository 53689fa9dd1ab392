/-! L3, the class: who was told -/
theorem cb_s {p : Nat → Bool} : ∀ q r, (∀ j, r ≤ j → j < r + q → p j = false) → cb p (r + q) = cb p r := by
  intro q
  induction q with
  | zero => intro r _; rfl
  | succ q ih =>
    intro r h
    show cb p (r + q) + b2 (p (r + q)) = cb p r
    rw [ih r (fun j h1 h2 => h j h1 (by omega)), h (r + q) (by omega) (by omega)]; rfl
/-- what the rows below r1 say -/
def WI (h : Hp) (q N : Nat) (p : Nat → Bool) (r1 : Nat) : Prop := hp_I h q 0 = nI (cb p r1) ∧ (((∀ r, r < r1 → p r = false) ∧ hp_I h q 2 = 0 ∧ hp_I h q 3 = 0) ∨ ∃ r, r < r1 ∧ p r = true ∧ (∀ r', r' < r → p r' = false) ∧ (∃ w, hp_I h q 1 = nI w ∧ w < 2 ^ N ∧ ∀ i, i < N → w.testBit i = r.testBit (N - 1 - i)) ∧ (∃ n, hp_I h q 2 = nI n ∧ n < 2 ^ N ∧ ∀ i, i < N → (n.testBit i = true ↔ ∀ r, r < r1 → p r = true → r.testBit (N - 1 - i) = false)) ∧ ∃ n, hp_I h q 3 = nI n ∧ n < 2 ^ N ∧ ∀ i, i < N → (n.testBit i = true ↔ ∀ r, r < r1 → p r = true → r.testBit (N - 1 - i) = true))
theorem WI.skip {h : Hp} {q N : Nat} {p : Nat → Bool} {r1 k : Nat} (w : WI h q N p r1) (hp : ∀ j, r1 ≤ j → j < r1 + k → p j = false) : WI h q N p (r1 + k) := by
  obtain ⟨w1, w2⟩ := w
  refine ⟨by rw [cb_s k r1 hp]; exact w1, ?_⟩
  have key : ∀ (P : Nat → Prop), (∀ r, r < r1 + k → p r = true → P r) ↔ (∀ r, r < r1 → p r = true → P r) := fun P => ⟨fun z r h1 h2 => z r (by omega) h2, fun z r h1 h2 => by
    by_cases y : r < r1
    · exact z r y h2
    · rw [hp r (by omega) h1] at h2; exact absurd h2 (by decide)⟩
  rcases w2 with ⟨a1, a2, a3⟩ | ⟨r, a1, a2, a3, a4, ⟨n, b1, b2, b3⟩, n', c1, c2, c3⟩
  · left
    refine ⟨fun r hr => ?_, a2, a3⟩
    by_cases y : r < r1
    · exact a1 r y
    · exact hp r (by omega) hr
  · right
    exact ⟨r, by omega, a2, a3, a4, ⟨n, b1, b2, fun i hi => by rw [b3 i hi, key]⟩, n', c1, c2, fun i hi => by rw [c3 i hi, key]⟩
theorem WI.cg {h h' : Hp} {q N : Nat} {p : Nat → Bool} {r1 : Nat} (w : WI h q N p r1) (e : hp_I h' q = hp_I h q) : WI h' q N p r1 := by
  unfold WI
  rw [e]; exact w
def WK (h : Hp) (q a tq : Nat) (H : HM) (b N : Nat) (ce : Nat → Int64) (A C : Nat) : Prop := (hp_t h q = 11 ∧ hp_R h q 4 = some a ∧ hp_R h q 6 = some tq) ∧ HC h a H ∧ TY h tq N ce ∧ (hp_I h q 5 = nI b ∧ hp_I h q 7 = nI A ∧ hp_I h q 8 = nI C) ∧ b < 10 ∧ A < 64 ∧ C < 64
theorem WK.fq {h h' : Hp} {q a tq : Nat} {H : HM} {b N : Nat} {ce : Nat → Int64} {A C : Nat} (c : WK h q a tq H b N ce A C) (f : FQ q h h') (e : hp_I h' q 5 = hp_I h q 5 ∧ hp_I h' q 7 = hp_I h q 7 ∧ hp_I h' q 8 = hp_I h q 8) : WK h' q a tq H b N ce A C := by
  obtain ⟨⟨a1, a2, a3⟩, c1, t1, ⟨i1, i2, i3⟩, r⟩ := c
  refine ⟨⟨by rw [f.1.1]; exact a1, by rw [f.1.2.2.1]; exact a2, by rw [f.1.2.2.1]; exact a3⟩, c1.cg (fun k _ => by rw [f.1.1, f.1.2.1]; exact ⟨rfl, rfl⟩) (by rw [f.1.2.2.1]) (fun k hk => f.2.2 _ (fun z => ?_)), t1.cg f.1 (f.2.2 _ (fun z => ?_)) f.2.1, ⟨by rw [e.1]; exact i1, by rw [e.2.1]; exact i2, by rw [e.2.2]; exact i3⟩, r⟩
  · rcases Nat.eq_zero_or_pos k with y | y
    · have := c1.t
      rw [show a = q by omega, a1] at this
      exact absurd this (by decide)
    · have := (c1.1.2 k y hk).2.1
      rw [z, a1] at this
      exact absurd this (by decide)
  · obtain ⟨tc, r1, -⟩ := t1
    rw [z, a1] at r1
    exact absurd r1 (by decide)
theorem tb_xor {N w i : Nat} (hw : w < 2 ^ N) (hi : i < N) : (2 ^ N - 1 - w).testBit i = !w.testBit i := by
  rw [show 2 ^ N - 1 - w = 2 ^ N - (w + 1) by omega, Nat.testBit_two_pow_sub_succ hw, decide_eq_true hi, Bool.true_and]
theorem others_e {N w : Nat} (hN : N ≤ 10) (hw : w < 2 ^ N) : ((((1 : Int32) <<< (nI N &&& 31)) - 1) &&& (nI w ^^^ (-1))) = nI (2 ^ N - 1 - w) := by
  have p := p2_10 hN
  have p0 : 0 < 2 ^ N := Nat.pow_pos (by decide)
  rw [shl1 N (by omega), show nI (2 ^ N) - 1 = nI (2 ^ N - 1) from pk_sub (b := 1) (by omega)]
  refine b_ext fun i hi => ?_
  rw [b_and, b_xor, b_m1 i hi, bt_nI hi, bt_nI hi, bt_nI hi, Nat.testBit_two_pow_sub_one, Bool.xor_true]
  by_cases z : i < N
  · rw [decide_eq_true z, Bool.true_and, tb_xor hw z]
  · rw [decide_eq_false z, Bool.false_and, Nat.testBit_lt_two_pow (Nat.lt_of_lt_of_le (show 2 ^ N - 1 - w < 2 ^ N by omega) (Nat.pow_le_pow_right (by decide) (by omega)))]
/-- one more row is told so -/
theorem cc_weigh58 (F : Nat) {h h0 : Hp} {q N : Nat} {p : Nat → Bool} {r1 w : Nat} (hN : N ≤ 10) (t : hp_t h q = 11) (hw : w < 2 ^ N) (hb : ∀ i, i < N → w.testBit i = r1.testBit (N - 1 - i)) (hp : p r1 = true) (h0' : hp_I h q 0 = nI (cb p r1)) {n2 n3 : Nat} (e1 : ∃ r, r < r1 + 1 ∧ p r = true ∧ (∀ r', r' < r → p r' = false) ∧ ∃ w, hp_I h q 1 = nI w ∧ w < 2 ^ N ∧ ∀ i, i < N → w.testBit i = r.testBit (N - 1 - i)) (e2 : hp_I h q 2 = nI n2 ∧ ∀ i, i < N → (n2.testBit i = true ∧ r1.testBit (N - 1 - i) = false ↔ ∀ r, r < r1 + 1 → p r = true → r.testBit (N - 1 - i) = false)) (e3 : hp_I h q 3 = nI n3 ∧ ∀ i, i < N → (n3.testBit i = true ∧ r1.testBit (N - 1 - i) = true ↔ ∀ r, r < r1 + 1 → p r = true → r.testBit (N - 1 - i) = true)) : ∃ h', f_X10_weigh_58 F q (nI w) (nI (2 ^ N - 1 - w)) h = some ((), h') ∧ FQ q h h' ∧ (hp_I h' q 5 = hp_I h q 5 ∧ hp_I h' q 7 = hp_I h q 7 ∧ hp_I h' q 8 = hp_I h q 8) ∧ WI h' q N p (r1 + 1) := by
  have p2 := p2_10 hN
  unfold f_X10_weigh_58
  rw [gI_n t, e2.1, nx_and, pI_n t, gI_n (show hp_t (hp_sI h q 2 _) q = 11 from t), sI_at, if_neg (by decide), e3.1, nx_and, pI_n (show hp_t (hp_sI h q 2 _) q = 11 from t), gI_n (show hp_t (hp_sI (hp_sI h q 2 _) q 3 _) q = 11 from t), sI_at, if_neg (by decide), sI_at, if_neg (by decide), h0', nI_1, pI_n (show hp_t (hp_sI (hp_sI h q 2 _) q 3 _) q = 11 from t)]
  refine ⟨_, rfl, (FQ.sI.tr FQ.sI).tr FQ.sI, ⟨?_, ?_, ?_⟩, ?_, Or.inr ?_⟩
  · rw [sI_at, if_neg (by decide), sI_at, if_neg (by decide), sI_at, if_neg (by decide)]
  · rw [sI_at, if_neg (by decide), sI_at, if_neg (by decide), sI_at, if_neg (by decide)]
  · rw [sI_at, if_neg (by decide), sI_at, if_neg (by decide), sI_at, if_neg (by decide)]
  · rw [sI_at, if_pos rfl]
    show _ = nI (cb p r1 + b2 (p r1))
    rw [hp]; rfl
  · obtain ⟨r, a1, a2, a3, w', b1, b2, b3⟩ := e1
    refine ⟨r, a1, a2, a3, ⟨w', ?_, b2, b3⟩, ⟨n2 &&& (2 ^ N - 1 - w), ?_, Nat.lt_of_le_of_lt Nat.and_le_right (by have : 0 < 2 ^ N := Nat.pow_pos (by decide); omega), fun i hi => ?_⟩, n3 &&& w, ?_, Nat.lt_of_le_of_lt Nat.and_le_right hw, fun i hi => ?_⟩
    · rw [sI_at, if_neg (by decide), sI_at, if_neg (by decide), sI_at, if_neg (by decide)]; exact b1
    · rw [sI_at, if_neg (by decide), sI_at, if_neg (by decide), sI_at, if_pos rfl]
    · rw [Nat.testBit_and, tb_xor hw hi, Bool.and_eq_true, hb i hi, ← e2.2 i hi, Bool.not_eq_true']
    · rw [sI_at, if_neg (by decide), sI_at, if_pos rfl]
    · rw [Nat.testBit_and, Bool.and_eq_true, hb i hi, ← e3.2 i hi]
theorem cc_weigh (F : Nat) {h : Hp} {q a tq : Nat} {H : HM} {b N : Nat} {ce : Nat → Int64} {A C v w r1 : Nat} {p : Nat → Bool} (hN : N ≤ 10) (c : WK h q a tq H b N ce A C) (ok : STok H v) (wi : WI h q N p r1) (hw : w < 2 ^ N) (hb : ∀ i, i < N → w.testBit i = r1.testBit (N - 1 - i)) (hp : p r1 = (decide (dsa H v 0 = A) && decide (dsa H v 1 = C))) (hr1 : r1 < 2 ^ N) : ∃ h', f_X10_weigh F q (nI (cs v)) (nI w) h = some ((), h') ∧ FQ q h h' ∧ WK h' q a tq H b N ce A C ∧ WI h' q N p (r1 + 1) := by
  have cc := c
  obtain ⟨⟨a1, a2, a3⟩, c1, t1, ⟨i1, i2, i3⟩, hb10, hA, hC⟩ := c
  obtain ⟨tc, r1', r2, r3, r4, r5, r6, r7⟩ := t1
  unfold f_X10_weigh
  rw [gR_n a1 a2, gI_n a1, i2, gI_n a1, i3, cV_n c1.t (cc_doJust F c1 ok hA hC), ← hp]
  cases hz : p r1 with
  | false =>
    rw [if_pos (show nI (b2 false) = 0 by decide)]
    exact ⟨h, rfl, FQ.rf _ _, cc, wi.skip (k := 1) (fun j h1 h2 => by rw [show j = r1 by omega]; exact hz)⟩
  | true =>
    rw [if_neg (show ¬ nI (b2 true) = 0 by decide), gR_n a1 a3, gI_n r1', r5, others_e hN hw, lt_e, gI_n a1, wi.1]
    have all1 : ∀ (P : Nat → Prop), (∀ r, r < r1 + 1 → p r = true → P r) ↔ ((∀ r, r < r1 → p r = true → P r) ∧ P r1) := fun P => ⟨fun z => ⟨fun r h1 h2 => z r (by omega) h2, z r1 (by omega) hz⟩, fun z r h1 h2 => by
      by_cases y : r = r1
      · rw [y]; exact z.2
      · exact z.1 r (by omega) h2⟩
    rcases wi.2 with ⟨d1, d2, d3⟩ | ⟨r, d1, d2, d3, d4, ⟨n, n1, n2, n3⟩, m, m1, m2, m3⟩
    · have c0 : cb p r1 = 0 := by
        have := cb_s (p := p) r1 0 (fun j _ h2 => d1 j (by omega))
        rw [Nat.zero_add] at this
        rw [this]; rfl
      rw [if_pos (show nI (cb p r1) = 0 by rw [c0]; rfl), pI_n a1, pI_n (show hp_t (hp_sI h q 1 _) q = 11 from a1), pI_n (show hp_t (hp_sI (hp_sI h q 1 _) q 2 _) q = 11 from a1)]
      obtain ⟨h', e', f', g', w'⟩ := cc_weigh58 F (h := hp_sI (hp_sI (hp_sI h q 1 (nI w)) q 2 (nI (2 ^ N - 1 - w))) q 3 (nI w)) (h0 := h) (n2 := 2 ^ N - 1 - w) (n3 := w) hN a1 hw hb hz (by rw [sI_at, if_neg (by decide), sI_at, if_neg (by decide), sI_at, if_neg (by decide)]; exact wi.1) ⟨r1, by omega, hz, d1, w, by rw [sI_at, if_neg (by decide), sI_at, if_neg (by decide), sI_at, if_pos rfl], hw, hb⟩ ⟨by rw [sI_at, if_neg (by decide), sI_at, if_pos rfl], fun i hi => by
          rw [all1, tb_xor hw hi, hb i hi, Bool.not_eq_true']
          exact ⟨fun z => ⟨fun r h1 h2 => by rw [d1 r h1] at h2; exact absurd h2 (by decide), z.2⟩, fun z => ⟨z.2, z.2⟩⟩⟩ ⟨by rw [sI_at, if_pos rfl], fun i hi => by
          rw [all1, hb i hi]
          exact ⟨fun z => ⟨fun r h1 h2 => by rw [d1 r h1] at h2; exact absurd h2 (by decide), z.2⟩, fun z => ⟨z.2, z.2⟩⟩⟩
      have g'' : hp_I h' q 5 = hp_I h q 5 ∧ hp_I h' q 7 = hp_I h q 7 ∧ hp_I h' q 8 = hp_I h q 8 := by
        refine ⟨g'.1.trans ?_, g'.2.1.trans ?_, g'.2.2.trans ?_⟩ <;> rw [sI_at, if_neg (by decide), sI_at, if_neg (by decide), sI_at, if_neg (by decide)]
      have ff := ((FQ.sI.tr FQ.sI).tr FQ.sI).tr f'
      exact ⟨h', e', ff, cc.fq ff g'', w'⟩
    · have c0 : ¬ cb p r1 = 0 := fun z => by
        have : ∀ n, r < n → cb p n ≠ 0 := by
          intro n
          induction n with
          | zero => intro z; omega
          | succ n ih =>
            intro y e
            have e : cb p n + b2 (p n) = 0 := e
            by_cases u : r = n
            · rw [← u, d2] at e; have : b2 true = 1 := rfl; omega
            · exact ih (by omega) (by omega)
        exact this r1 d1 z
      have cl := cb_le p r1
      have p10 := p2_10 hN
      rw [if_neg (nI_ne0 (by omega) (by omega))]
      obtain ⟨h', e', f', g', w'⟩ := cc_weigh58 F (h := h) (h0 := h) (n2 := n) (n3 := m) hN a1 hw hb hz wi.1 ⟨r, by omega, d2, d3, d4⟩ ⟨n1, fun i hi => by rw [all1, n3 i hi]⟩ ⟨m1, fun i hi => by rw [all1, m3 i hi]⟩
      exact ⟨h', e', f', cc.fq f' g', w'⟩
/-! the rows one behind the other -/
theorem tb_half0 {q m x : Nat} (hx : x < 2 ^ q) : (2 ^ (q + 1) * m + x).testBit q = false := by
  rw [Nat.testBit_two_pow_mul_add _ (Nat.lt_trans hx (Nat.pow_lt_pow_right (by decide) (by omega))), if_pos (by omega)]
  exact Nat.testBit_lt_two_pow hx
theorem tb_half1 {q m x : Nat} (hx : x < 2 ^ q) : (2 ^ (q + 1) * m + (2 ^ q + x)).testBit q = true := by
  rw [Nat.testBit_two_pow_mul_add _ (by rw [Nat.pow_succ]; omega), if_pos (by omega), Nat.testBit_two_pow_add_eq, Nat.testBit_lt_two_pow hx]
  rfl
theorem tb_top {q m x i : Nat} (hx : x < 2 ^ q) (hi : q ≤ i) : (2 ^ q * m + x).testBit i = m.testBit (i - q) := by
  rw [Nat.testBit_two_pow_mul_add _ hx, if_neg (by omega)]
theorem or_two {w k : Nat} (hk : k < 10) (hw : w < 2 ^ k) : nI w ||| (nI 1 <<< (nI k &&& 31)) = nI (w + 2 ^ k) ∧ nI w ||| (nI 0 <<< (nI k &&& 31)) = nI w := by
  have p := p2_10 (show k ≤ 10 by omega)
  refine ⟨?_, ?_⟩
  · rw [show nI 1 <<< (nI k &&& 31) = nI (2 ^ k) from shl1 k (by omega), nx_or, or_pow hw]
  · rw [pk_shlN _ k (s_l k (by omega)) (by omega), Nat.zero_mul, nx_or, Nat.or_zero]
theorem cc_go (F : Nat) (hF : 100 ≤ F) {q a tq : Nat} {H : HM} {b N : Nat} {ce : Nat → Int64} {A C : Nat} {p : Nat → Bool} (hN : N ≤ 10) (hf : FTS H ce N) : ∀ r D k (h : Hp) (v w m : Nat), k + r = N → r < D → STok H v → WK h q a tq H b N ce A C → WI h q N p (2 ^ r * m) → 2 ^ r * (m + 1) ≤ 2 ^ N → (∀ j, 2 ^ r * m ≤ j → j < 2 ^ r * m + 2 ^ r → p j = itl H b ce N A C j k r v) → w < 2 ^ k → (∀ i, i < k → w.testBit i = (2 ^ r * m).testBit (N - 1 - i)) → ∃ h', f_grp_X10_go F D 0 q (nI (cs v)) (nI k) (nI w) h = some ((), h') ∧ FQ q h h' ∧ WK h' q a tq H b N ce A C ∧ WI h' q N p (2 ^ r * m + 2 ^ r) := by
  have p10 := p2_10 hN
  intro r
  induction r with
  | zero =>
    intro D k h v w m hk hD ok c wi hm hp hw hb
    obtain ⟨D, rfl⟩ : ∃ j, D = j + 1 := ⟨D - 1, by omega⟩
    have e : k = N := by omega
    subst e
    obtain ⟨tc, r1, r2, r3, r4, r5, r6, r7⟩ := c.2.2.1
    have p1 : 2 ^ 0 = 1 := rfl
    rw [p1, Nat.one_mul] at wi hb hp
    rw [p1, Nat.one_mul] at hm ⊢
    obtain ⟨h', e', f', c', w'⟩ := cc_weigh F hN c ok wi hw hb (by rw [hp m (Nat.le_refl _) (by omega)]; rfl) (by omega)
    refine ⟨h', ?_, f', c', w'⟩
    show f_X10_go_w F (f_grp_X10_go F D) q (nI (cs v)) (nI k) (nI w) h = _
    unfold f_X10_go_w f_X10_go_17
    rw [gR_n c.1.1 c.1.2.2, gI_n r1, r5, if_pos (nI_le (Nat.le_refl _) (by omega)), cV_n c.1.1 e']
  | succ r ih =>
    intro D k h v w m hk hD ok c wi hm hp hw hb
    obtain ⟨D, rfl⟩ : ∃ j, D = j + 1 := ⟨D - 1, by omega⟩
    obtain ⟨F1, hF1⟩ : ∃ j, F = j + 3 := ⟨F - 3, by omega⟩
    have kN : k < N := by omega
    have f4 := c.2.1.f4
    obtain ⟨fk0, fk1⟩ := hf k kN
    have fk : fat ce k < hm_f H := by unfold fat; omega
    have eck : ce k = lN (fat ce k) := l64 fk0 (by omega)
    have ps : 2 ^ (r + 1) = 2 ^ r + 2 ^ r := by rw [Nat.pow_succ]; omega
    have pr0 : 0 < 2 ^ r := Nat.pow_pos (by decide)
    have base0 : 2 ^ (r + 1) * m = 2 ^ r * (2 * m) := by rw [Nat.pow_succ, Nat.mul_assoc]
    have base1 : 2 ^ (r + 1) * m + 2 ^ r = 2 ^ r * (2 * m + 1) := by rw [base0, Nat.mul_add, Nat.mul_one]
    have hkk : N - 1 - k = r := by omega
    have step : ∀ (t : Nat) (h : Hp), t < 2 → WK h q a tq H b N ce A C → WI h q N p (2 ^ r * (2 * m + t)) → ∀ n, ∃ h', f_X10_go_27 F (f_grp_X10_go F D) (n + 1) q (nI (cs v)) (nI k) (nI w) (nI t) h = f_X10_go_27 F (f_grp_X10_go F D) n q (nI (cs v)) (nI k) (nI w) (nI (t + 1)) h' ∧ FQ q h h' ∧ WK h' q a tq H b N ce A C ∧ WI h' q N p (2 ^ r * (2 * m + t) + 2 ^ r) := by
      intro t h ht c wi n
      have bit : ∀ j, 2 ^ r * (2 * m + t) ≤ j → j < 2 ^ r * (2 * m + t) + 2 ^ r → b1 (j.testBit (N - 1 - k) = true) = t := fun j h1 h2 => by
        rw [hkk]
        rcases (show t = 0 ∨ t = 1 by omega) with rfl | rfl
        · obtain ⟨x, rfl⟩ : ∃ x, j = 2 ^ (r + 1) * m + x := ⟨j - 2 ^ (r + 1) * m, by rw [base0]; rw [Nat.add_zero] at h1; omega⟩
          rw [tb_half0 (by rw [base0] at h2; rw [Nat.add_zero] at h2; omega)]; rfl
        · obtain ⟨x, rfl⟩ : ∃ x, j = 2 ^ (r + 1) * m + (2 ^ r + x) := ⟨j - 2 ^ (r + 1) * m - 2 ^ r, by rw [← base1] at h1; omega⟩
          rw [tb_half1 (by rw [← base1] at h2; omega)]; rfl
      have inr : ∀ j, 2 ^ r * (2 * m + t) ≤ j → j < 2 ^ r * (2 * m + t) + 2 ^ r → 2 ^ (r + 1) * m ≤ j ∧ j < 2 ^ (r + 1) * m + 2 ^ (r + 1) := fun j h1 h2 => by
        rw [base0, ps]
        rw [Nat.mul_add] at h1 h2
        rcases (show t = 0 ∨ t = 1 by omega) with rfl | rfl
        · rw [Nat.mul_zero] at h1 h2; omega
        · rw [Nat.mul_one] at h1 h2; omega
      show ∃ h', f_X10_go_27_b F (f_grp_X10_go F D) (f_X10_go_27 F (f_grp_X10_go F D) n) q (nI (cs v)) (nI k) (nI w) (nI t) h = _ ∧ _
      unfold f_X10_go_27_b f_X10_go_81
      obtain ⟨tc, r1, r2, r3, r4, r5, r6, r7⟩ := c.2.2.1
      rw [if_neg (show ¬ (2 : Int32) ≤ nI t from i_ge ht (by decide)), gR_n c.1.1 c.1.2.1, gI_n c.1.1, c.2.2.2.1.1, gR_n c.1.1 c.1.2.2, cV_n r1 (cc_at F c.2.2.1 kN), eck, lN_i, cV_n c.2.1.t (cc_afterTelling F c.2.1 ok c.2.2.2.2.1 ht fk), nI_1]
      cases hv : tld H b v t (fat ce k) with
      | none =>
        rw [show oN (Option.map cs none) = -1 from rfl, if_pos (by decide)]
        refine ⟨h, rfl, FQ.rf _ _, c, wi.skip (fun j h1 h2 => ?_)⟩
        have i := inr j h1 h2
        rw [hp j i.1 i.2]
        show (match tld H b v (b1 (j.testBit (N - 1 - k) = true)) (fat ce k) with | none => false | some u => itl H b ce N A C j (k + 1) r (dy u)) = false
        rw [bit j h1 h2, hv]
      | some u =>
        have oku := tld_ok c.2.1.2.1 ok ht fk hv
        have cu := cs_lt u
        have hw' : (nI w ||| (nI t <<< (nI k &&& 31))) = nI (w + t * 2 ^ k) := by
          rcases (show t = 0 ∨ t = 1 by omega) with rfl | rfl
          · rw [(or_two (by omega) hw).2, Nat.zero_mul, Nat.add_zero]
          · rw [(or_two (by omega) hw).1, Nat.one_mul]
        have wlt : w + t * 2 ^ k < 2 ^ (k + 1) := by
          rw [Nat.pow_succ]
          rcases (show t = 0 ∨ t = 1 by omega) with rfl | rfl <;> omega
        have hbits : ∀ i, i < k + 1 → (w + t * 2 ^ k).testBit i = (2 ^ r * (2 * m + t)).testBit (N - 1 - i) := fun i hi => by
          by_cases z : i = k
          · subst z
            rw [hkk, show 2 ^ r * (2 * m + t) = 2 ^ r * (2 * m + t) + 0 from rfl, tb_top pr0 (Nat.le_refl _), Nat.sub_self]
            rcases (show t = 0 ∨ t = 1 by omega) with rfl | rfl
            · rw [Nat.zero_mul, Nat.add_zero, Nat.testBit_lt_two_pow hw, Nat.testBit_zero]; simp
            · rw [Nat.one_mul, Nat.add_comm, Nat.testBit_two_pow_add_eq, Nat.testBit_lt_two_pow hw, Nat.testBit_zero]; simp
          · have e1 : (w + t * 2 ^ k).testBit i = w.testBit i := by
              rcases (show t = 0 ∨ t = 1 by omega) with rfl | rfl
              · rw [Nat.zero_mul, Nat.add_zero]
              · rw [Nat.one_mul, Nat.add_comm, Nat.testBit_two_pow_add_gt (by omega)]
            rw [e1, hb i (by omega), show 2 ^ (r + 1) * m = 2 ^ (r + 1) * m + 0 from rfl, tb_top (Nat.pow_pos (by decide)) (by omega), show 2 ^ r * (2 * m + t) = 2 ^ (r + 1) * m + t * 2 ^ r by rw [base0, Nat.mul_add, Nat.mul_comm t], tb_top (by rw [ps]; rcases (show t = 0 ∨ t = 1 by omega) with rfl | rfl <;> omega) (by omega)]
        obtain ⟨h1, e1, f1, c1, w1⟩ := ih D (k + 1) h (dy u) (w + t * 2 ^ k) (2 * m + t) (by omega) (by omega) oku.dy c wi (by
          refine Nat.le_trans ?_ hm
          rw [Nat.pow_succ, Nat.mul_assoc]
          exact Nat.mul_le_mul_left _ (by omega)) (fun j h1 h2 => by
          have i := inr j h1 h2
          rw [hp j i.1 i.2]
          show (match tld H b v (b1 (j.testBit (N - 1 - k) = true)) (fat ce k) with | none => false | some u => itl H b ce N A C j (k + 1) r (dy u)) = _
          rw [bit j h1 h2, hv]) wlt hbits
        rw [show oN (Option.map cs (some u)) = nI (cs u) from rfl, if_neg (nI_pos (by omega)), bd_n (cc_day F u h), hw', nI_1 k, cV_n c.1.1 e1]
        exact ⟨h1, rfl, f1, c1, w1⟩
    show ∃ h', f_X10_go_w F (f_grp_X10_go F D) q (nI (cs v)) (nI k) (nI w) h = _ ∧ _
    unfold f_X10_go_w
    obtain ⟨tc, r1, r2, r3, r4, r5, r6, r7⟩ := c.2.2.1
    rw [gR_n c.1.1 c.1.2.2, gI_n r1, r5, if_neg (nI_ge kN (by omega)), if_pos (show nI k < 10 from nI_lt (b := 10) (by omega) (by decide)), congrArg (f_X10_go_27 F (f_grp_X10_go F D)) hF1]
    obtain ⟨h1, e1, f1, c1, w1⟩ := step 0 h (by decide) c (by rw [Nat.add_zero, ← base0]; exact wi) (F1 + 2)
    rw [Nat.add_zero, ← base0, base1] at w1
    obtain ⟨h2, e2, f2, c2, w2⟩ := step 1 h1 (by decide) c1 w1 (F1 + 1)
    rw [show f_X10_go_27 F (f_grp_X10_go F D) (F1 + 3) q (nI (cs v)) (nI k) (nI w) 0 h = _ from e1, show f_X10_go_27 F (f_grp_X10_go F D) (F1 + 2) q (nI (cs v)) (nI k) (nI w) (nI (0 + 1)) h1 = _ from e2]
    refine ⟨h2, ?_, f1.tr f2, c2, ?_⟩
    · show f_X10_go_27_b F (f_grp_X10_go F D) (f_X10_go_27 F (f_grp_X10_go F D) F1) q (nI (cs v)) (nI k) (nI w) (nI 2) h2 = _
      unfold f_X10_go_27_b
      rw [if_pos (show (2 : Int32) ≤ nI 2 by decide)]
    · rw [← base1] at w2
      rw [show 2 ^ (r + 1) * m + 2 ^ (r + 1) = 2 ^ (r + 1) * m + 2 ^ r + 2 ^ r by omega]
      exact w2
