/-! L3: goals; how far they are -/
abbrev GL : Type := Sum (Nat × Nat) (Nat × Nat)
def gl (H : HM) (g : GL) (s : Nat) : Bool := match g with
  | .inl q => decide (dsa H s 0 &&& q.1 = q.1) && decide (dsa H s 1 &&& q.2 = q.2)
  | .inr q => dse H s q.1 q.2 && !dse H s (1 - q.1) q.2
def GF (h : Hp) (m : Nat) (g : GL) : Prop := match g with
  | .inl q => hp_I h m 27 = -1 ∧ hp_I h m 24 = nI q.1 ∧ hp_I h m 25 = nI q.2 ∧ q.1 < 64 ∧ q.2 < 64
  | .inr q => hp_I h m 26 = nI q.1 ∧ hp_I h m 27 = nI q.2 ∧ q.1 < 2 ∧ q.2 < 6
theorem GF.cg {h h' : Hp} {m : Nat} {g : GL} (r : GF h m g) (e : hp_I h' m = hp_I h m) : GF h' m g := by
  unfold GF
  rw [e]; exact r
theorem nI_inj {a b : Nat} (ha : a < 2 ^ 31) (hb : b < 2 ^ 31) (h : nI a = nI b) : a = b := by
  have := congrArg Int32.toInt h
  rw [nI_toInt ha, nI_toInt hb] at this
  omega
theorem and_lt {a b : Nat} (h : a < 64) : a &&& b < 64 := Nat.lt_of_le_of_lt Nat.and_le_left h
theorem nI_nm1 {d : Nat} (hd : d < 2 ^ 31) : ¬ nI d = -1 := fun z => by
  have := congrArg Int32.toInt z
  rw [nI_toInt hd] at this
  exact absurd this (by show ¬ (d : Int) = -1; omega)
theorem rc_isGoal (F : Nat) (hF : 100 ≤ F) {m : Nat} {h : Hp} {H : HM} {s0 b : Nat} (r : RS h m H s0 b) {g : GL} (gf : GF h m g) {s : Nat} (hs : s < 65536) : f_X12_isGoal F m (nI s) h = some (nI (b2 (gl H g s)), h) := by
  unfold f_X12_isGoal gl
  cases g with
  | inl q =>
    obtain ⟨a, c⟩ := q
    obtain ⟨g1, g2, g3, g4, g5⟩ := gf
    have g4 : a < 64 := g4
    have g5 : c < 64 := g5
    have l0 := dsa_lt r.2.1 s 0
    have l1 := dsa_lt r.2.1 s 1
    rw [gI_n r.1.1, g1, if_pos rfl, cV_n r.1.1 (show f_X12_doesAll F m (nI s) 0 h = _ from rc_doesAll F hF r.1 r.2.1 r.2.2.1 hs (t := 0) (by decide)), gI_n r.1.1, gI_n r.1.1, g2, nx_and]
    dsimp only
    by_cases q : dsa H s 0 &&& a = a
    · rw [if_pos (show nI (dsa H s 0 &&& a) = nI a by rw [q]), cV_n r.1.1 (show f_X12_doesAll F m (nI s) 1 h = _ from rc_doesAll F hF r.1 r.2.1 r.2.2.1 hs (t := 1) (by decide)), gI_n r.1.1, gI_n r.1.1, g3, nx_and, decide_eq_true q]
      by_cases q2 : dsa H s 1 &&& c = c
      · rw [if_pos (show nI (dsa H s 1 &&& c) = nI c by rw [q2]), decide_eq_true q2]; rfl
      · rw [if_neg (fun z => q2 (nI_inj (by have := and_lt (b := c) l1; omega) (by omega) z)), decide_eq_false q2]; rfl
    · rw [if_neg (fun z => q (nI_inj (by have := and_lt (b := a) l0; omega) (by omega) z)), decide_eq_false q]; rfl
  | inr q =>
    obtain ⟨t, d⟩ := q
    obtain ⟨g1, g2, g3, g4⟩ := gf
    have g3 : t < 2 := g3
    have g4 : d < 6 := g4
    rw [gI_n r.1.1, g2, if_neg (nI_nm1 (by omega)), gI_n r.1.1, gI_n r.1.1, g1, g2, cV_n r.1.1 (rc_doesIn F hF r.1 r.2.1 r.2.2.1 hs g3 g4)]
    dsimp only
    cases e0 : dse H s t d with
    | false => rw [if_pos (show nI (b2 false) = 0 from rfl)]; rfl
    | true =>
      rw [if_neg (show ¬ nI (b2 true) = 0 by decide), gI_n r.1.1, gI_n r.1.1, g1, g2]
      dsimp only
      rw [one_sub g3, cV_n r.1.1 (rc_doesIn F hF r.1 r.2.1 r.2.2.1 hs (show 1 - t < 2 by omega) g4)]
      cases dse H s (1 - t) d <;> rfl
/-- a row of moves that ends at a goal -/
def gto (H : HM) (b : Nat) (g : GL) (s : Nat) (ms : List Nat) : Prop := ∃ e, pth H b ms s = some e ∧ gl H g e = true
def ck (free : Bool) (k : Nat) : Nat := if (free && decide (k = 8)) = true then 0 else 1
def cst (free : Bool) : List Nat → Nat
  | [] => 0
  | k :: ks => cst free ks + ck free k
theorem ck_le (free : Bool) (k : Nat) : ck free k ≤ 1 := by unfold ck; split <;> omega
/-- v is how far a goal is, or 2^28 if it can't be come to -/
def SD (H : HM) (b M : Nat) (g : GL) (free : Bool) (s v : Nat) : Prop :=
  (v = 268435456 ∧ ∀ ms, mo M ms → ¬ gto H b g s ms) ∨ (v + s ≤ 65536 ∧ (∃ ms, mo M ms ∧ gto H b g s ms ∧ cst free ms = v) ∧ ∀ ms, mo M ms → gto H b g s ms → v ≤ cst free ms)
theorem SD.le {H : HM} {b M : Nat} {g : GL} {free : Bool} {s v : Nat} (h : SD H b M g free s v) : v ≤ 268435456 := by
  rcases h with ⟨h, -⟩ | ⟨h, -⟩ <;> omega
theorem SD.uniq {H : HM} {b M : Nat} {g : GL} {free : Bool} {s v w : Nat} (h : SD H b M g free s v) (h' : SD H b M g free s w) : v = w := by
  rcases h with ⟨h1, h2⟩ | ⟨h1, ⟨ms, h2, h3, h4⟩, h5⟩
  · rcases h' with ⟨k1, k2⟩ | ⟨k1, ⟨ms, k2, k3, k4⟩, k5⟩
    · omega
    · exact absurd k3 (h2 ms k2)
  · rcases h' with ⟨k1, k2⟩ | ⟨k1, ⟨ms', k2, k3, k4⟩, k5⟩
    · exact absurd h3 (k2 ms h2)
    · have a := h5 ms' k2 k3
      have b := k5 ms h2 h3
      omega
theorem gto_cons {H : HM} {b : Nat} {g : GL} {s k : Nat} {ks : List Nat} : gto H b g s (k :: ks) ↔ ∃ u, mv H b s k = some u ∧ gto H b g u ks := by
  constructor
  · rintro ⟨e, h1, h2⟩
    have h1 : (mv H b s k).bind (fun u => pth H b ks u) = some e := h1
    cases hv : mv H b s k with
    | none => rw [hv] at h1; cases h1
    | some u => rw [hv] at h1; exact ⟨u, rfl, e, h1, h2⟩
  · rintro ⟨u, h0, e, h1, h2⟩
    refine ⟨e, ?_, h2⟩
    show (mv H b s k).bind (fun u => pth H b ks u) = some e
    rw [h0]; exact h1
theorem gto_nil {H : HM} {b : Nat} {g : GL} {s : Nat} : gto H b g s [] ↔ gl H g s = true := by
  constructor
  · rintro ⟨e, h1, h2⟩
    have h1 : s = e := Option.some.inj h1
    rw [h1]; exact h2
  · intro h; exact ⟨s, rfl, h⟩
theorem mo_tl {M k : Nat} {ks : List Nat} (h : mo M (k :: ks)) : mo M ks := fun j hj => h j (List.mem_cons_of_mem _ hj)
theorem mo_hd {M k : Nat} {ks : List Nat} (h : mo M (k :: ks)) : k < 9 ∧ M.testBit k = true := h k (List.mem_cons_self ..)
theorem mo_cons {M k : Nat} {ks : List Nat} (h1 : k < 9) (h2 : M.testBit k = true) (h : mo M ks) : mo M (k :: ks) := fun j hj => by
  rcases List.mem_cons.mp hj with rfl | q
  · exact ⟨h1, h2⟩
  · exact h j q
theorem mo_nil (M : Nat) : mo M [] := fun _ h => absurd h (by simp)
theorem SD_step {H : HM} (hH : HMok H) {b M : Nat} {g : GL} {free : Bool} {s L : Nat} (hs : STok H s) (st : Nat → Nat) (hst : ∀ k u, k < 9 → M.testBit k = true → mv H b s k = some u → u ≠ s → SD H b M g free u (st u)) (h0 : gl H g s = true → L = 0) (h1 : gl H g s = false → (∀ k u, k < 9 → M.testBit k = true → mv H b s k = some u → u ≠ s → st u ≠ 268435456 → L ≤ st u + ck free k) ∧ (L = 268435456 ∨ ∃ k u, k < 9 ∧ M.testBit k = true ∧ mv H b s k = some u ∧ u ≠ s ∧ st u ≠ 268435456 ∧ L = st u + ck free k)) : SD H b M g free s L := by
  by_cases q : gl H g s = true
  · right
    have := h0 q
    subst this
    exact ⟨by have := hs.1; omega, ⟨[], mo_nil M, gto_nil.mpr q, rfl⟩, fun _ _ _ => Nat.zero_le _⟩
  · have q : gl H g s = false := by cases h : gl H g s with | false => rfl | true => exact absurd h q
    obtain ⟨k1, k2⟩ := h1 q
    have lb : ∀ ms, mo M ms → gto H b g s ms → L ≤ cst free ms ∧ L ≠ 268435456 := by
      intro ms
      induction ms with
      | nil => intro _ h; rw [gto_nil.mp h] at q; cases q
      | cons k ks ih =>
        intro hm hg
        obtain ⟨u, hu, hg'⟩ := gto_cons.mp hg
        have hk := mo_hd hm
        by_cases z : u = s
        · subst z
          have := ih (mo_tl hm) hg'
          exact ⟨Nat.le_trans this.1 (Nat.le_add_right _ _), this.2⟩
        · have hsd := hst k u hk.1 hk.2 hu z
          rcases hsd with ⟨-, c2⟩ | ⟨c1, -, c3⟩
          · exact absurd hg' (c2 ks (mo_tl hm))
          · have a := k1 k u hk.1 hk.2 hu z (by omega)
            have e := c3 ks (mo_tl hm) hg'
            have o := ck_le free k
            exact ⟨by show L ≤ cst free ks + ck free k; omega, by omega⟩
    rcases k2 with k2 | ⟨k, u, a1, a2, a3, a4, a5, a6⟩
    · left
      exact ⟨k2, fun ms hm hg => (lb ms hm hg).2 k2⟩
    · right
      rcases hst k u a1 a2 a3 a4 with ⟨c1, -⟩ | ⟨c1, ⟨ms, c2, c3, c4⟩, -⟩
      · exact absurd c1 a5
      · have o := ck_le free k
        have := (mv_ok hH hs a1 a3).2.1
        refine ⟨by omega, ⟨k :: ms, mo_cons a1 a2 c2, gto_cons.mpr ⟨u, a3, c3⟩, ?_⟩, fun ms hm hg => (lb ms hm hg).1⟩
        show cst free ms + ck free k = L
        omega
/-- what stillBy answers -/
def nb (H : HM) (b : Nat) (free : Bool) (st : Nat → Nat) (s k : Nat) : Nat := match mv H b s k with
  | none => 268435456
  | some u => if u = s then 268435456 else if st u = 268435456 then 268435456 else st u + ck free k
theorem rc_stillBy (F : Nat) {m : Nat} {h : Hp} {H : HM} {s0 b : Nat} (r : RS h m H s0 b) {s k : Nat} {free : Bool} {st : Nat → Nat} (hs : STok H s) (hk : k < 9) (h9 : hp_I h (m + 9) (9 * s + k) = oN (mv H b s k)) (h10 : ∀ u, mv H b s k = some u → u ≠ s → hp_I h (m + 10) u = nI (st u) ∧ st u ≤ 268435456) : f_X12_stillBy F m (nI s) (nI k) (nI (b2 free)) h = some (nI (nb H b free st s k), h) := by
  have hs6 := hs.1
  unfold f_X12_stillBy nb
  rw [r.1.g 9 22 (by decide) rfl, r.1.a 9 (9 * s + k) (i9k s k) (by decide) (show 9 * s + k < 589824 by omega), h9]
  cases hv : mv H b s k with
  | none => rw [if_pos (show oN none = -1 from rfl)]; rfl
  | some u =>
    have hu := (mv_ok r.2.1 hs hk hv).1.1
    rw [if_neg (show ¬ oN (some u) = -1 from nI_nm1 (by omega))]
    show (if nI u = nI s then _ else _) = _
    dsimp only
    by_cases q : u = s
    · rw [if_pos (show nI u = nI s by rw [q]), if_pos q]; rfl
    · obtain ⟨e1, e2⟩ := h10 u hv q
      rw [if_neg (fun z => q (nI_inj (by omega) (by omega) z)), if_neg q, r.1.g 10 23 (by decide) rfl, r.1.a 10 u (show oN (some u) = nI u from rfl) (by decide) (show u < 65536 from hu), e1]
      by_cases q2 : st u = 268435456
      · rw [if_pos (show nI (st u) = 268435456 by rw [q2]; rfl), if_pos q2]; rfl
      · rw [if_neg (show ¬ nI (st u) = 268435456 from fun z => q2 (nI_inj (b := 268435456) (by omega) (by decide) z)), if_neg q2, r.1.g 10 23 (by decide) rfl, r.1.a 10 u (show oN (some u) = nI u from rfl) (by decide) (show u < 65536 from hu), e1]
        unfold ck
        cases free with
        | false => rw [if_pos (show nI (b2 false) = 0 from rfl), nI_1]; rfl
        | true =>
          rw [if_neg (show ¬ nI (b2 true) = 0 by decide)]
          by_cases q3 : k = 8
          · rw [if_pos (show nI k = 8 by rw [q3]; rfl), q3, show nI (st u) + 0 = nI (st u + 0) from nI_add (st u) 0]; rfl
          · rw [if_neg (nI_e8 k (by omega)), nI_1, decide_eq_false q3]; rfl
theorem nb_le {H : HM} {b : Nat} {free : Bool} {st : Nat → Nat} {s k : Nat} (h : ∀ u, mv H b s k = some u → u ≠ s → st u ≤ 268435456) : nb H b free st s k ≤ 268435456 := by
  unfold nb
  cases hv : mv H b s k with
  | none => exact Nat.le_refl _
  | some u =>
    dsimp only
    by_cases q : u = s
    · rw [if_pos q]; exact Nat.le_refl _
    · have := h u hv q
      have := ck_le free k
      rw [if_neg q]
      split <;> omega
theorem rc_still55 (F : Nat) {m : Nat} {h : Hp} {H : HM} {s0 b M : Nat} (hM : M < 512) (r : RS h m H s0 b) {s : Nat} {free : Bool} {st : Nat → Nat} (hs : STok H s) (h9 : ∀ k, k < 9 → hp_I h (m + 9) (9 * s + k) = oN (mv H b s k)) (h10 : ∀ k u, k < 9 → M.testBit k = true → mv H b s k = some u → u ≠ s → hp_I h (m + 10) u = nI (st u) ∧ st u ≤ 268435456) (x : Int32) (K : Nat → Int32 → Int32 → Int32 → Int32 → Hp → Option (Int32 × Hp)) : ∀ q k n L, k + q = 9 → q < n → L ≤ 268435456 → ∃ L', f_X12_laysStill_55 F K n m (nI M) (nI (b2 free)) x (nI s) (nI L) (nI k) h = f_X12_laysStill_108 F K m (nI M) (nI (b2 free)) x (nI s) (nI L') h ∧ L' ≤ L ∧ (∀ j, k ≤ j → j < 9 → M.testBit j = true → L' ≤ nb H b free st s j) ∧ (L' = L ∨ ∃ j, k ≤ j ∧ j < 9 ∧ M.testBit j = true ∧ L' = nb H b free st s j) := by
  intro q
  induction q with
  | zero =>
    intro k n L hk hn hL
    obtain ⟨n, rfl⟩ : ∃ j, n = j + 1 := ⟨n - 1, by omega⟩
    show ∃ L', f_X12_laysStill_55_b F K (f_X12_laysStill_55 F K n) m (nI M) (nI (b2 free)) x (nI s) (nI L) (nI k) h = _ ∧ _
    unfold f_X12_laysStill_55_b
    rw [if_pos (show (9 : Int32) ≤ nI k from nI_le (a := 9) (by omega) (by omega))]
    exact ⟨L, rfl, Nat.le_refl _, fun j h1 h2 => absurd h2 (by omega), Or.inl rfl⟩
  | succ q ih =>
    intro k n L hk hn hL
    obtain ⟨n, rfl⟩ : ∃ j, n = j + 1 := ⟨n - 1, by omega⟩
    have hk9 : k < 9 := by omega
    show ∃ L', f_X12_laysStill_55_b F K (f_X12_laysStill_55 F K n) m (nI M) (nI (b2 free)) x (nI s) (nI L) (nI k) h = _ ∧ _
    unfold f_X12_laysStill_55_b f_X12_laysStill_102
    rw [if_neg (show ¬ (9 : Int32) ≤ nI k from i_ge (a := 9) (by omega) (by decide))]
    by_cases z : L = 0
    · rw [if_pos (show nI L ≤ 0 by rw [z]; decide)]
      exact ⟨L, rfl, Nat.le_refl _, fun j _ _ _ => by omega, Or.inl rfl⟩
    · rw [if_neg (nI_nle (by omega) (by omega)), i64_nI (by omega), bd_n (rc_isIn F (by omega) (by omega) h), nI_1]
      by_cases qb : M.testBit k = true
      · have e := rc_stillBy F r (free := free) (st := st) hs hk9 (h9 k hk9) (fun u hu hne => h10 k u hk9 qb hu hne)
        have hnb := nb_le (free := free) (st := st) (fun u hu hne => (h10 k u hk9 qb hu hne).2)
        rw [if_neg (b1_1 qb), cV_n r.1.1 e]
        by_cases z2 : L ≤ nb H b free st s k
        · rw [if_pos (nI_le z2 (by omega))]
          obtain ⟨L', e', l1, l2, l3⟩ := ih (k + 1) n L (by omega) (by omega) hL
          refine ⟨L', e', l1, fun j a1 a2 a3 => ?_, ?_⟩
          · by_cases y : j = k
            · rw [y]; omega
            · exact l2 j (by omega) a2 a3
          · rcases l3 with l3 | ⟨j, a1, a2⟩
            · exact Or.inl l3
            · exact Or.inr ⟨j, by omega, a2⟩
        · rw [if_neg (nI_ge (by omega) (by omega)), cV_n r.1.1 e]
          obtain ⟨L', e', l1, l2, l3⟩ := ih (k + 1) n (nb H b free st s k) (by omega) (by omega) hnb
          refine ⟨L', e', by omega, fun j a1 a2 a3 => ?_, ?_⟩
          · by_cases y : j = k
            · rw [y]; exact l1
            · exact l2 j (by omega) a2 a3
          · rcases l3 with l3 | ⟨j, a1, a2⟩
            · exact Or.inr ⟨k, by omega, hk9, qb, l3⟩
            · exact Or.inr ⟨j, by omega, a2⟩
      · rw [if_pos (b1_0 qb)]
        obtain ⟨L', e', l1, l2, l3⟩ := ih (k + 1) n L (by omega) (by omega) hL
        refine ⟨L', e', l1, fun j a1 a2 a3 => ?_, ?_⟩
        · by_cases y : j = k
          · rw [y] at a3; exact absurd a3 qb
          · exact l2 j (by omega) a2 a3
        · rcases l3 with l3 | ⟨j, a1, a2⟩
          · exact Or.inl l3
          · exact Or.inr ⟨j, by omega, a2⟩
theorem nI_m1 {t : Nat} (h : 0 < t) : nI t + (-1) = nI (t - 1) := by
  obtain ⟨u, rfl⟩ : ∃ u, t = u + 1 := ⟨t - 1, by omega⟩
  rw [← nI_1, Int32.add_assoc, show (1 : Int32) + -1 = 0 by decide, Int32.add_zero]
  rfl
/-- the numbers from t on are how far it is -/
def STL (h : Hp) (m : Nat) (H : HM) (b M now : Nat) (g : GL) (free : Bool) (t : Nat) : Prop := ∀ u, t ≤ u → u < 65536 → RH H b M now u → ∃ v, hp_I h (m + 10) u = nI v ∧ SD H b M g free u v
theorem rc_still15 (F : Nat) (hF : 2000 ≤ F) {m : Nat} {H : HM} {now b M : Nat} (hM : M < 512) {g : GL} {free : Bool} : ∀ q t n (h : Hp), RS h m H now b → GF h m g → RCH h m (RH H b M now) → (∀ v k, RH H b M now v → k < 9 → hp_I h (m + 9) (9 * v + k) = oN (mv H b v k)) → now + q = t → t ≤ 65536 → q < n → STL h m H b M now g free t → ∃ h', f_X12_laysStill_15 F n m (nI M) (nI (b2 free)) (nI now) (nI t + (-1)) h = some (hp_I h' (m + 10) now, h') ∧ CI m [10] h h' ∧ STL h' m H b M now g free now := by
  intro q
  induction q with
  | zero =>
    intro t n h rs gf h8 h9 ht ht2 hn hl
    obtain ⟨n, rfl⟩ : ∃ j, n = j + 1 := ⟨n - 1, by omega⟩
    have ht : t = now := by omega
    subst ht
    have hn6 := rs.s16
    show ∃ h', f_X12_laysStill_15_b F (f_X12_laysStill_15 F n) m (nI M) (nI (b2 free)) (nI t) (nI t + (-1)) h = _ ∧ _
    unfold f_X12_laysStill_15_b
    have hlt : nI t + (-1) < nI t := by
      by_cases z : t = 0
      · rw [z]; decide
      · rw [nI_m1 (by omega)]; exact nI_lt (by omega) (by omega)
    rw [if_pos hlt, rs.1.g 10 23 (by decide) rfl, rs.1.a 10 t rfl (by decide) (show t < 65536 from hn6)]
    exact ⟨h, rfl, CI.rf _ _ _, hl⟩
  | succ q ih =>
    intro t n h rs gf h8 h9 ht ht2 hn hl
    obtain ⟨n, rfl⟩ : ∃ j, n = j + 1 := ⟨n - 1, by omega⟩
    obtain ⟨s, rfl⟩ : ∃ s, t = s + 1 := ⟨t - 1, by omega⟩
    have hs6 : s < 65536 := by omega
    have hH := rs.2.1
    have hno := rs.2.2.2.2.1
    show ∃ h', f_X12_laysStill_15_b F (f_X12_laysStill_15 F n) m (nI M) (nI (b2 free)) (nI now) (nI (s + 1) + (-1)) h = _ ∧ _
    unfold f_X12_laysStill_15_b f_X12_laysStill_50 f_X12_laysStill_117
    rw [nI_m1 (by omega), Nat.add_sub_cancel, if_neg (show ¬ nI s < nI now from fun z => by have := (nI_ltI (by omega) (by omega)).mp z; omega), rs.1.g 8 21 (by decide) rfl, rs.1.aq s rfl hs6]
    rcases h8 s hs6 with ⟨a1, a2⟩ | ⟨a1, a2⟩
    · have hso := (a2.ok hH hno).1
      rw [if_neg (show ¬ hp_I h (m + 8) s = 0 by rw [a1]; decide), cV_n rs.1.1 (rc_isGoal F (by omega) rs gf hs6)]
      -- the numbers above s
      have hst : ∀ k u, k < 9 → M.testBit k = true → mv H b s k = some u → u ≠ s → hp_I h (m + 10) u = nI (ix (hp_I h (m + 10) u)) ∧ SD H b M g free u (ix (hp_I h (m + 10) u)) := by
        intro k u hk hb hv hne
        have o := mv_ok hH hso hk hv
        obtain ⟨v, v1, v2⟩ := hl u (by omega) o.1.1 (a2.step hk hb hv)
        have := v2.le
        rw [v1, ix_n (by omega)]
        exact ⟨rfl, v2⟩
      have fin : ∀ L0, L0 ≤ 268435456 → (gl H g s = true → L0 = 0) → (gl H g s = false → L0 = 268435456) → ∃ h', f_X12_laysStill_55 F (f_X12_laysStill_15 F n) F m (nI M) (nI (b2 free)) (nI now) (nI s) (nI L0) 0 h = some (hp_I h' (m + 10) now, h') ∧ CI m [10] h h' ∧ STL h' m H b M now g free now := by
        intro L0 hL0 g1 g2
        obtain ⟨L, e, l1, l2, l3⟩ := rc_still55 F hM rs (free := free) (st := fun u => ix (hp_I h (m + 10) u)) hso (fun k hk => h9 s k a2 hk) (fun k u hk hb hv hne => ⟨(hst k u hk hb hv hne).1, (hst k u hk hb hv hne).2.le⟩) (nI now) (f_X12_laysStill_15 F n) 9 0 F L0 (by omega) (by omega) hL0
        rw [show f_X12_laysStill_55 F (f_X12_laysStill_15 F n) F m (nI M) (nI (b2 free)) (nI now) (nI s) (nI L0) 0 h = _ from e]
        unfold f_X12_laysStill_108 f_X12_laysStill_117
        rw [rs.1.g 10 23 (by decide) rfl, rs.1.w 10 s rfl (by decide) (show s < 65536 from hs6)]
        have c1 : CI m [10] h (hp_sI h (m + 10) s (nI L)) := CI.sI (by decide)
        have sd : SD H b M g free s L := by
          refine SD_step hH hso (fun u => ix (hp_I h (m + 10) u)) (fun k u hk hb hv hne => (hst k u hk hb hv hne).2) (fun z => by have := g1 z; omega) (fun z => ?_)
          have g3 := g2 z
          constructor
          · intro k u hk hb hv hne hf
            have := l2 k (by omega) hk hb
            unfold nb at this
            rw [hv] at this
            dsimp only at this
            rw [if_neg hne, if_neg hf] at this
            exact this
          · rcases l3 with l3 | ⟨k, -, k1, k2, k3⟩
            · left; omega
            · unfold nb at k3
              cases hv : mv H b s k with
              | none => rw [hv] at k3; left; exact k3
              | some u =>
                rw [hv] at k3
                dsimp only at k3
                by_cases z1 : u = s
                · rw [if_pos z1] at k3; left; exact k3
                · rw [if_neg z1] at k3
                  by_cases z2 : ix (hp_I h (m + 10) u) = 268435456
                  · rw [if_pos z2] at k3; left; exact k3
                  · rw [if_neg z2] at k3
                    right; exact ⟨k, u, k1, k2, hv, z1, z2, k3⟩
        have hm0 : hp_I (hp_sI h (m + 10) s (nI L)) m = hp_I h m := sI_ne _ _ _ (by omega)
        obtain ⟨h', e', c', w'⟩ := ih s n _ (rs.ci c1 (by decide)) (gf.cg hm0) (h8.cg (c1.at (by decide)) (fun _ _ => Iff.rfl)) (fun v k hv hk => by rw [c1.at (by decide)]; exact h9 v k hv hk) (by omega) (by omega) (by omega) (fun u hu1 hu2 hr => by
          rw [sI_at]
          by_cases z : u = s
          · rw [if_pos z, z]; exact ⟨L, rfl, sd⟩
          · rw [if_neg z]; exact hl u (by omega) hu2 hr)
        exact ⟨h', e', c1.tr c', w'⟩
      cases hg : gl H g s with
      | false => rw [if_pos (show nI (b2 false) = 0 from rfl)]; exact fin 268435456 (Nat.le_refl _) (fun z => by rw [hg] at z; cases z) (fun _ => rfl)
      | true => rw [if_neg (show ¬ nI (b2 true) = 0 by decide)]; exact fin 0 (by omega) (fun _ => rfl) (fun z => by rw [hg] at z; cases z)
    · rw [if_pos a1]
      exact ih s n h rs gf h8 h9 (by omega) (by omega) (by omega) (fun u hu1 hu2 hr => by
        by_cases z : u = s
        · rw [z] at hr; exact absurd hr a2
        · exact hl u (by omega) hu2 hr)
theorem rc_laysStill (F : Nat) (hF : 70000 ≤ F) {m M : Nat} {H : HM} {now b : Nat} (hM : M < 512) {g : GL} {free : Bool} {h : Hp} (rs : RS h m H now b) (gf : GF h m g) (h10 : ¬ M = 511 → ∀ v k, RH H b M now v → k < 9 → hp_I h (m + 9) (9 * v + k) = oN (mv H b v k)) : ∃ h' v, f_X12_laysStill F m (nI M) (nI (b2 free)) h = some (nI v, h') ∧ CI m [5, 6, 8, 9, 10] h h' ∧ SD H b M g free now v ∧ hp_I h' (m + 10) now = nI v ∧ STL h' m H b M now g free now ∧ RCH h' m (RH H b M now) ∧ (∀ v k, RH H b M now v → k < 9 → hp_I h' (m + 9) (9 * v + k) = oN (mv H b v k)) ∧ (¬ M = 511 → hp_I h' (m + 9) = hp_I h (m + 9)) := by
  unfold f_X12_laysStill
  obtain ⟨h1, e1, c1, w8, w9, w11⟩ := rc_laysReached F hF hM rs h10
  have r1 := rs.ci c1 (by decide)
  have m1 : hp_I h1 m = hp_I h m := c1.2.2 m (fun k hk => by simp at hk; omega)
  obtain ⟨h2, e2, c2, w2⟩ := rc_still15 F (by omega) hM (g := g) (free := free) (65536 - now) 65536 F h1 r1 (gf.cg m1) w8 w9 (by have := rs.s16; omega) (Nat.le_refl _) (by omega) (fun u h1 h2 => absurd h2 (by omega))
  have hn := rs.s16
  obtain ⟨v, v1, v2⟩ := w2 now (Nat.le_refl _) hn (RH.rf _ _ _ _)
  rw [cV_n rs.1.1 e1, cV_n r1.1.1 (r1.stand F (by omega)), show f_X12_laysStill_15 F F m (nI M) (nI (b2 free)) (nI now) 65535 h1 = _ from e2]
  refine ⟨h2, v, by rw [v1], (c1.mono (by decide)).tr (c2.mono (by decide)), v2, v1, w2, w8.cg (c2.at (by decide)) (fun _ _ => Iff.rfl), fun v k hv hk => by rw [c2.at (by decide)]; exact w9 v k hv hk, fun q => by rw [c2.at (by decide), w11 q]⟩
