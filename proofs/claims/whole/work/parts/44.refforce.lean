/-! L3: what a friend can force -/
/-- forced within n turns: the friend (true) or the enemy (false) is to move -/
def frc (H : HM) (b t d : Nat) : Nat → Bool → Nat → Prop
  | 0, _, s => dse H s t d = true
  | n + 1, true, s => dse H s t d = true ∨ ∃ k u, k < 9 ∧ mv H b s k = some u ∧ frc H b t d n false u
  | n + 1, false, s => dse H s t d = true ∨ ∀ k u, k < 9 → mv H b s k = some u → frc H b t d n true u
theorem frc.up {H : HM} {b t d : Nat} : ∀ {n : Nat} {w : Bool} {s : Nat}, frc H b t d n w s → frc H b t d (n + 1) w s := by
  intro n
  induction n with
  | zero => intro w s h; cases w <;> exact Or.inl h
  | succ n ih =>
    intro w s h
    cases w with
    | true =>
      rcases h with h | ⟨k, u, h1, h2, h3⟩
      · exact Or.inl h
      · exact Or.inr ⟨k, u, h1, h2, ih h3⟩
    | false =>
      rcases h with h | h
      · exact Or.inl h
      · exact Or.inr fun k u h1 h2 => ih (h k u h1 h2)
theorem frc.mono {H : HM} {b t d n n' : Nat} {w : Bool} {s : Nat} (h : frc H b t d n w s) (hn : n ≤ n') : frc H b t d n' w s := by
  induction hn with
  | refl => exact h
  | step _ ih => exact ih.up
/-- v is the fewest turns among 0 to n, or 2^28 -/
def FV (H : HM) (b t d n : Nat) (w : Bool) (s v : Nat) : Prop := (v = 268435456 ∧ ¬ frc H b t d n w s) ∨ (v ≤ n ∧ frc H b t d v w s ∧ ∀ j, j < v → ¬ frc H b t d j w s)
theorem FV.lt {H : HM} {b t d n : Nat} {w : Bool} {s v : Nat} (h : FV H b t d n w s v) {j : Nat} (hj : j ≤ n) (hn : n < 100) : v ≤ j ↔ frc H b t d j w s := by
  rcases h with ⟨h1, h2⟩ | ⟨h1, h2, h3⟩
  · exact ⟨fun z => by omega, fun z => absurd (z.mono hj) h2⟩
  · constructor
    · intro z; exact h2.mono z
    · intro z
      rcases Nat.lt_or_ge j v with y | y
      · exact absurd z (h3 j y)
      · exact y
theorem FV.uniq {H : HM} {b t d n : Nat} {w : Bool} {s v v' : Nat} (h : FV H b t d n w s v) (h' : FV H b t d n w s v') : v = v' := by
  rcases h with ⟨h1, h2⟩ | ⟨h1, h2, h3⟩
  · rcases h' with ⟨k1, k2⟩ | ⟨k1, k2, k3⟩
    · omega
    · exact absurd (k2.mono k1) h2
  · rcases h' with ⟨k1, k2⟩ | ⟨k1, k2, k3⟩
    · exact absurd (h2.mono h1) k2
    · rcases Nat.lt_trichotomy v v' with z | z | z
      · exact absurd h2 (k3 v z)
      · exact z
      · exact absurd k2 (h3 v' z)
/-- the numbers of both players, from round r - 1 for stands from s on, from round r ahead of it -/
def FST (h : Hp) (m : Nat) (H : HM) (b now t d r s : Nat) : Prop := ∀ u, u < 65536 → RH H b 511 now u → (∃ v, hp_I h (m + 10) u = nI v ∧ FV H b t d (if u < s then r + 1 else r) true u v) ∧ ∃ v, hp_I h (m + 14) u = nI v ∧ FV H b t d (if u < s then r + 1 else r) false u v
theorem FV.le {H : HM} {b t d n : Nat} {w : Bool} {s v : Nat} (h : FV H b t d n w s v) (hn : n < 100) : v ≤ 268435456 := by
  rcases h with ⟨h1, -⟩ | ⟨h1, -⟩ <;> omega
theorem rc_some_r (F : Nat) {m : Nat} {h : Hp} {H : HM} {now b t d r s0 : Nat} (rs : RS h m H now b) (hr6 : r < 6) (h9 : ∀ v k, RH H b 511 now v → k < 9 → hp_I h (m + 9) (9 * v + k) = oN (mv H b v k)) (fs : FST h m H b now t d r s0) (hs : RH H b 511 now s0) : ∀ q k n, k + q = 9 → q < n → (f_X12_someBy_2 F n m (nI s0) (nI (r + 1)) (nI k) h = some (1, h) ∧ ∃ j u, k ≤ j ∧ j < 9 ∧ mv H b s0 j = some u ∧ frc H b t d r false u) ∨ (f_X12_someBy_2 F n m (nI s0) (nI (r + 1)) (nI k) h = some (0, h) ∧ ¬ ∃ j u, k ≤ j ∧ j < 9 ∧ mv H b s0 j = some u ∧ frc H b t d r false u) := by
  have hso := hs.ok rs.2.1 rs.2.2.2.2.1
  have hs6 := hso.1.1
  intro q
  induction q with
  | zero =>
    intro k n hk hn
    obtain ⟨n, rfl⟩ : ∃ j, n = j + 1 := ⟨n - 1, by omega⟩
    right
    refine ⟨?_, fun ⟨j, u, h1, h2, _⟩ => by omega⟩
    show f_X12_someBy_2_b F (f_X12_someBy_2 F n) m _ _ (nI k) h = _
    unfold f_X12_someBy_2_b
    rw [if_pos (show (9 : Int32) ≤ nI k from nI_le (a := 9) (by omega) (by omega))]
  | succ q ih =>
    intro k n hk hn
    obtain ⟨n, rfl⟩ : ∃ j, n = j + 1 := ⟨n - 1, by omega⟩
    have hk9 : k < 9 := by omega
    have ev : f_X12_someBy_2 F (n + 1) m (nI s0) (nI (r + 1)) (nI k) h = (if oN (mv H b s0 k) = -1 then f_X12_someBy_2 F n m (nI s0) (nI (r + 1)) (nI (k + 1)) h else gR 13 h m 31 fun v5 => aI 20 h v5 (oN (mv H b s0 k)) fun v6 => if nI (r + 1) ≤ v6 then f_X12_someBy_2 F n m (nI s0) (nI (r + 1)) (nI (k + 1)) h else some (1, h)) := by
      show f_X12_someBy_2_b F (f_X12_someBy_2 F n) m _ _ (nI k) h = _
      unfold f_X12_someBy_2_b f_X12_someBy_40
      rw [if_neg (show ¬ (9 : Int32) ≤ nI k from i_ge (a := 9) (by omega) (by decide)), rs.1.g 9 22 (by decide) rfl, rs.1.a 9 (9 * s0 + k) (i9k s0 k) (by decide) (show 9 * s0 + k < 589824 by omega), h9 s0 k hs hk9, nI_1]
    rw [ev]
    have tl : ∀ (P : ∀ u, mv H b s0 k = some u → ¬ frc H b t d r false u), (∃ j u, k + 1 ≤ j ∧ j < 9 ∧ mv H b s0 j = some u ∧ frc H b t d r false u) ↔ (∃ j u, k ≤ j ∧ j < 9 ∧ mv H b s0 j = some u ∧ frc H b t d r false u) := fun P => by
      constructor
      · rintro ⟨j, u, a1, a2⟩; exact ⟨j, u, by omega, a2⟩
      · rintro ⟨j, u, a1, a2, a3, a4⟩
        by_cases z : j = k
        · subst z; exact absurd a4 (P u a3)
        · exact ⟨j, u, by omega, a2, a3, a4⟩
    cases hv : mv H b s0 k with
    | none =>
      rw [if_pos (show oN none = -1 from rfl)]
      have := tl (fun u hu => by rw [hv] at hu; cases hu)
      rw [← this]
      exact ih (k + 1) n (by omega) (by omega)
    | some u =>
      have o := mv_ok rs.2.1 hso.1 hk9 hv
      have hu := o.1.1
      obtain ⟨-, v, v1, v2⟩ := fs u hu (hs.step hk9 (all511 k hk9) hv)
      rw [if_neg (show ¬ u < s0 by omega)] at v2
      have vle := v2.le (by omega)
      have key := v2.lt (j := r) (Nat.le_refl _) (by omega)
      rw [if_neg (show ¬ oN (some u) = -1 from nI_nm1 (by omega)), rs.1.g 14 31 (by decide) rfl, rs.1.a 14 u (show oN (some u) = nI u from rfl) (by decide) (show u < 65536 from hu), v1]
      by_cases z : v ≤ r
      · rw [if_neg (nI_ge (by omega) (by omega))]
        exact Or.inl ⟨rfl, k, u, Nat.le_refl _, hk9, hv, key.mp z⟩
      · rw [if_pos (nI_le (by omega) (by omega))]
        have := tl (fun u' hu' => by
          rw [hv] at hu'
          obtain rfl := Option.some.inj hu'
          exact fun y => z (key.mpr y))
        rw [← this]
        exact ih (k + 1) n (by omega) (by omega)
theorem rc_every_r (F : Nat) {m : Nat} {h : Hp} {H : HM} {now b t d r s0 : Nat} (rs : RS h m H now b) (hr6 : r < 6) (h9 : ∀ v k, RH H b 511 now v → k < 9 → hp_I h (m + 9) (9 * v + k) = oN (mv H b v k)) (fs : FST h m H b now t d r s0) (hs : RH H b 511 now s0) : ∀ q k n, k + q = 9 → q < n → (f_X12_everyBy_2 F n m (nI s0) (nI (r + 1)) (nI k) h = some (1, h) ∧ ∀ j u, k ≤ j → j < 9 → mv H b s0 j = some u → frc H b t d r true u) ∨ (f_X12_everyBy_2 F n m (nI s0) (nI (r + 1)) (nI k) h = some (0, h) ∧ ¬ ∀ j u, k ≤ j → j < 9 → mv H b s0 j = some u → frc H b t d r true u) := by
  have hso := hs.ok rs.2.1 rs.2.2.2.2.1
  have hs6 := hso.1.1
  intro q
  induction q with
  | zero =>
    intro k n hk hn
    obtain ⟨n, rfl⟩ : ∃ j, n = j + 1 := ⟨n - 1, by omega⟩
    left
    refine ⟨?_, fun j u h1 h2 => by omega⟩
    show f_X12_everyBy_2_b F (f_X12_everyBy_2 F n) m _ _ (nI k) h = _
    unfold f_X12_everyBy_2_b
    rw [if_pos (show (9 : Int32) ≤ nI k from nI_le (a := 9) (by omega) (by omega))]
  | succ q ih =>
    intro k n hk hn
    obtain ⟨n, rfl⟩ : ∃ j, n = j + 1 := ⟨n - 1, by omega⟩
    have hk9 : k < 9 := by omega
    have ev : f_X12_everyBy_2 F (n + 1) m (nI s0) (nI (r + 1)) (nI k) h = (if oN (mv H b s0 k) = -1 then f_X12_everyBy_2 F n m (nI s0) (nI (r + 1)) (nI (k + 1)) h else gR 13 h m 23 fun v5 => aI 20 h v5 (oN (mv H b s0 k)) fun v6 => if v6 < nI (r + 1) then f_X12_everyBy_2 F n m (nI s0) (nI (r + 1)) (nI (k + 1)) h else some (0, h)) := by
      show f_X12_everyBy_2_b F (f_X12_everyBy_2 F n) m _ _ (nI k) h = _
      unfold f_X12_everyBy_2_b f_X12_everyBy_40
      rw [if_neg (show ¬ (9 : Int32) ≤ nI k from i_ge (a := 9) (by omega) (by decide)), rs.1.g 9 22 (by decide) rfl, rs.1.a 9 (9 * s0 + k) (i9k s0 k) (by decide) (show 9 * s0 + k < 589824 by omega), h9 s0 k hs hk9, nI_1]
    rw [ev]
    have tl : ∀ (P : ∀ u, mv H b s0 k = some u → frc H b t d r true u), (∀ j u, k + 1 ≤ j → j < 9 → mv H b s0 j = some u → frc H b t d r true u) ↔ (∀ j u, k ≤ j → j < 9 → mv H b s0 j = some u → frc H b t d r true u) := fun P => by
      constructor
      · intro y j u a1 a2 a3
        by_cases z : j = k
        · subst z; exact P u a3
        · exact y j u (by omega) a2 a3
      · intro y j u a1 a2 a3; exact y j u (by omega) a2 a3
    cases hv : mv H b s0 k with
    | none =>
      rw [if_pos (show oN none = -1 from rfl)]
      have := tl (fun u hu => by rw [hv] at hu; cases hu)
      rw [← this]
      exact ih (k + 1) n (by omega) (by omega)
    | some u =>
      have o := mv_ok rs.2.1 hso.1 hk9 hv
      have hu := o.1.1
      obtain ⟨⟨v, v1, v2⟩, -⟩ := fs u hu (hs.step hk9 (all511 k hk9) hv)
      rw [if_neg (show ¬ u < s0 by omega)] at v2
      have vle := v2.le (by omega)
      have key := v2.lt (j := r) (Nat.le_refl _) (by omega)
      rw [if_neg (show ¬ oN (some u) = -1 from nI_nm1 (by omega)), rs.1.g 10 23 (by decide) rfl, rs.1.a 10 u (show oN (some u) = nI u from rfl) (by decide) (show u < 65536 from hu), v1]
      by_cases z : v ≤ r
      · rw [if_pos (nI_lt (by omega) (by omega))]
        have := tl (fun u' hu' => by
          rw [hv] at hu'
          obtain rfl := Option.some.inj hu'
          exact key.mp z)
        rw [← this]
        exact ih (k + 1) n (by omega) (by omega)
      · rw [if_neg (fun y => z (by have := (nI_ltI (by omega) (by omega)).mp y; omega))]
        exact Or.inr ⟨rfl, fun y => z (key.mpr (y k u (Nat.le_refl _) hk9 hv))⟩
/-- the number of the next round -/
theorem FV.next {H : HM} {b t d n : Nat} {w : Bool} {s v : Nat} (h : FV H b t d n w s v) (hn : n < 100) (hv : v ≠ 268435456) : FV H b t d (n + 1) w s v := by
  rcases h with ⟨h1, -⟩ | ⟨h1, h2, h3⟩
  · exact absurd h1 hv
  · exact Or.inr ⟨by omega, h2, h3⟩
theorem FV.yes {H : HM} {b t d n : Nat} {w : Bool} {s v : Nat} (h : FV H b t d n w s v) (hn : n < 100) (hv : v = 268435456) (hf : frc H b t d (n + 1) w s) : FV H b t d (n + 1) w s (n + 1) := by
  rcases h with ⟨-, h2⟩ | ⟨h1, -⟩
  · exact Or.inr ⟨Nat.le_refl _, hf, fun j hj y => h2 (y.mono (by omega))⟩
  · omega
theorem FV.no {H : HM} {b t d n : Nat} {w : Bool} {s v : Nat} (hv : v = 268435456) (hf : ¬ frc H b t d (n + 1) w s) : FV H b t d (n + 1) w s v := Or.inl ⟨hv, hf⟩
theorem nI_far {v : Nat} (h : v ≤ 268435456) : nI v = 268435456 ↔ v = 268435456 := ⟨fun z => nI_inj (b := 268435456) (by omega) (by decide) z, fun z => by rw [z]; rfl⟩
theorem rc_force79 (F : Nat) (hF : 2000 ≤ F) {m : Nat} {H : HM} {now b t d r : Nat} (hr6 : r < 6) (K : Nat → Int32 → Hp → Option (Int32 × Hp)) : ∀ q s n (h : Hp), RS h m H now b → RCH h m (RH H b 511 now) → (∀ v k, RH H b 511 now v → k < 9 → hp_I h (m + 9) (9 * v + k) = oN (mv H b v k)) → FST h m H b now t d r s → s + q = 65536 → q < n → ∃ h', f_X12_laysForced_79 F K n m (nI (r + 1)) (nI s) h = K m (nI (r + 2)) h' ∧ CI m [10, 14] h h' ∧ FST h' m H b now t d r 65536 := by
  intro q
  induction q with
  | zero =>
    intro s n h rs h8 h9 fs hs hn
    obtain ⟨n, rfl⟩ : ∃ j, n = j + 1 := ⟨n - 1, by omega⟩
    show ∃ h', f_X12_laysForced_79_b F K (f_X12_laysForced_79 F K n) m _ (nI s) h = _ ∧ _
    unfold f_X12_laysForced_79_b
    rw [if_pos (show (65536 : Int32) ≤ nI s from nI_le (a := 65536) (by omega) (by omega)), nI_1]
    have : s = 65536 := by omega
    subst this
    exact ⟨h, rfl, CI.rf _ _ _, fs⟩
  | succ q ih =>
    intro s n h rs h8 h9 fs hs hn
    obtain ⟨n, rfl⟩ : ∃ j, n = j + 1 := ⟨n - 1, by omega⟩
    have hs6 : s < 65536 := by omega
    show ∃ h', f_X12_laysForced_79_b F K (f_X12_laysForced_79 F K n) m _ (nI s) h = _ ∧ _
    unfold f_X12_laysForced_79_b
    rw [if_neg (show ¬ (65536 : Int32) ≤ nI s from i_ge (a := 65536) (by omega) (by decide)), rs.1.g 8 21 (by decide) rfl, rs.1.aq s rfl hs6]
    rcases h8 s hs6 with ⟨a1, a2⟩ | ⟨a1, a2⟩
    · obtain ⟨⟨v, v1, v2⟩, v', v1', v2'⟩ := fs s hs6 a2
      rw [if_neg (Nat.lt_irrefl s)] at v2 v2'
      have vle := v2.le (by omega)
      have vle' := v2'.le (by omega)
      -- both new numbers
      have fin : ∀ x y : Nat, FV H b t d (r + 1) true s x → FV H b t d (r + 1) false s y → ∃ h', f_X12_laysForced_79 F K n m (nI (r + 1)) (nI (s + 1)) (hp_sI (hp_sI h (m + 10) s (nI x)) (m + 14) s (nI y)) = K m (nI (r + 2)) h' ∧ CI m [10, 14] h h' ∧ FST h' m H b now t d r 65536 := by
        intro x y fx fy
        have c1 : CI m [10, 14] h (hp_sI (hp_sI h (m + 10) s (nI x)) (m + 14) s (nI y)) := (CI.sI (by decide)).tr (CI.sI (by decide))
        obtain ⟨h', e, c, w⟩ := ih (s + 1) n _ (rs.ci c1 (by decide)) (h8.cg (c1.at (by decide)) (fun _ _ => Iff.rfl)) (fun v k hv hk => by rw [c1.at (by decide)]; exact h9 v k hv hk) (fun u hu hr => by
          rw [sI_ne _ _ _ (show m + 10 ≠ m + 14 by omega), sI_at, sI_at, sI_ne _ _ _ (show m + 14 ≠ m + 10 by omega)]
          by_cases z : u = s
          · rw [if_pos z, if_pos z, z, if_pos (by omega)]
            exact ⟨⟨x, rfl, fx⟩, y, rfl, fy⟩
          · rw [if_neg z, if_neg z]
            have := fs u hu hr
            by_cases z2 : u < s
            · rw [if_pos z2] at this; rw [if_pos (show u < s + 1 by omega)]; exact this
            · rw [if_neg z2] at this; rw [if_neg (show ¬ u < s + 1 by omega)]; exact this) (by omega) (by omega)
        exact ⟨h', e, c1.tr c, w⟩
      -- the enemy's part
      have enemy : ∀ x : Nat, ∀ l5 : Int32, FV H b t d (r + 1) true s x → (l5 = 0 ∧ nI x = nI v ∨ ¬ l5 = 0 ∧ nI x = nI (r + 1)) → ∃ h', f_X12_laysForced_127 F K (f_X12_laysForced_79 F K n) m (nI (r + 1)) (nI s) l5 h = K m (nI (r + 2)) h' ∧ CI m [10, 14] h h' ∧ FST h' m H b now t d r 65536 := by
        intro x l5 fx hl
        -- what 157 does
        have h157 : ∀ (y : Nat) (l6 : Int32), FV H b t d (r + 1) false s y → (l6 = 0 ∧ nI y = nI v' ∨ ¬ l6 = 0 ∧ nI y = nI (r + 1)) → ∃ h', f_X12_laysForced_157 F K (f_X12_laysForced_79 F K n) m (nI (r + 1)) (nI s) l5 l6 h = K m (nI (r + 2)) h' ∧ CI m [10, 14] h h' ∧ FST h' m H b now t d r 65536 := by
          intro y l6 fy hl6
          have h181 : f_X12_laysForced_181 F K (f_X12_laysForced_79 F K n) m (nI (r + 1)) (nI s) l6 (nI x) (nI s) (m + 10) h = f_X12_laysForced_79 F K n m (nI (r + 1)) (nI (s + 1)) (hp_sI (hp_sI h (m + 10) s (nI x)) (m + 14) s (nI y)) := by
            unfold f_X12_laysForced_181 f_X12_laysForced_204 f_X12_laysForced_205
            have S1 := rs.1.sI (m + 10) s (nI x)
            rw [rs.1.w 10 s rfl (by decide) (show s < 65536 from hs6), S1.g 14 31 (by decide) rfl]
            rcases hl6 with ⟨z1, z2⟩ | ⟨z1, z2⟩
            · rw [if_pos z1, S1.g 14 31 (by decide) rfl, S1.a 14 s rfl (by decide) (show s < 65536 from hs6), sI_ne _ _ _ (show m + 14 ≠ m + 10 by omega), v1', ← z2, S1.w 14 s rfl (by decide) (show s < 65536 from hs6), nI_1]
            · rw [if_neg z1, ← z2, S1.w 14 s rfl (by decide) (show s < 65536 from hs6), nI_1]
          unfold f_X12_laysForced_157
          rw [rs.1.g 10 23 (by decide) rfl]
          rcases hl with ⟨z1, z2⟩ | ⟨z1, z2⟩
          · rw [if_pos z1, rs.1.g 10 23 (by decide) rfl, rs.1.a 10 s rfl (by decide) (show s < 65536 from hs6), v1, ← z2, h181]
            exact fin x y fx fy
          · rw [if_neg z1, ← z2]
            rw [z2, ← z2]
            have := fin x y fx fy
            rw [← h181, z2] at this
            rw [z2]
            exact this
        unfold f_X12_laysForced_127 f_X12_laysForced_156
        rw [rs.1.g 14 31 (by decide) rfl, rs.1.a 14 s rfl (by decide) (show s < 65536 from hs6), v1']
        by_cases z : v' = 268435456
        · rw [if_pos ((nI_far vle').mpr z)]
          unfold f_X12_everyBy
          rcases rc_every_r F rs hr6 h9 fs a2 9 0 F (by omega) (by omega) with ⟨e1, e2⟩ | ⟨e1, e2⟩
          · rw [cV_n rs.1.1 (show f_X12_everyBy_2 F F m (nI s) (nI (r + 1)) 0 h = _ from e1), if_neg (show ¬ (1 : Int32) = 0 by decide)]
            exact h157 (r + 1) 1 (v2'.yes (by omega) z (Or.inr fun k u hk hu => e2 k u (by omega) hk hu)) (Or.inr ⟨by decide, rfl⟩)
          · rw [cV_n rs.1.1 (show f_X12_everyBy_2 F F m (nI s) (nI (r + 1)) 0 h = _ from e1), if_pos rfl]
            refine h157 v' 0 (FV.no z (fun y => ?_)) (Or.inl ⟨rfl, rfl⟩)
            rcases y with y | y
            · rcases v2' with ⟨-, w⟩ | ⟨w, -⟩
              · exact w ((show frc H b t d 0 false s from y).mono (by omega))
              · omega
            · exact e2 fun j u _ hj hu => y j u hj hu
        · rw [if_neg (fun y => z ((nI_far vle').mp y))]
          exact h157 v' 0 (v2'.next (by omega) z) (Or.inl ⟨rfl, rfl⟩)
      unfold f_X12_laysForced_126
      rw [if_neg (show ¬ hp_I h (m + 8) s = 0 by rw [a1]; decide), rs.1.g 10 23 (by decide) rfl, rs.1.a 10 s rfl (by decide) (show s < 65536 from hs6), v1]
      by_cases z : v = 268435456
      · rw [if_pos ((nI_far vle).mpr z)]
        unfold f_X12_someBy
        rcases rc_some_r F rs hr6 h9 fs a2 9 0 F (by omega) (by omega) with ⟨e1, j, u, -, e2, e3, e4⟩ | ⟨e1, e2⟩
        · rw [cV_n rs.1.1 (show f_X12_someBy_2 F F m (nI s) (nI (r + 1)) 0 h = _ from e1), if_neg (show ¬ (1 : Int32) = 0 by decide)]
          exact enemy (r + 1) 1 (v2.yes (by omega) z (Or.inr ⟨j, u, e2, e3, e4⟩)) (Or.inr ⟨by decide, rfl⟩)
        · rw [cV_n rs.1.1 (show f_X12_someBy_2 F F m (nI s) (nI (r + 1)) 0 h = _ from e1), if_pos rfl]
          refine enemy v 0 (FV.no z (fun y => ?_)) (Or.inl ⟨rfl, rfl⟩)
          rcases y with y | ⟨k, u, y1, y2, y3⟩
          · rcases v2 with ⟨-, w⟩ | ⟨w, -⟩
            · exact w ((show frc H b t d 0 true s from y).mono (by omega))
            · omega
          · exact e2 ⟨k, u, by omega, y1, y2, y3⟩
      · rw [if_neg (fun y => z ((nI_far vle).mp y))]
        exact enemy v 0 (v2.next (by omega) z) (Or.inl ⟨rfl, rfl⟩)
    · unfold f_X12_laysForced_205
      rw [if_pos a1, nI_1 s]
      exact ih (s + 1) n h rs h8 h9 (fun u hu hr => by
        have hne : u ≠ s := fun z => by rw [z] at hr; exact a2 hr
        have := fs u hu hr
        by_cases z2 : u < s
        · rw [if_pos z2] at this; rw [if_pos (show u < s + 1 by omega)]; exact this
        · rw [if_neg z2] at this; rw [if_neg (show ¬ u < s + 1 by omega)]; exact this) (by omega) (by omega)
theorem rc_force67 (F : Nat) (hF : 70000 ≤ F) {m : Nat} {H : HM} {now b t d : Nat} : ∀ q r n (h : Hp), RS h m H now b → RCH h m (RH H b 511 now) → (∀ v k, RH H b 511 now v → k < 9 → hp_I h (m + 9) (9 * v + k) = oN (mv H b v k)) → FST h m H b now t d r 0 → r + q = 6 → q < n → ∃ h' v, f_X12_laysForced_67 F n m (nI (r + 1)) h = some (nI v, h') ∧ CI m [10, 14] h h' ∧ FST h' m H b now t d 6 0 ∧ hp_I h' (m + 10) now = nI v ∧ FV H b t d 6 true now v := by
  intro q
  induction q with
  | zero =>
    intro r n h rs h8 h9 fs hr hn
    obtain ⟨n, rfl⟩ : ∃ j, n = j + 1 := ⟨n - 1, by omega⟩
    have hr : r = 6 := by omega
    subst hr
    have hn6 := rs.s16
    show ∃ h' v, f_X12_laysForced_67_b F (f_X12_laysForced_67 F n) m _ h = _ ∧ _
    unfold f_X12_laysForced_67_b
    obtain ⟨⟨v, v1, v2⟩, -⟩ := fs now hn6 (RH.rf _ _ _ _)
    rw [if_pos (show (6 : Int32) < nI 7 by decide), rs.1.g 10 23 (by decide) rfl, cV_n rs.1.1 (rs.stand F (by omega)), rs.1.a 10 now rfl (by decide) (show now < 65536 from hn6), v1]
    rw [if_neg (Nat.not_lt_zero now)] at v2
    exact ⟨h, v, rfl, CI.rf _ _ _, fs, v1, v2⟩
  | succ q ih =>
    intro r n h rs h8 h9 fs hr hn
    obtain ⟨n, rfl⟩ : ∃ j, n = j + 1 := ⟨n - 1, by omega⟩
    have hn6 := rs.s16
    show ∃ h' v, f_X12_laysForced_67_b F (f_X12_laysForced_67 F n) m _ h = _ ∧ _
    unfold f_X12_laysForced_67_b
    obtain ⟨h1, e1, c1, w1⟩ := rc_force79 F (by omega) (r := r) (by omega) (f_X12_laysForced_67 F n) (65536 - now) now F h rs h8 h9 (fun u hu hr => by
      have := fs u hu hr
      have o := (hr.ok rs.2.1 rs.2.2.2.2.1).2
      rw [if_neg (Nat.not_lt_zero u)] at this
      rw [if_neg (show ¬ u < now by omega)]
      exact this) (by omega) (by omega)
    rw [if_neg (show ¬ (6 : Int32) < nI (r + 1) from fun z => by have := (nI_ltI (a := 6) (b := r + 1) (by omega) (by omega)).mp z; omega), cV_n rs.1.1 (rs.stand F (by omega)), e1]
    obtain ⟨h', v, e, c, w⟩ := ih (r + 1) n h1 (rs.ci c1 (by decide)) (h8.cg (c1.at (by decide)) (fun _ _ => Iff.rfl)) (fun v k hv hk => by rw [c1.at (by decide)]; exact h9 v k hv hk) (fun u hu hr => by
      have := w1 u hu hr
      rw [if_pos hu] at this
      rw [if_neg (Nat.not_lt_zero u)]
      exact this) (by omega) (by omega)
    exact ⟨h', v, e, c1.tr c, w⟩
theorem rc_force9 (F : Nat) (hF : 70000 ≤ F) {m : Nat} {H : HM} {now b t d : Nat} (ht : t < 2) (hd : d < 6) : ∀ q s n (h : Hp), RS h m H now b → RCH h m (RH H b 511 now) → (∀ u, u < s → RH H b 511 now u → (∃ v, hp_I h (m + 10) u = nI v ∧ FV H b t d 0 true u v) ∧ ∃ v, hp_I h (m + 14) u = nI v ∧ FV H b t d 0 false u v) → s + q = 65536 → q < n → ∃ h', f_X12_laysForced_9 F n m (nI t) (nI d) (nI s) h = f_X12_laysForced_67 F F m 1 h' ∧ CI m [10, 14] h h' ∧ FST h' m H b now t d 0 0 := by
  intro q
  induction q with
  | zero =>
    intro s n h rs h8 hb hs hn
    obtain ⟨n, rfl⟩ : ∃ j, n = j + 1 := ⟨n - 1, by omega⟩
    show ∃ h', f_X12_laysForced_9_b F (f_X12_laysForced_9 F n) m _ _ (nI s) h = _ ∧ _
    unfold f_X12_laysForced_9_b
    rw [if_pos (show (65536 : Int32) ≤ nI s from nI_le (a := 65536) (by omega) (by omega))]
    exact ⟨h, rfl, CI.rf _ _ _, fun u hu hr => by rw [if_neg (Nat.not_lt_zero u)]; exact hb u (by omega) hr⟩
  | succ q ih =>
    intro s n h rs h8 hb hs hn
    obtain ⟨n, rfl⟩ : ∃ j, n = j + 1 := ⟨n - 1, by omega⟩
    have hs6 : s < 65536 := by omega
    have fin : ∀ v : Nat, (RH H b 511 now s → FV H b t d 0 true s v ∧ FV H b t d 0 false s v) → ∃ h', f_X12_laysForced_46 F (f_X12_laysForced_9 F n) m (nI t) (nI d) (nI s) (nI v) (nI s) (m + 10) h = f_X12_laysForced_67 F F m 1 h' ∧ CI m [10, 14] h h' ∧ FST h' m H b now t d 0 0 := by
      intro v hv
      unfold f_X12_laysForced_46
      have S1 := rs.1.sI (m + 10) s (nI v)
      rw [rs.1.w 10 s rfl (by decide) (show s < 65536 from hs6), S1.g 14 31 (by decide) rfl, S1.g 10 23 (by decide) rfl, S1.a 10 s rfl (by decide) (show s < 65536 from hs6), sI_at, if_pos rfl, S1.w 14 s rfl (by decide) (show s < 65536 from hs6), nI_1]
      have c1 : CI m [10, 14] h (hp_sI (hp_sI h (m + 10) s (nI v)) (m + 14) s (nI v)) := (CI.sI (by decide)).tr (CI.sI (by decide))
      obtain ⟨h', e, c, w⟩ := ih (s + 1) n _ (rs.ci c1 (by decide)) (h8.cg (c1.at (by decide)) (fun _ _ => Iff.rfl)) (fun u hu hr => by
        rw [sI_ne _ _ _ (show m + 10 ≠ m + 14 by omega), sI_at, sI_at, sI_ne _ _ _ (show m + 14 ≠ m + 10 by omega)]
        by_cases z : u = s
        · rw [if_pos z, if_pos z, z]
          rw [z] at hr
          exact ⟨⟨v, rfl, (hv hr).1⟩, v, rfl, (hv hr).2⟩
        · rw [if_neg z, if_neg z]; exact hb u (by omega) hr) (by omega) (by omega)
      exact ⟨h', e, c1.tr c, w⟩
    show ∃ h', f_X12_laysForced_9_b F (f_X12_laysForced_9 F n) m _ _ (nI s) h = _ ∧ _
    unfold f_X12_laysForced_9_b f_X12_laysForced_43
    rw [if_neg (show ¬ (65536 : Int32) ≤ nI s from i_ge (a := 65536) (by omega) (by decide)), rs.1.g 10 23 (by decide) rfl, rs.1.g 8 21 (by decide) rfl, rs.1.aq s rfl hs6]
    rcases h8 s hs6 with ⟨a1, a2⟩ | ⟨a1, a2⟩
    · rw [if_neg (show ¬ hp_I h (m + 8) s = 0 by rw [a1]; decide), cV_n rs.1.1 (rc_doesIn F (by omega) rs.1 rs.2.1 rs.2.2.1 hs6 ht hd)]
      cases hb : dse H s t d with
      | false =>
        rw [if_pos (show nI (b2 false) = 0 from rfl)]
        have nf : ∀ w, ¬ frc H b t d 0 w s := fun w y => by
          have y : dse H s t d = true := y
          rw [hb] at y; cases y
        exact fin 268435456 (fun _ => ⟨Or.inl ⟨rfl, nf true⟩, Or.inl ⟨rfl, nf false⟩⟩)
      | true =>
        rw [if_neg (show ¬ nI (b2 true) = 0 by decide)]
        exact fin 0 (fun _ => ⟨Or.inr ⟨Nat.le_refl _, hb, fun j hj => by omega⟩, Or.inr ⟨Nat.le_refl _, hb, fun j hj => by omega⟩⟩)
    · rw [if_pos a1]
      exact fin 268435456 (fun y => absurd y a2)
theorem rc_laysForced (F : Nat) (hF : 70000 ≤ F) {m : Nat} {h : Hp} {H : HM} {s b : Nat} (r : RS h m H s b) {t d : Nat} (ht : t < 2) (hd : d < 6) : ∃ h' v, f_X12_laysForced F m (nI t) (nI d) h = some (nI v, h') ∧ CI m [5, 6, 8, 9, 10, 14] h h' ∧ FV H b t d 6 true s v ∧ FST h' m H b s t d 6 0 ∧ ∀ v k, RH H b 511 s v → k < 9 → hp_I h' (m + 9) (9 * v + k) = oN (mv H b v k) := by
  unfold f_X12_laysForced
  obtain ⟨h2, e2, c2, w8, w9, -⟩ := rc_laysReached F hF (M := 511) (by decide) r (fun z => absurd rfl z)
  have r2 := r.ci c2 (by decide)
  obtain ⟨h3, e3, c3, w3⟩ := rc_force9 F hF ht hd 65536 0 F h2 r2 w8 (fun u hu => absurd hu (by omega)) (by omega) (by omega)
  obtain ⟨h4, v, e4, c4, w4, w5, w6⟩ := rc_force67 F hF 6 0 F h3 (r2.ci c3 (by decide)) (w8.cg (c3.at (by decide)) (fun _ _ => Iff.rfl)) (fun v k hv hk => by rw [c3.at (by decide)]; exact w9 v k hv hk) w3 (by omega) (by omega)
  rw [cV_n r.1.1 (show f_X12_laysReached F m 511 h = _ from e2), show f_X12_laysForced_9 F F m (nI t) (nI d) 0 h2 = _ from e3, show f_X12_laysForced_67 F F m 1 h3 = _ from e4]
  exact ⟨h4, v, rfl, ((c2.mono (by decide)).tr (c3.mono (by decide))).tr (c4.mono (by decide)), w6, w4, fun v k hv hk => by rw [c4.at (by decide), c3.at (by decide)]; exact w9 v k hv hk⟩
def A_forces (H : HM) (s b : Nat) (x y v : Int32) : Prop := match vi x 2 with
  | none => v = -2
  | some t => match vi y (hm_d H) with
    | none => v = -2
    | some d => ∃ n, FV H b t d 6 true s n ∧ v = tf n
theorem rc_forces (F : Nat) (hF : 70000 ≤ F) {m : Nat} {h : Hp} {H : HM} {s b : Nat} (r : RS h m H s b) (x y : Int32) : ∃ v h', f_X12_forces F m x y h = some (v, h') ∧ CI m [0, 5, 6, 8, 9, 10, 14] h h' ∧ A_forces H s b x y v := by
  have r1 := r.f 0 0
  have h6 := r.d6
  have c0 : CI m [0, 5, 6, 8, 9, 10, 14] h (hp_sI h m 0 0) := (CI.f0).mono (by decide)
  unfold f_X12_forces A_forces
  rw [pI_n r.1.1, bd_n (rc_isTwin F x _)]
  cases hx : vi x 2 with
  | none => rw [if_pos (bsm0 rfl)]; exact ⟨_, _, rfl, c0, rfl⟩
  | some t =>
    obtain ⟨t1, t2⟩ := vi_some hx
    rw [if_neg (bsm1 rfl), cV_n r1.1.1 (rc_isDoing F r1.1 (by omega) r1.dc y)]
    dsimp only
    cases hy : vi y (hm_d H) with
    | none => rw [if_pos (bsm0 rfl)]; exact ⟨_, _, rfl, c0, rfl⟩
    | some d =>
      obtain ⟨d1, d2⟩ := vi_some hy
      obtain ⟨h3, v, e3, c3, s3, -⟩ := rc_laysForced F hF r1 t1 (show d < 6 by omega)
      rw [if_neg (bsm1 rfl), t2, d2, cV_n r1.1.1 e3, bd_n (rc_toldFar F (s3.le (by decide)) h3)]
      exact ⟨_, _, rfl, c0.tr (c3.mono (by decide)), v, s3, rfl⟩
/-- the friend's first move: by which it is forced just then -/
def BM (H : HM) (s b t d n : Nat) (v : Int32) : Prop := (v = -1 ∧ ∀ k u, k < 9 → mv H b s k = some u → ¬ FV H b t d 6 false u n) ∨ ∃ k u, k < 9 ∧ mv H b s k = some u ∧ FV H b t d 6 false u n ∧ (∀ j u', j < k → mv H b s j = some u' → ¬ FV H b t d 6 false u' n) ∧ v = tm k
def A_best (H : HM) (s b : Nat) (x y v : Int32) : Prop := match vi x 2 with
  | none => v = -2
  | some t => match vi y (hm_d H) with
    | none => v = -2
    | some d => (FV H b t d 6 true s 268435456 ∧ v = -1) ∨ (FV H b t d 6 true s 0 ∧ v = -1) ∨ ∃ n, n < 6 ∧ FV H b t d 6 true s (n + 1) ∧ BM H s b t d n v
theorem rc_best_r (F : Nat) (hF : 2000 ≤ F) {m : Nat} {h : Hp} {H : HM} {s b t d n0 : Nat} (rs : RS h m H s b) (hn6 : n0 < 6) (fs : FST h m H b s t d 6 0) (h9 : ∀ v k, RH H b 511 s v → k < 9 → hp_I h (m + 9) (9 * v + k) = oN (mv H b v k)) : ∀ q k n, k + q = 9 → q < n → (∀ j u', j < k → mv H b s j = some u' → ¬ FV H b t d 6 false u' n0) → ∃ v, f_X12_best_34 F n m (nI (n0 + 1)) (nI k) h = some (v, h) ∧ BM H s b t d n0 v := by
  have hs6 := rs.s16
  intro q
  induction q with
  | zero =>
    intro k n hk hn hz
    obtain ⟨n, rfl⟩ : ∃ j, n = j + 1 := ⟨n - 1, by omega⟩
    show ∃ v, f_X12_best_34_b F (f_X12_best_34 F n) m _ (nI k) h = _ ∧ _
    unfold f_X12_best_34_b
    rw [if_pos (show (9 : Int32) ≤ nI k from nI_le (a := 9) (by omega) (by omega))]
    exact ⟨_, rfl, Or.inl ⟨rfl, fun j u hj hu => hz j u (by omega) hu⟩⟩
  | succ q ih =>
    intro k n hk hn hz
    obtain ⟨n, rfl⟩ : ∃ j, n = j + 1 := ⟨n - 1, by omega⟩
    have hk9 : k < 9 := by omega
    show ∃ v, f_X12_best_34_b F (f_X12_best_34 F n) m _ (nI k) h = _ ∧ _
    unfold f_X12_best_34_b f_X12_best_94
    rw [if_neg (show ¬ (9 : Int32) ≤ nI k from i_ge (a := 9) (by omega) (by decide)), if_neg (nI_nle (by omega) (by omega)), if_neg (show ¬ (268435456 : Int32) ≤ nI (n0 + 1) from i_ge (a := 268435456) (by omega) (by decide)), rs.1.g 9 22 (by decide) rfl, cV_n rs.1.1 (rs.stand F (by omega)), rs.1.a 9 (9 * s + k) (i9k s k) (by decide) (show 9 * s + k < 589824 by omega), h9 s k (RH.rf _ _ _ _) hk9, nI_1 k]
    cases hv : mv H b s k with
    | none =>
      rw [if_pos (show oN none = -1 from rfl)]
      exact ih (k + 1) n (by omega) (by omega) (fun j u hj hu => by
        by_cases z : j = k
        · rw [z, hv] at hu; cases hu
        · exact hz j u (by omega) hu)
    | some u =>
      have o := mv_ok rs.2.1 rs.2.2.2.2.1 hk9 hv
      have hu := o.1.1
      obtain ⟨-, v, v1, v2⟩ := fs u hu ((RH.rf H b 511 s).step hk9 (all511 k hk9) hv)
      rw [if_neg (Nat.not_lt_zero u)] at v2
      have vle := v2.le (by decide)
      rw [if_neg (show ¬ oN (some u) = -1 from nI_nm1 (by omega)), rs.1.g 14 31 (by decide) rfl, rs.1.a 14 u (show oN (some u) = nI u from rfl) (by decide) (show u < 65536 from hu), v1, show nI (n0 + 1) - 1 = nI n0 from (pk_sub (a := n0 + 1) (b := 1) (by omega)).trans (by congr 1)]
      by_cases z : v = n0
      · rw [if_pos (show nI v = nI n0 by rw [z]), bd_n (rc_toldMove F hk9 h)]
        exact ⟨_, rfl, Or.inr ⟨k, u, hk9, hv, by rw [← z]; exact v2, hz, rfl⟩⟩
      · rw [if_neg (fun y => z (nI_inj (by omega) (by omega) y))]
        exact ih (k + 1) n (by omega) (by omega) (fun j u' hj hu' => by
          by_cases y : j = k
          · rw [y, hv] at hu'
            obtain rfl := Option.some.inj hu'
            exact fun w => z (v2.uniq w)
          · exact hz j u' (by omega) hu')
theorem rc_best (F : Nat) (hF : 70000 ≤ F) {m : Nat} {h : Hp} {H : HM} {s b : Nat} (r : RS h m H s b) (x y : Int32) : ∃ v h', f_X12_best F m x y h = some (v, h') ∧ CI m [0, 5, 6, 8, 9, 10, 14] h h' ∧ A_best H s b x y v := by
  have r1 := r.f 0 0
  have h6 := r.d6
  have c0 : CI m [0, 5, 6, 8, 9, 10, 14] h (hp_sI h m 0 0) := (CI.f0).mono (by decide)
  unfold f_X12_best A_best
  rw [pI_n r.1.1, bd_n (rc_isTwin F x _)]
  cases hx : vi x 2 with
  | none => rw [if_pos (bsm0 rfl)]; exact ⟨_, _, rfl, c0, rfl⟩
  | some t =>
    obtain ⟨t1, t2⟩ := vi_some hx
    rw [if_neg (bsm1 rfl), cV_n r1.1.1 (rc_isDoing F r1.1 (by omega) r1.dc y)]
    dsimp only
    cases hy : vi y (hm_d H) with
    | none => rw [if_pos (bsm0 rfl)]; exact ⟨_, _, rfl, c0, rfl⟩
    | some d =>
      obtain ⟨d1, d2⟩ := vi_some hy
      obtain ⟨h3, v, e3, c3, s3, w3, w9⟩ := rc_laysForced F hF r1 t1 (show d < 6 by omega)
      have r3 := r1.ci c3 (by decide)
      have cc := c0.tr (c3.mono (by decide) : CI m [0, 5, 6, 8, 9, 10, 14] _ _)
      rw [if_neg (bsm1 rfl), t2, d2, cV_n r1.1.1 e3]
      dsimp only
      obtain ⟨F', hF'⟩ : ∃ G, F = G + 1 := ⟨F - 1, by omega⟩
      by_cases z : v = 268435456
      · refine ⟨-1, h3, ?_, cc, Or.inl ⟨by rw [← z]; exact s3, rfl⟩⟩
        rw [show f_X12_best_34 F F = f_X12_best_34 F (F' + 1) by rw [← hF']]
        show f_X12_best_34_b F _ m _ _ h3 = _
        unfold f_X12_best_34_b
        rw [if_neg (by decide), if_neg (nI_nle (by omega) (by omega)), if_pos (show (268435456 : Int32) ≤ nI v by rw [z]; decide)]
      · by_cases z0 : v = 0
        · refine ⟨-1, h3, ?_, cc, Or.inr (Or.inl ⟨by rw [← z0]; exact s3, rfl⟩)⟩
          rw [show f_X12_best_34 F F = f_X12_best_34 F (F' + 1) by rw [← hF']]
          show f_X12_best_34_b F _ m _ _ h3 = _
          unfold f_X12_best_34_b
          rw [if_neg (by decide), if_pos (show nI v ≤ 0 by rw [z0]; decide)]
        · obtain ⟨n0, rfl⟩ : ∃ j, v = j + 1 := ⟨v - 1, by omega⟩
          have hn6 : n0 < 6 := by
            rcases s3 with ⟨w, -⟩ | ⟨w, -⟩
            · exact absurd w z
            · omega
          obtain ⟨v, e4, a4⟩ := rc_best_r F (by omega) r3 hn6 w3 w9 9 0 F (by omega) (by omega) (fun j u hj => by omega)
          exact ⟨v, h3, e4, cc, Or.inr (Or.inr ⟨n0, hn6, s3, a4⟩)⟩
