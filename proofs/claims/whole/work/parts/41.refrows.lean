/-! L3: rows counted -/
def sfr (f : Nat → Nat) : Nat → Nat → Nat
  | _, 0 => 0
  | k, q + 1 => f k + sfr f (k + 1) q
theorem sfr_cg {f g : Nat → Nat} : ∀ q k, (∀ x, k ≤ x → x < k + q → f x = g x) → sfr f k q = sfr g k q := by
  intro q
  induction q with
  | zero => intro k _; rfl
  | succ q ih =>
    intro k h
    show f k + sfr f (k + 1) q = g k + sfr g (k + 1) q
    rw [h k (Nat.le_refl _) (by omega), ih (k + 1) (fun x h1 h2 => h x (by omega) (by omega))]
theorem sfr_le {f g : Nat → Nat} : ∀ q k, (∀ x, k ≤ x → x < k + q → f x ≤ g x) → sfr f k q ≤ sfr g k q := by
  intro q
  induction q with
  | zero => intro k _; exact Nat.le_refl _
  | succ q ih =>
    intro k h
    show f k + sfr f (k + 1) q ≤ g k + sfr g (k + 1) q
    exact Nat.add_le_add (h k (Nat.le_refl _) (by omega)) (ih (k + 1) (fun x h1 h2 => h x (by omega) (by omega)))
theorem sfr_mul (c : Nat) (f : Nat → Nat) : ∀ q k, sfr (fun x => c * f x) k q = c * sfr f k q := by
  intro q
  induction q with
  | zero => intro k; rfl
  | succ q ih =>
    intro k
    show c * f k + sfr (fun x => c * f x) (k + 1) q = c * (f k + sfr f (k + 1) q)
    rw [ih, Nat.mul_add]
theorem sfr_mem {f : Nat → Nat} : ∀ q k x, k ≤ x → x < k + q → f x ≤ sfr f k q := by
  intro q
  induction q with
  | zero => intro k x h1 h2; omega
  | succ q ih =>
    intro k x h1 h2
    show f x ≤ f k + sfr f (k + 1) q
    by_cases z : x = k
    · rw [z]; exact Nat.le_add_right _ _
    · exact Nat.le_trans (ih (k + 1) x (by omega) (by omega)) (Nat.le_add_left _ _)
theorem sfr_c1 (c : Nat) : ∀ q k, sfr (fun _ => c) k q = q * c := by
  intro q
  induction q with
  | zero => intro k; exact (Nat.zero_mul c).symm
  | succ q ih =>
    intro k
    show c + sfr (fun _ => c) (k + 1) q = (q + 1) * c
    rw [ih, Nat.add_mul, Nat.one_mul, Nat.add_comm]
theorem sfr_0 {f : Nat → Nat} : ∀ q k, (∀ x, k ≤ x → x < k + q → f x = 0) → sfr f k q = 0 := by
  intro q k h
  rw [sfr_cg (g := fun _ => 0) q k h, sfr_c1, Nat.mul_zero]
/-- what w says of where a move leads -/
def tw (H : HM) (b : Nat) (w : Nat → Nat) (s j : Nat) : Nat := match mv H b s j with
  | none => 0
  | some u => w u
def Tw (H : HM) (b : Nat) (w : Nat → Nat) (s : Nat) : Nat := sfr (tw H b w s) 0 9
/-- rows of n moves that end at a goal -/
def wn (H : HM) (b : Nat) (g : GL) : Nat → Nat → Nat
  | 0 => fun s => b2 (gl H g s)
  | n + 1 => Tw H b (wn H b g n)
def TSw (now : Nat) (A w : Nat → Nat) : Nat := sfr (fun s => A s * w s) now (65536 - now)
def updM (B : Nat → Nat) (o : Option Nat) (a : Nat) : Nat → Nat := match o with
  | none => B
  | some u => fun x => if x = u then B x + a else B x
theorem sfr_upd {B w : Nat → Nat} {u a : Nat} : ∀ q k, k ≤ u → u < k + q → sfr (fun x => (if x = u then B x + a else B x) * w x) k q = sfr (fun x => B x * w x) k q + a * w u := by
  intro q
  induction q with
  | zero => intro k h1 h2; omega
  | succ q ih =>
    intro k h1 h2
    show (if k = u then B k + a else B k) * w k + sfr (fun x => (if x = u then B x + a else B x) * w x) (k + 1) q = B k * w k + sfr (fun x => B x * w x) (k + 1) q + a * w u
    by_cases z : k = u
    · rw [if_pos z, z, sfr_cg (f := fun x => (if x = u then B x + a else B x) * w x) (g := fun x => B x * w x) q (u + 1) (fun x h3 _ => by rw [if_neg (by omega)]), Nat.add_mul]
      omega
    · rw [if_neg z, ih (k + 1) (by omega) (by omega)]
      omega
theorem TSw_upd {H : HM} (hH : HMok H) {b now s j : Nat} (hs : STok H s) (hn : now ≤ s) (hj : j < 9) (B w : Nat → Nat) (a : Nat) : TSw now (updM B (mv H b s j) a) w = TSw now B w + a * tw H b w s j := by
  unfold tw updM
  cases hv : mv H b s j with
  | none => rw [Nat.mul_zero, Nat.add_zero]
  | some u =>
    have o := mv_ok hH hs hj hv
    have := o.1.1
    exact sfr_upd (65536 - now) now (by omega) (by omega)
def addk (H : HM) (b s a : Nat) : Nat → Nat → (Nat → Nat) → Nat → Nat
  | _, 0, B => B
  | k, q + 1, B => addk H b s a (k + 1) q (updM B (mv H b s k) a)
theorem TSw_addk {H : HM} (hH : HMok H) {b now s : Nat} (hs : STok H s) (hn : now ≤ s) (w : Nat → Nat) (a : Nat) : ∀ q k (B : Nat → Nat), k + q = 9 → TSw now (addk H b s a k q B) w = TSw now B w + a * sfr (tw H b w s) k q := by
  intro q
  induction q with
  | zero => intro k B _; show TSw now B w = _ + a * 0; omega
  | succ q ih =>
    intro k B hk
    show TSw now (addk H b s a (k + 1) q (updM B (mv H b s k) a)) w = _ + a * (tw H b w s k + sfr (tw H b w s) (k + 1) q)
    rw [ih (k + 1) _ (by omega), TSw_upd hH hs hn (by omega), Nat.mul_add]
    omega
theorem addk_r {H : HM} {b now s a : Nat} (hr : RH H b 511 now s) : ∀ q k (B : Nat → Nat), k + q = 9 → ∀ u, addk H b s a k q B u ≠ 0 → B u ≠ 0 ∨ RH H b 511 now u := by
  intro q
  induction q with
  | zero => intro k B _ u h; exact Or.inl h
  | succ q ih =>
    intro k B hk u h
    rcases ih (k + 1) _ (by omega) u h with z | z
    · unfold updM at z
      cases hv : mv H b s k with
      | none => rw [hv] at z; exact Or.inl z
      | some v =>
        rw [hv] at z
        by_cases y : u = v
        · rw [y]; exact Or.inr (hr.step (by omega) (all511 k (by omega)) hv)
        · exact Or.inl (by have z : (if u = v then B u + a else B u) ≠ 0 := z; rw [if_neg y] at z; exact z)
    · exact Or.inr z
theorem lN_le0 {v : Nat} (h : v < 2 ^ 62) : lN v ≤ 0 ↔ v = 0 := by
  rw [Int64.le_iff_toInt_le, show (lN v).toInt = (v : Int) from lg_ofNat_toInt (by omega)]
  constructor
  · intro z; have z : (v : Int) ≤ 0 := z; omega
  · intro z; subst z; exact Int.le_refl _
/-- the numbers of rows -/
def ML (h : Hp) (m now : Nat) (A B : Nat → Nat) : Prop := ∀ s, now ≤ s → s < 65536 → hp_L h (m + 11) s = lN (A s) ∧ hp_L h (m + 12) s = lN (B s)
theorem SR.ll {α : Type} {h : Hp} {m : Nat} (s : SR h m) (k j : Nat) {i : Int32} (hi : i = nI j) (hk : k = 11 ∨ k = 12) (hj : j < 65536) (K : Int64 → Option α) : aL h (m + k) i K = K (hp_L h (m + k) j) := by
  have := s.2 k (by omega) (by omega)
  exact aL_n (n := 65536) (by rw [this.2.1]; rcases hk with rfl | rfl <;> rfl) (by rw [this.2.2]; rcases hk with rfl | rfl <;> rfl) hi hj (by decide) K
theorem SR.ls {α : Type} {h : Hp} {m : Nat} (s : SR h m) (k j : Nat) {i : Int32} {v : Int64} (hi : i = nI j) (hk : k = 11 ∨ k = 12) (hj : j < 65536) (K : Hp → Option α) : wL h (m + k) i v K = K (hp_sL h (m + k) j v) := by
  have := s.2 k (by omega) (by omega)
  exact wL_n (n := 65536) (by rw [this.2.1]; rcases hk with rfl | rfl <;> rfl) (by rw [this.2.2]; rcases hk with rfl | rfl <;> rfl) hi hj (by decide) K
theorem sL_ne (h : Hp) {a b : Nat} (k : Nat) (v : Int64) (hb : b ≠ a) : hp_L (hp_sL h a k v) b = hp_L h b := by
  funext i
  rw [hp_L_sL, if_neg (fun z => hb z.1)]
theorem rc_many10 (F : Nat) {m : Nat} {H : HM} {now b s : Nat} {A : Nat → Nat} (hr : RH H b 511 now s) (hA : A s < 2 ^ 62) (h0 : A s ≠ 0) (K : Nat → Int32 → Int32 → Hp → Option (Unit × Hp)) : ∀ q k n (h : Hp) (B : Nat → Nat), RS h m H now b → (∀ v k, RH H b 511 now v → k < 9 → hp_I h (m + 9) (9 * v + k) = oN (mv H b v k)) → ML h m now A B → k + q = 9 → q < n → ∃ h', f_X12_goesMany_10 F K n m (nI now) (nI s) (nI k) h = K m (nI now) (nI (s + 1)) h' ∧ CJ m [] [11, 12] h h' ∧ ML h' m now A (addk H b s (A s) k q B) := by
  intro q
  induction q with
  | zero =>
    intro k n h B rs h9 hm hk hn
    obtain ⟨n, rfl⟩ : ∃ j, n = j + 1 := ⟨n - 1, by omega⟩
    show ∃ h', f_X12_goesMany_10_b F K (f_X12_goesMany_10 F K n) m (nI now) (nI s) (nI k) h = _ ∧ _
    unfold f_X12_goesMany_10_b f_X12_goesMany_68
    rw [if_pos (show (9 : Int32) ≤ nI k from nI_le (a := 9) (by omega) (by omega)), nI_1]
    exact ⟨h, rfl, CJ.rf _ _ _ _, hm⟩
  | succ q ih =>
    intro k n h B rs h9 hm hk hn
    obtain ⟨n, rfl⟩ : ∃ j, n = j + 1 := ⟨n - 1, by omega⟩
    have hk9 : k < 9 := by omega
    have hso := hr.ok rs.2.1 rs.2.2.2.2.1
    have hs6 := hso.1.1
    have ms := hm s hso.2 hs6
    show ∃ h', f_X12_goesMany_10_b F K (f_X12_goesMany_10 F K n) m (nI now) (nI s) (nI k) h = _ ∧ _
    unfold f_X12_goesMany_10_b f_X12_goesMany_62
    rw [if_neg (show ¬ (9 : Int32) ≤ nI k from i_ge (a := 9) (by omega) (by decide)), rs.1.g 11 28 (by decide) rfl, rs.1.ll 11 s rfl (Or.inl rfl) hs6, ms.1, if_neg (fun z => h0 ((lN_le0 hA).mp z)), rs.1.g 9 22 (by decide) rfl, rs.1.a 9 (9 * s + k) (i9k s k) (by decide) (show 9 * s + k < 589824 by omega), h9 s k hr hk9, nI_1 k]
    show ∃ h', _ ∧ _ ∧ ML h' m now A (addk H b s (A s) (k + 1) q (updM B (mv H b s k) (A s)))
    cases hv : mv H b s k with
    | none =>
      rw [if_pos (show oN none = -1 from rfl)]
      exact ih (k + 1) n h B rs h9 hm (by omega) (by omega)
    | some u =>
      have o := mv_ok rs.2.1 hso.1 hk9 hv
      have hu := o.1.1
      have mu := hm u (by omega) hu
      rw [if_neg (show ¬ oN (some u) = -1 from nI_nm1 (by omega)), rs.1.g 12 29 (by decide) rfl, rs.1.ll 12 u (show oN (some u) = nI u from rfl) (Or.inr rfl) hu, rs.1.g 11 28 (by decide) rfl, rs.1.ll 11 s rfl (Or.inl rfl) hs6, ms.1, mu.2, lN_add, rs.1.ls 12 u (show oN (some u) = nI u from rfl) (Or.inr rfl) hu]
      obtain ⟨h', e, c, w⟩ := ih (k + 1) n (hp_sL h (m + 12) u (lN (B u + A s))) (updM B (some u) (A s)) (rs.eqA (rs.1.sL _ _ _) rfl) h9 (fun x x1 x2 => by
        rw [sL_ne _ _ _ (show m + 11 ≠ m + 12 by omega), sL_at]
        refine ⟨(hm x x1 x2).1, ?_⟩
        show _ = lN (if x = u then B x + A s else B x)
        by_cases z : x = u
        · rw [if_pos z, if_pos z, z]
        · rw [if_neg z, if_neg z]; exact (hm x x1 x2).2) (by omega) (by omega)
      exact ⟨h', e, (CJ.sL (by decide)).tr c, w⟩
theorem rc_many2 (F : Nat) (hF : 2000 ≤ F) {m : Nat} {H : HM} {now b : Nat} {A : Nat → Nat} (hA : ∀ s, now ≤ s → s < 65536 → A s < 2 ^ 62) (hAr : ∀ s, A s ≠ 0 → RH H b 511 now s) : ∀ q s n (h : Hp) (B : Nat → Nat), RS h m H now b → (∀ v k, RH H b 511 now v → k < 9 → hp_I h (m + 9) (9 * v + k) = oN (mv H b v k)) → ML h m now A B → (∀ u, B u ≠ 0 → RH H b 511 now u) → s + q = 65536 → now ≤ s → q < n → ∃ h' B', f_X12_goesMany_2 F n m (nI now) (nI s) h = f_X12_goesMany_76 F F m (nI now) h' ∧ CJ m [] [11, 12] h h' ∧ ML h' m now A B' ∧ (∀ u, B' u ≠ 0 → RH H b 511 now u) ∧ ∀ w, TSw now B' w = TSw now B w + sfr (fun x => A x * Tw H b w x) s q := by
  intro q
  induction q with
  | zero =>
    intro s n h B rs h9 hm hB hs hns hn
    obtain ⟨n, rfl⟩ : ∃ j, n = j + 1 := ⟨n - 1, by omega⟩
    show ∃ h' B', f_X12_goesMany_2_b F (f_X12_goesMany_2 F n) m (nI now) (nI s) h = _ ∧ _
    unfold f_X12_goesMany_2_b
    rw [if_pos (show (65536 : Int32) ≤ nI s from nI_le (a := 65536) (by omega) (by omega))]
    exact ⟨h, B, rfl, CJ.rf _ _ _ _, hm, hB, fun w => rfl⟩
  | succ q ih =>
    intro s n h B rs h9 hm hB hs hns hn
    obtain ⟨n, rfl⟩ : ∃ j, n = j + 1 := ⟨n - 1, by omega⟩
    have hs6 : s < 65536 := by omega
    have ms := hm s hns hs6
    have hAs := hA s hns hs6
    show ∃ h' B', f_X12_goesMany_2_b F (f_X12_goesMany_2 F n) m (nI now) (nI s) h = _ ∧ _
    unfold f_X12_goesMany_2_b
    rw [if_neg (show ¬ (65536 : Int32) ≤ nI s from i_ge (a := 65536) (by omega) (by decide))]
    by_cases z : A s = 0
    · obtain ⟨F', hF'⟩ : ∃ G, F = G + 1 := ⟨F - 1, by omega⟩
      have e0 : f_X12_goesMany_10 F (f_X12_goesMany_2 F n) F m (nI now) (nI s) 0 h = f_X12_goesMany_2 F n m (nI now) (nI (s + 1)) h := by
        rw [show f_X12_goesMany_10 F (f_X12_goesMany_2 F n) F = f_X12_goesMany_10 F (f_X12_goesMany_2 F n) (F' + 1) by rw [← hF']]
        show f_X12_goesMany_10_b F (f_X12_goesMany_2 F n) _ m (nI now) (nI s) 0 h = _
        unfold f_X12_goesMany_10_b f_X12_goesMany_68
        rw [if_neg (show ¬ (9 : Int32) ≤ 0 by decide), rs.1.g 11 28 (by decide) rfl, rs.1.ll 11 s rfl (Or.inl rfl) hs6, ms.1, if_pos ((lN_le0 hAs).mpr z), nI_1]
      rw [e0]
      obtain ⟨h', B', e, c, w1, w2, w3⟩ := ih (s + 1) n h B rs h9 hm hB (by omega) (by omega) (by omega)
      refine ⟨h', B', e, c, w1, w2, fun w => ?_⟩
      rw [w3 w]
      show _ = _ + (A s * Tw H b w s + sfr (fun x => A x * Tw H b w x) (s + 1) q)
      rw [z, Nat.zero_mul, Nat.zero_add]
    · have hr := hAr s z
      have hso := hr.ok rs.2.1 rs.2.2.2.2.1
      obtain ⟨h1, e1, c1, w1⟩ := rc_many10 F hr hAs z (f_X12_goesMany_2 F n) 9 0 F h B rs h9 hm (by omega) (by omega)
      rw [show f_X12_goesMany_10 F (f_X12_goesMany_2 F n) F m (nI now) (nI s) 0 h = _ from e1]
      have r1 : RS h1 m H now b := rs.eqA (c1.1.SR rs.1) (c1.at (by decide))
      obtain ⟨h', B', e, c, v1, v2, v3⟩ := ih (s + 1) n h1 _ r1 (fun v k hv hk => by rw [c1.at (by decide)]; exact h9 v k hv hk) w1 (fun u hu => (addk_r hr 9 0 B (by omega) u hu).elim (hB u) id) (by omega) (by omega) (by omega)
      refine ⟨h', B', e, c1.tr c, v1, v2, fun w => ?_⟩
      rw [v3 w, TSw_addk rs.2.1 hso.1 hso.2 w (A s) 9 0 B (by omega)]
      show TSw now B w + A s * Tw H b w s + _ = _ + (A s * Tw H b w s + sfr (fun x => A x * Tw H b w x) (s + 1) q)
      omega
theorem rc_many76 (F : Nat) {m now : Nat} {B : Nat → Nat} : ∀ q s n (h : Hp) (A0 B0 : Nat → Nat), SR h m → ML h m now A0 B0 → (∀ u, s ≤ u → B0 u = B u) → (∀ u, now ≤ u → u < s → A0 u = B u ∧ B0 u = 0) → s + q = 65536 → now ≤ s → q < n → ∃ h', f_X12_goesMany_76 F n m (nI s) h = some ((), h') ∧ CJ m [] [11, 12] h h' ∧ ML h' m now B (fun _ => 0) := by
  intro q
  induction q with
  | zero =>
    intro s n h A0 B0 hS hm h1 h2 hs hns hn
    obtain ⟨n, rfl⟩ : ∃ j, n = j + 1 := ⟨n - 1, by omega⟩
    show ∃ h', f_X12_goesMany_76_b F (f_X12_goesMany_76 F n) m (nI s) h = _ ∧ _
    unfold f_X12_goesMany_76_b
    rw [if_pos (show (65536 : Int32) ≤ nI s from nI_le (a := 65536) (by omega) (by omega))]
    refine ⟨h, rfl, CJ.rf _ _ _ _, fun x x1 x2 => ?_⟩
    have := hm x x1 x2
    have z := h2 x x1 (by omega)
    rw [z.1, z.2] at this
    exact this
  | succ q ih =>
    intro s n h A0 B0 hS hm h1 h2 hs hns hn
    obtain ⟨n, rfl⟩ : ∃ j, n = j + 1 := ⟨n - 1, by omega⟩
    have hs6 : s < 65536 := by omega
    have ms := hm s hns hs6
    show ∃ h', f_X12_goesMany_76_b F (f_X12_goesMany_76 F n) m (nI s) h = _ ∧ _
    unfold f_X12_goesMany_76_b
    rw [if_neg (show ¬ (65536 : Int32) ≤ nI s from i_ge (a := 65536) (by omega) (by decide)), hS.g 11 28 (by decide) rfl, hS.g 12 29 (by decide) rfl, hS.ll 12 s rfl (Or.inr rfl) hs6, ms.2, hS.ls 11 s rfl (Or.inl rfl) hs6]
    have S1 := hS.sL (m + 11) s (lN (B0 s))
    rw [S1.g 12 29 (by decide) rfl, S1.ls 12 s rfl (Or.inr rfl) hs6, nI_1]
    obtain ⟨h', e, c, w⟩ := ih (s + 1) n _ (fun x => if x = s then B0 s else A0 x) (fun x => if x = s then 0 else B0 x) (S1.sL (m + 12) s 0) (fun x x1 x2 => by
      rw [sL_ne _ _ _ (show m + 11 ≠ m + 12 by omega), sL_at, sL_at, sL_ne _ _ _ (show m + 12 ≠ m + 11 by omega)]
      have := hm x x1 x2
      dsimp only
      by_cases z : x = s
      · rw [if_pos z, if_pos z, if_pos z, if_pos z]; exact ⟨rfl, rfl⟩
      · rw [if_neg z, if_neg z, if_neg z, if_neg z]; exact this) (fun u hu => by rw [if_neg (by omega)]; exact h1 u (by omega)) (fun u u1 u2 => by
      by_cases z : u = s
      · rw [if_pos z, if_pos z, z]; exact ⟨h1 s (Nat.le_refl _), rfl⟩
      · rw [if_neg z, if_neg z]; exact h2 u u1 (by omega)) (by omega) (by omega) (by omega)
    exact ⟨h', e, ((CJ.sL (by decide)).tr (CJ.sL (by decide))).tr c, w⟩
theorem Tw_1 (H : HM) (b s : Nat) : Tw H b (fun _ => 1) s ≤ 9 := by
  unfold Tw
  refine Nat.le_trans (sfr_le (g := fun _ => 1) 9 0 (fun x _ _ => ?_)) (by rw [sfr_c1]; exact Nat.le_refl _)
  unfold tw
  cases mv H b s x with
  | none => exact Nat.zero_le _
  | some u => exact Nat.le_refl _
theorem rc_goesMany (F : Nat) (hF : 70000 ≤ F) {m : Nat} {H : HM} {now b : Nat} {A : Nat → Nat} {h : Hp} (rs : RS h m H now b) (h9 : ∀ v k, RH H b 511 now v → k < 9 → hp_I h (m + 9) (9 * v + k) = oN (mv H b v k)) (hm : ML h m now A (fun _ => 0)) (hA : TSw now A (fun _ => 1) < 2 ^ 62) (hAr : ∀ s, A s ≠ 0 → RH H b 511 now s) : ∃ h' A', f_X12_goesMany F m (nI now) h = some ((), h') ∧ CJ m [] [11, 12] h h' ∧ ML h' m now A' (fun _ => 0) ∧ (∀ u, A' u ≠ 0 → RH H b 511 now u) ∧ ∀ w, TSw now A' w = TSw now A (Tw H b w) := by
  have hn := rs.s16
  unfold f_X12_goesMany
  have hA' : ∀ s, now ≤ s → s < 65536 → A s < 2 ^ 62 := fun s h1 h2 => by
    have := sfr_mem (f := fun s => A s * 1) (65536 - now) now s h1 (by omega)
    have e : TSw now A (fun _ => 1) = sfr (fun s => A s * 1) now (65536 - now) := rfl
    omega
  obtain ⟨h1, B, e1, c1, w1, w2, w3⟩ := rc_many2 F (by omega) hA' hAr (65536 - now) now F h (fun _ => 0) rs h9 hm (fun u z => absurd rfl z) (by omega) (Nat.le_refl _) (by omega)
  obtain ⟨h2, e2, c2, v2⟩ := rc_many76 F (B := B) (65536 - now) now F h1 A B (c1.1.SR rs.1) w1 (fun _ _ => rfl) (fun u u1 u2 => by omega) (by omega) (Nat.le_refl _) (by omega)
  refine ⟨h2, B, by rw [e1]; exact e2, c1.tr c2, v2, w2, fun w => ?_⟩
  rw [w3 w, show TSw now (fun _ => 0) w = 0 from sfr_0 _ _ (fun x _ _ => Nat.zero_mul _), Nat.zero_add]
  rfl
theorem rc_rows120 (F : Nat) (hF : 2000 ≤ F) {m : Nat} {H : HM} {now b : Nat} {A B : Nat → Nat} {g : GL} {h : Hp} (rs : RS h m H now b) (gf : GF h m g) (hm : ML h m now A B) (hA : ∀ s, now ≤ s → s < 65536 → A s < 2 ^ 62) : ∀ q s n a, s + q = 65536 → now ≤ s → q < n → f_X12_rows_120 F n m (lN a) (nI s) h = some (lN (a + sfr (fun x => A x * b2 (gl H g x)) s q), h) := by
  intro q
  induction q with
  | zero =>
    intro s n a hs hns hn
    obtain ⟨n, rfl⟩ : ∃ j, n = j + 1 := ⟨n - 1, by omega⟩
    show f_X12_rows_120_b F (f_X12_rows_120 F n) m (lN a) (nI s) h = _
    unfold f_X12_rows_120_b
    rw [if_pos (show (65536 : Int32) ≤ nI s from nI_le (a := 65536) (by omega) (by omega))]
    rfl
  | succ q ih =>
    intro s n a hs hns hn
    obtain ⟨n, rfl⟩ : ∃ j, n = j + 1 := ⟨n - 1, by omega⟩
    have hs6 : s < 65536 := by omega
    have ms := hm s hns hs6
    have hAs := hA s hns hs6
    have z0 : ∀ a : Nat, lN a + 0 = lN a := fun a => lN_add a 0
    have ih1 : ∀ a, f_X12_rows_120 F n m (lN a) (nI (s + 1)) h = some (lN (a + sfr (fun x => A x * b2 (gl H g x)) (s + 1) q), h) := fun a => ih (s + 1) n a (by omega) (by omega) (by omega)
    show f_X12_rows_120_b F (f_X12_rows_120 F n) m (lN a) (nI s) h = some (lN (a + (A s * b2 (gl H g s) + sfr (fun x => A x * b2 (gl H g x)) (s + 1) q)), h)
    unfold f_X12_rows_120_b f_X12_rows_160 f_X12_rows_161
    rw [if_neg (show ¬ (65536 : Int32) ≤ nI s from i_ge (a := 65536) (by omega) (by decide)), rs.1.g 11 28 (by decide) rfl, rs.1.ll 11 s rfl (Or.inl rfl) hs6, ms.1, lt_e, z0, nI_1, ih1 a]
    by_cases z : A s = 0
    · rw [if_pos ((lN_le0 hAs).mpr z), z, Nat.zero_mul, Nat.zero_add]
    · rw [if_neg (fun y => z ((lN_le0 hAs).mp y)), cV_n rs.1.1 (rc_isGoal F (by omega) rs gf hs6)]
      cases hg : gl H g s with
      | false => rw [if_pos (show nI (b2 false) = 0 from rfl), lt_e, ih1 a]; show _ = some (lN (a + (A s * 0 + _)), h); rw [Nat.mul_zero, Nat.zero_add]
      | true =>
        rw [if_neg (show ¬ nI (b2 true) = 0 by decide), rs.1.g 11 28 (by decide) rfl, rs.1.ll 11 s rfl (Or.inl rfl) hs6, ms.1, lt_e, lN_add, ih1 (a + A s)]
        show _ = some (lN (a + (A s * 1 + _)), h)
        rw [Nat.mul_one, Nat.add_assoc]
theorem rc_rows95 (F : Nat) (hF : 70000 ≤ F) {m : Nat} {H : HM} {now b N : Nat} {g : GL} (hN : N ≤ 12) : ∀ q k n (h : Hp) (A : Nat → Nat), RS h m H now b → GF h m g → (∀ v k, RH H b 511 now v → k < 9 → hp_I h (m + 9) (9 * v + k) = oN (mv H b v k)) → ML h m now A (fun _ => 0) → TSw now A (fun _ => 1) ≤ 9 ^ k → (∀ s, A s ≠ 0 → RH H b 511 now s) → k + q = N → q < n → ∃ h', f_X12_rows_95 F n m (nI N) (nI now) (nI k) h = some (lN (TSw now A (wn H b g q)), h') ∧ CJ m [] [11, 12] h h' := by
  have p9 : ∀ k, k ≤ 12 → 9 ^ k ≤ 282429536481 := fun k hk => Nat.le_trans (Nat.pow_le_pow_right (by decide) hk) (by decide)
  intro q
  induction q with
  | zero =>
    intro k n h A rs gf h9 hm h1 hAr hk hn
    obtain ⟨n, rfl⟩ : ∃ j, n = j + 1 := ⟨n - 1, by omega⟩
    have hn6 := rs.s16
    have h12 := p9 k (by omega)
    show ∃ h', f_X12_rows_95_b F (f_X12_rows_95 F n) m (nI N) (nI now) (nI k) h = _ ∧ _
    unfold f_X12_rows_95_b
    rw [if_pos (nI_le (by omega) (by omega))]
    refine ⟨h, ?_, CJ.rf _ _ _ _⟩
    rw [show f_X12_rows_120 F F m 0 (nI now) h = _ from rc_rows120 F (by omega) rs gf hm (fun s a1 a2 => by
      have := sfr_mem (f := fun s => A s * 1) (65536 - now) now s a1 (by omega)
      have e : TSw now A (fun _ => 1) = sfr (fun s => A s * 1) now (65536 - now) := rfl
      omega) (65536 - now) now F 0 (by omega) (Nat.le_refl _) (by omega), Nat.zero_add]
    rfl
  | succ q ih =>
    intro k n h A rs gf h9 hm h1 hAr hk hn
    obtain ⟨n, rfl⟩ : ∃ j, n = j + 1 := ⟨n - 1, by omega⟩
    have h12 := p9 k (by omega)
    show ∃ h', f_X12_rows_95_b F (f_X12_rows_95 F n) m (nI N) (nI now) (nI k) h = _ ∧ _
    unfold f_X12_rows_95_b
    obtain ⟨h2, A', e2, c2, m2, r2, w2⟩ := rc_goesMany F hF rs h9 hm (by omega) hAr
    rw [if_neg (nI_ge (by omega) (by omega)), cV_n rs.1.1 e2, nI_1]
    have rs2 : RS h2 m H now b := rs.eqA (c2.1.SR rs.1) (c2.at (by decide))
    have m0 : hp_I h2 m = hp_I h m := by have := c2.at (k := 0) (by decide); exact this
    obtain ⟨h', e, c⟩ := ih (k + 1) n h2 A' rs2 (gf.cg m0) (fun v j hv hj => by rw [c2.at (by decide)]; exact h9 v j hv hj) m2 (by
      rw [w2]
      have : TSw now A (Tw H b (fun _ => 1)) ≤ 9 * TSw now A (fun _ => 1) := by
        unfold TSw
        rw [← sfr_mul]
        exact sfr_le _ _ (fun x _ _ => by
          have := Tw_1 H b x
          show A x * _ ≤ 9 * (A x * 1)
          rw [Nat.mul_one, Nat.mul_comm 9]
          exact Nat.mul_le_mul_left _ this)
      rw [Nat.pow_succ]
      omega) r2 (by omega) (by omega)
    refine ⟨h', ?_, c2.tr c⟩
    rw [e, w2]
    rfl
theorem rc_rows52 (F : Nat) {m now N : Nat} (hn : now < 65536) : ∀ q k n (h : Hp), SR h m → k + q = 65536 → q < n → (∀ s, s < k → hp_L h (m + 11) s = lN (if s = now then 1 else 0) ∧ hp_L h (m + 12) s = lN 0) → ∃ h', f_X12_rows_52 F n m (nI N) (nI now) (nI k) h = f_X12_rows_95 F F m (nI N) (nI now) 0 h' ∧ CJ m [] [11, 12] h h' ∧ ML h' m now (fun s => if s = now then 1 else 0) (fun _ => 0) := by
  intro q
  induction q with
  | zero =>
    intro k n h hS hk hn' hb
    obtain ⟨n, rfl⟩ : ∃ j, n = j + 1 := ⟨n - 1, by omega⟩
    show ∃ h', f_X12_rows_52_b F (f_X12_rows_52 F n) m (nI N) (nI now) (nI k) h = _ ∧ _
    unfold f_X12_rows_52_b
    rw [if_pos (show (65536 : Int32) ≤ nI k from nI_le (a := 65536) (by omega) (by omega))]
    exact ⟨h, rfl, CJ.rf _ _ _ _, fun s _ s2 => hb s (by omega)⟩
  | succ q ih =>
    intro k n h hS hk hn' hb
    obtain ⟨n, rfl⟩ : ∃ j, n = j + 1 := ⟨n - 1, by omega⟩
    have hk6 : k < 65536 := by omega
    have fin : ∀ v : Nat, v = (if k = now then 1 else 0) → ∃ h', f_X12_rows_77 F (f_X12_rows_52 F n) m (nI N) (nI now) (nI k) (lN v) (nI k) (m + 11) h = f_X12_rows_95 F F m (nI N) (nI now) 0 h' ∧ CJ m [] [11, 12] h h' ∧ ML h' m now (fun s => if s = now then 1 else 0) (fun _ => 0) := by
      intro v hv
      unfold f_X12_rows_77
      have S1 := hS.sL (m + 11) k (lN v)
      rw [hS.ls 11 k rfl (Or.inl rfl) hk6, S1.g 12 29 (by decide) rfl, S1.ls 12 k rfl (Or.inr rfl) hk6, nI_1]
      obtain ⟨h', e, c, w⟩ := ih (k + 1) n _ (S1.sL (m + 12) k 0) (by omega) (by omega) (fun s hs => by
        rw [sL_ne _ _ _ (show m + 11 ≠ m + 12 by omega), sL_at, sL_at, sL_ne _ _ _ (show m + 12 ≠ m + 11 by omega)]
        by_cases z : s = k
        · rw [if_pos z, if_pos z, hv, z]; exact ⟨rfl, rfl⟩
        · rw [if_neg z, if_neg z]; exact hb s (by omega))
      exact ⟨h', e, ((CJ.sL (by decide)).tr (CJ.sL (by decide))).tr c, w⟩
    show ∃ h', f_X12_rows_52_b F (f_X12_rows_52 F n) m (nI N) (nI now) (nI k) h = _ ∧ _
    unfold f_X12_rows_52_b
    rw [if_neg (show ¬ (65536 : Int32) ≤ nI k from i_ge (a := 65536) (by omega) (by decide)), hS.g 11 28 (by decide) rfl]
    by_cases z : k = now
    · rw [if_pos (show nI k = nI now by rw [z])]
      exact fin 1 (by rw [if_pos z])
    · rw [if_neg (fun y => z (nI_inj (by omega) (by omega) y))]
      exact fin 0 (by rw [if_neg z])
theorem TSw_d {now : Nat} (hn : now < 65536) (w : Nat → Nat) : TSw now (fun s => if s = now then 1 else 0) w = w now := by
  have := sfr_upd (B := fun _ => 0) (w := w) (u := now) (a := 1) (65536 - now) now (Nat.le_refl _) (by omega)
  rw [sfr_0 (f := fun x => 0 * w x) _ _ (fun x _ _ => Nat.zero_mul _), Nat.one_mul] at this
  exact this.trans (Nat.zero_add _)
def sp_rows (H : HM) (s b : Nat) (x y z : Int32) : Int64 := match gsets H x y with
  | none => -3
  | some q => match vb z 0 12 with
    | none => -3
    | some n => lN (wn H b (.inl q) n s)
theorem rc_rows (F : Nat) (hF : 70000 ≤ F) {m : Nat} {h : Hp} {H : HM} {s b : Nat} (r : RS h m H s b) (x y z : Int32) : ∃ h', f_X12_rows F m x y z h = some (sp_rows H s b x y z, h') ∧ CJ m [0, 5, 6, 8, 9, 10] [11, 12] h h' := by
  have r1 := r.f 0 0
  have hn := r.s16
  have c0 : CI m [0, 5, 6, 8, 9, 10] h (hp_sI h m 0 0) := (CI.f0).mono (by decide)
  unfold f_X12_rows sp_rows
  rw [pI_n r.1.1, cV_n r1.1.1 (rc_areSets F r1 x y)]
  cases hq : gsets H x y with
  | none => rw [if_pos (bsm0 rfl)]; exact ⟨_, rfl, c0.j _⟩
  | some q =>
    rw [if_neg (bsm1 rfl), bd_n (show f_X12_within F z.toInt64 0 12 _ = _ from rc_wb F z (a := 0) (c := 12) (by decide) (by decide) _)]
    dsimp only
    cases hz : vb z 0 12 with
    | none => rw [if_pos (bsm0 rfl)]; exact ⟨_, rfl, c0.j _⟩
    | some N =>
      obtain ⟨-, n2, n3, -⟩ := vb_some hz
      obtain ⟨h2, e2, c2, g2⟩ := rc_goals F r1 hq
      have r2 := r1.ci c2 (by decide)
      obtain ⟨h3, e3, c3, -, w9, -⟩ := rc_laysReached F hF (M := 511) (by decide) r2 (fun z => absurd rfl z)
      have r3 := r2.ci c3 (by decide)
      obtain ⟨h4, e4, c4, w4⟩ := rc_rows52 F (N := N) hn 65536 0 F h3 r3.1 (by omega) (by omega) (fun s hs => absurd hs (by omega))
      have r4 : RS h4 m H s b := r3.eqA (c4.1.SR r3.1) (c4.at (by decide))
      have g3 := g2.cg (c3.m0 (by decide))
      have m0 : hp_I h4 m = hp_I h3 m := by have := c4.at (k := 0) (by decide); exact this
      obtain ⟨h5, e5, c5⟩ := rc_rows95 F hF (N := N) (g := .inl q) n2 N 0 F h4 _ r4 (g3.cg m0) (fun v j hv hj => by rw [c4.at (by decide)]; exact w9 v j hv hj) w4 (by rw [TSw_d hn]; exact Nat.le_refl _) (fun u hu => by
        by_cases y : u = s
        · rw [y]; exact RH.rf _ _ _ _
        · exact absurd (if_neg y) hu) (by omega) (by omega)
      rw [if_neg (bsm1 rfl), cV_n r1.1.1 e2, cV_n r2.1.1 (show f_X12_laysReached F m 511 h2 = _ from e3), cV_n r3.1.1 (r3.stand F (by omega)), n3, show f_X12_rows_52 F F m (nI N) (nI s) 0 h3 = _ from e4, show f_X12_rows_95 F F m (nI N) (nI s) 0 h4 = _ from e5, TSw_d hn]
      exact ⟨_, rfl, ((((c0.tr (c2.mono (by decide))).tr (c3.mono (by decide))).j _).tr (c4.mono (by decide))).tr (c5.mono (by decide))⟩
