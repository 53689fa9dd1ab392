/-! L3: what searches answer in the reference -/
def A_soonest (H : HM) (s b : Nat) (x y v : Int32) : Prop := match gsets H x y with
  | none => v = -3
  | some q => ∃ d, SD H b 511 (.inl q) false s d ∧ v = tf d
def A_at (H : HM) (s b : Nat) (g : GL) (i v : Int32) : Prop := (SD H b 511 g false s 268435456 ∧ v = -1) ∨ ∃ ms, LW H b g ms s ∧ v = wa ms i.toInt.toNat
def A_way (H : HM) (s b : Nat) (x y i v : Int32) : Prop := match gsets H x y with
  | none => v = -3
  | some q => if 0 ≤ i then A_at H s b (.inl q) i v else v = -3
def A_alone (H : HM) (s b : Nat) (x y v : Int32) : Prop := match vi x 2 with
  | none => v = -2
  | some t => match vi y (hm_d H) with
    | none => v = -2
    | some d => ∃ n, SD H b 511 (.inr (t, d)) false s n ∧ v = tf n
def A_aloneWay (H : HM) (s b : Nat) (x y i v : Int32) : Prop := match vi x 2 with
  | none => v = -2
  | some t => match vi y (hm_d H) with
    | none => v = -2
    | some d => if 0 ≤ i then A_at H s b (.inr (t, d)) i v else v = -3
theorem i_nn {i : Int32} (h : 0 ≤ i) : i = nI i.toInt.toNat ∧ i.toInt.toNat < 2 ^ 31 := by
  have h1 := Int32.le_iff_toInt_le.mp h
  have h2 := Int32.toInt_lt i
  have h1 : 0 ≤ i.toInt := h1
  have h3 : i.toInt.toNat < 2 ^ 31 := by omega
  refine ⟨Int32.toInt_inj.mp ?_, h3⟩
  rw [nI_toInt h3]
  omega
theorem CI.m0 {m : Nat} {ks : List Nat} {h h' : Hp} (c : CI m ks h h') (hk : 0 ∉ ks) : hp_I h' m = hp_I h m := c.2.2 m (fun k q e => hk (by rw [show 0 = k by omega]; exact q))
theorem rc_soonest (F : Nat) (hF : 70000 ≤ F) {m : Nat} {h : Hp} {H : HM} {s b : Nat} (r : RS h m H s b) (x y : Int32) : ∃ v h', f_X12_soonest F m x y h = some (v, h') ∧ CI m [0, 5, 6, 8, 9, 10] h h' ∧ A_soonest H s b x y v := by
  have r1 := r.f 0 0
  have c0 : CI m [0, 5, 6, 8, 9, 10] h (hp_sI h m 0 0) := (CI.f0).mono (by decide)
  unfold f_X12_soonest A_soonest
  rw [pI_n r.1.1, cV_n r1.1.1 (rc_areSets F r1 x y)]
  cases hq : gsets H x y with
  | none => rw [if_pos (bsm0 rfl)]; exact ⟨_, _, rfl, c0, rfl⟩
  | some q =>
    obtain ⟨h2, e2, c2, g2⟩ := rc_goals F r1 hq
    have r2 := r1.ci c2 (by decide)
    obtain ⟨h3, d, e3, c3, s3, -⟩ := rc_laysStill F hF (M := 511) (free := false) (by decide) r2 g2 (fun z => absurd rfl z)
    rw [if_neg (bsm1 rfl), cV_n r1.1.1 e2, cV_n r2.1.1 (show f_X12_laysStill F m 511 0 h2 = _ from e3), bd_n (rc_toldFar F s3.le h3)]
    exact ⟨_, _, rfl, (c0.tr (c2.mono (by decide))).tr (c3.mono (by decide)), d, s3, rfl⟩
def A_tellings (H : HM) (s b : Nat) (x y v : Int32) : Prop := match gsets H x y with
  | none => v = -3
  | some q => ∃ d, SD H b 511 (.inl q) true s d ∧ v = tf d
theorem rc_tellings (F : Nat) (hF : 70000 ≤ F) {m : Nat} {h : Hp} {H : HM} {s b : Nat} (r : RS h m H s b) (x y : Int32) : ∃ v h', f_X12_tellings F m x y h = some (v, h') ∧ CI m [0, 5, 6, 8, 9, 10] h h' ∧ A_tellings H s b x y v := by
  have r1 := r.f 0 0
  have c0 : CI m [0, 5, 6, 8, 9, 10] h (hp_sI h m 0 0) := (CI.f0).mono (by decide)
  unfold f_X12_tellings A_tellings
  rw [pI_n r.1.1, cV_n r1.1.1 (rc_areSets F r1 x y)]
  cases hq : gsets H x y with
  | none => rw [if_pos (bsm0 rfl)]; exact ⟨_, _, rfl, c0, rfl⟩
  | some q =>
    obtain ⟨h2, e2, c2, g2⟩ := rc_goals F r1 hq
    have r2 := r1.ci c2 (by decide)
    obtain ⟨h3, d, e3, c3, s3, -⟩ := rc_laysStill F hF (M := 511) (free := true) (by decide) r2 g2 (fun z => absurd rfl z)
    rw [if_neg (bsm1 rfl), cV_n r1.1.1 e2, cV_n r2.1.1 (show f_X12_laysStill F m 511 1 h2 = _ from e3), bd_n (rc_toldFar F s3.le h3)]
    exact ⟨_, _, rfl, (c0.tr (c2.mono (by decide))).tr (c3.mono (by decide)), d, s3, rfl⟩
theorem rc_way (F : Nat) (hF : 70000 ≤ F) {m : Nat} {h : Hp} {H : HM} {s b : Nat} (r : RS h m H s b) (x y i : Int32) : ∃ v h', f_X12_way F m x y i h = some (v, h') ∧ CI m [0, 5, 6, 8, 9, 10] h h' ∧ A_way H s b x y i v := by
  have r1 := r.f 0 0
  have c0 : CI m [0, 5, 6, 8, 9, 10] h (hp_sI h m 0 0) := (CI.f0).mono (by decide)
  unfold f_X12_way A_way
  rw [pI_n r.1.1, cV_n r1.1.1 (rc_areSets F r1 x y)]
  cases hq : gsets H x y with
  | none => rw [if_pos (bsm0 rfl)]; exact ⟨_, _, rfl, c0, rfl⟩
  | some q =>
    rw [if_neg (bsm1 rfl)]
    dsimp only
    by_cases hi : 0 ≤ i
    · obtain ⟨i1, i2⟩ := i_nn hi
      obtain ⟨h2, e2, c2, g2⟩ := rc_goals F r1 hq
      have r2 := r1.ci c2 (by decide)
      obtain ⟨h3, d, e3, c3, s3, -, w3, -, w4, -⟩ := rc_laysStill F hF (M := 511) (free := false) (by decide) r2 g2 (fun z => absurd rfl z)
      have r3 := r2.ci c3 (by decide)
      obtain ⟨a, e4, w5⟩ := rc_moveAt F hF (show SRC h3 m H s b (.inl q) from ⟨r3, w3, w4⟩) s3 i2
      rw [← i1] at e4
      rw [if_pos hi, cV_n r1.1.1 e2, cV_n r2.1.1 (show f_X12_laysStill F m 511 0 h2 = _ from e3), cV_n r3.1.1 e4]
      refine ⟨_, _, rfl, (c0.tr (c2.mono (by decide))).tr (c3.mono (by decide)), ?_⟩
      rw [if_pos hi]
      rcases w5 with ⟨z1, z2⟩ | ⟨-, ms, z1, -, z2⟩
      · exact Or.inl ⟨by rw [← z1]; exact s3, z2⟩
      · exact Or.inr ⟨ms, z1, z2⟩
    · rw [if_neg hi]; exact ⟨_, _, rfl, c0, by rw [if_neg hi]⟩
theorem rc_laysAlone (F : Nat) (hF : 70000 ≤ F) {m : Nat} {h : Hp} {H : HM} {s b : Nat} (r : RS h m H s b) {t d : Nat} (ht : t < 2) (hd : d < 6) : ∃ v h', f_X12_laysAlone F m (nI t) (nI d) h = some (nI v, h') ∧ CI m [0, 5, 6, 8, 9, 10] h h' ∧ SD H b 511 (.inr (t, d)) false s v ∧ SRC h' m H s b (.inr (t, d)) := by
  unfold f_X12_laysAlone
  have r1 := r.f 26 (nI t)
  have r2 := r1.f 27 (nI d)
  have gf : GF (hp_sI (hp_sI h m 26 (nI t)) m 27 (nI d)) m (.inr (t, d)) := by
    show hp_I _ m 26 = nI t ∧ hp_I _ m 27 = nI d ∧ t < 2 ∧ d < 6
    rw [sI_at, sI_at, sI_at]
    exact ⟨rfl, rfl, ht, hd⟩
  obtain ⟨h3, v, e3, c3, s3, -, w3, -, w4, -⟩ := rc_laysStill F hF (M := 511) (free := false) (by decide) r2 gf (fun z => absurd rfl z)
  rw [pI_n r.1.1, pI_n r1.1.1, cV_n r2.1.1 (show f_X12_laysStill F m 511 0 _ = _ from e3)]
  exact ⟨v, h3, rfl, (((CI.f0).mono (by decide)).tr ((CI.f0).mono (by decide))).tr (c3.mono (by decide)), s3, r2.ci c3 (by decide), w3, w4⟩
theorem rc_alone (F : Nat) (hF : 70000 ≤ F) {m : Nat} {h : Hp} {H : HM} {s b : Nat} (r : RS h m H s b) (x y : Int32) : ∃ v h', f_X12_alone F m x y h = some (v, h') ∧ CI m [0, 5, 6, 8, 9, 10] h h' ∧ A_alone H s b x y v := by
  have r1 := r.f 0 0
  have h6 := r.d6
  have c0 : CI m [0, 5, 6, 8, 9, 10] h (hp_sI h m 0 0) := (CI.f0).mono (by decide)
  unfold f_X12_alone A_alone
  rw [pI_n r.1.1, bd_n (rc_isTwin F x _)]
  cases hx : vi x 2 with
  | none => rw [if_pos (bsm0 rfl)]; exact ⟨_, _, rfl, c0, rfl⟩
  | some t =>
    obtain ⟨t1, t2⟩ := vi_some hx
    rw [if_neg (bsm1 rfl), cV_n r1.1.1 (rc_isDoing F r1.1 (by omega) r1.dc y)]
    dsimp only
    cases hy : vi y (hm_d H) with
    | none => rw [if_pos (bsm0 rfl)]; exact ⟨_, _, rfl, c0, rfl⟩
    | some d =>
      obtain ⟨d1, d2⟩ := vi_some hy
      obtain ⟨v, h3, e3, c3, s3, -⟩ := rc_laysAlone F hF r1 t1 (show d < 6 by omega)
      rw [if_neg (bsm1 rfl), t2, d2, cV_n r1.1.1 e3, bd_n (rc_toldFar F s3.le h3)]
      exact ⟨_, _, rfl, c0.tr c3, v, s3, rfl⟩
theorem rc_aloneWay (F : Nat) (hF : 70000 ≤ F) {m : Nat} {h : Hp} {H : HM} {s b : Nat} (r : RS h m H s b) (x y i : Int32) : ∃ v h', f_X12_aloneWay F m x y i h = some (v, h') ∧ CI m [0, 5, 6, 8, 9, 10] h h' ∧ A_aloneWay H s b x y i v := by
  have r1 := r.f 0 0
  have h6 := r.d6
  have c0 : CI m [0, 5, 6, 8, 9, 10] h (hp_sI h m 0 0) := (CI.f0).mono (by decide)
  unfold f_X12_aloneWay A_aloneWay
  rw [pI_n r.1.1, bd_n (rc_isTwin F x _)]
  cases hx : vi x 2 with
  | none => rw [if_pos (bsm0 rfl)]; exact ⟨_, _, rfl, c0, rfl⟩
  | some t =>
    obtain ⟨t1, t2⟩ := vi_some hx
    rw [if_neg (bsm1 rfl), cV_n r1.1.1 (rc_isDoing F r1.1 (by omega) r1.dc y)]
    dsimp only
    cases hy : vi y (hm_d H) with
    | none => rw [if_pos (bsm0 rfl)]; exact ⟨_, _, rfl, c0, rfl⟩
    | some d =>
      obtain ⟨d1, d2⟩ := vi_some hy
      rw [if_neg (bsm1 rfl)]
      dsimp only
      by_cases hi : 0 ≤ i
      · obtain ⟨i1, i2⟩ := i_nn hi
        obtain ⟨v, h3, e3, c3, s3, w3⟩ := rc_laysAlone F hF r1 t1 (show d < 6 by omega)
        obtain ⟨a, e4, w5⟩ := rc_moveAt F hF w3 s3 i2
        rw [← i1] at e4
        rw [if_pos hi, t2, d2, cV_n r1.1.1 e3, cV_n w3.1.1.1 e4]
        refine ⟨_, _, rfl, c0.tr c3, ?_⟩
        rw [if_pos hi]
        rcases w5 with ⟨z1, z2⟩ | ⟨-, ms, z1, -, z2⟩
        · exact Or.inl ⟨by rw [← z1]; exact s3, z2⟩
        · exact Or.inr ⟨ms, z1, z2⟩
      · rw [if_neg hi]; exact ⟨_, _, rfl, c0, by rw [if_neg hi]⟩
/-- the moves but the tellings of f -/
def Mf (f : Nat) : Nat := 511 - 2 ^ f - 2 ^ (4 + f)
theorem Mf_e : ∀ f, f < 4 → (511 &&& (((1 : Int32) <<< (nI f &&& 31)) ^^^ (-1))) &&& (((1 : Int32) <<< ((4 + nI f) &&& 31)) ^^^ (-1)) = nI (Mf f) := by decide +kernel
theorem Mf_p : ∀ f, f < 4 → Mf f < 512 ∧ ¬ Mf f = 511 := by decide
/-- no row of these moves comes to a goal -/
def NP (H : HM) (b M : Nat) (g : GL) (s : Nat) : Prop := ∀ ms, mo M ms → ¬ gto H b g s ms
theorem SD.np {H : HM} {b M : Nat} {g : GL} {free : Bool} {s v : Nat} (h : SD H b M g free s v) : v = 268435456 ↔ NP H b M g s := by
  rcases h with ⟨h1, h2⟩ | ⟨h1, ⟨ms, h2, h3, -⟩, -⟩
  · exact ⟨fun _ => h2, fun _ => h1⟩
  · exact ⟨fun z => by omega, fun z => absurd h3 (z ms h2)⟩
noncomputable def npb (H : HM) (b : Nat) (g : GL) (s f : Nat) : Bool := @decide (NP H b (Mf f) g s) (Classical.propDecidable _)
theorem npb_e {H : HM} {b : Nat} {g : GL} {s f : Nat} : npb H b g s f = true ↔ NP H b (Mf f) g s := @decide_eq_true_iff _ (Classical.propDecidable _)
theorem rc_needed_r (F : Nat) (hF : 70000 ≤ F) {m : Nat} {H : HM} {s b : Nat} {g : GL} : ∀ q k n (h : Hp), RS h m H s b → GF h m g → (∀ v k, RH H b 511 s v → k < 9 → hp_I h (m + 9) (9 * v + k) = oN (mv H b v k)) → k + q = hm_f H → q < n → ∃ h', f_X12_needed_44 F n m (nI (msk (npb H b g s) k)) (nI k) h = some (nI (msk (npb H b g s) (hm_f H)), h') ∧ CI m [5, 6, 8, 9, 10] h h' := by
  intro q
  induction q with
  | zero =>
    intro k n h rs gf h9 hk hn
    obtain ⟨n, rfl⟩ : ∃ j, n = j + 1 := ⟨n - 1, by omega⟩
    have h4 := rs.f4
    show ∃ h', f_X12_needed_44_b F (f_X12_needed_44 F n) m (nI (msk (npb H b g s) k)) (nI k) h = _ ∧ _
    unfold f_X12_needed_44_b
    rw [rs.1.g 1 1 (by decide) rfl, rs.1.a 1 1 (show (1 : Int32) = nI 1 from rfl) (by decide) (by decide), rs.fc, if_pos (nI_le (by omega) (by omega)), show k = hm_f H by omega]
    exact ⟨h, rfl, CI.rf _ _ _⟩
  | succ q ih =>
    intro k n h rs gf h9 hk hn
    obtain ⟨n, rfl⟩ : ∃ j, n = j + 1 := ⟨n - 1, by omega⟩
    have h4 := rs.f4
    have hk4 : k < 4 := by omega
    obtain ⟨p1, p2⟩ := Mf_p k hk4
    obtain ⟨h1, v, e1, c1, s1, -, -, -, -, w1⟩ := rc_laysStill F hF (M := Mf k) (free := false) p1 rs gf (fun _ v j hv hj => h9 v j (hv.mono (fun k hk _ => all511 k hk)) hj)
    have r1 := rs.ci c1 (by decide)
    show ∃ h', f_X12_needed_44_b F (f_X12_needed_44 F n) m (nI (msk (npb H b g s) k)) (nI k) h = _ ∧ _
    unfold f_X12_needed_44_b f_X12_needed_94
    rw [rs.1.g 1 1 (by decide) rfl, rs.1.a 1 1 (show (1 : Int32) = nI 1 from rfl) (by decide) (by decide), rs.fc, if_neg (nI_ge (by omega) (by omega)), Mf_e k hk4, cV_n rs.1.1 (show f_X12_laysStill F m (nI (Mf k)) 0 h = _ from e1), lt_e, lt_e, nI_1, shl1 k (by omega)]
    have em := or_msk (p := npb H b g s) (n := k) (by omega)
    obtain ⟨h', e, c⟩ := ih (k + 1) n h1 r1 (gf.cg (c1.m0 (by decide))) (fun v j hv hj => by rw [w1 p2]; exact h9 v j hv hj) (by omega) (by omega)
    have hle := s1.le
    by_cases z : v = 268435456
    · rw [if_pos (npb_e.mpr (s1.np.mp z))] at em
      rw [if_pos (show nI v = 268435456 by rw [z]; rfl), em]
      exact ⟨h', e, c1.tr c⟩
    · rw [if_neg (fun y => z (s1.np.mpr (npb_e.mp y)))] at em
      rw [if_neg (show ¬ nI v = 268435456 from fun y => z (nI_inj (b := 268435456) (by omega) (by decide) y)), em]
      exact ⟨h', e, c1.tr c⟩
def A_needed (H : HM) (s b : Nat) (x y v : Int32) : Prop := match gsets H x y with
  | none => v = -3
  | some q => (NP H b 511 (.inl q) s ∧ v = 0) ∨ (¬ NP H b 511 (.inl q) s ∧ v = nI (msk (npb H b (.inl q) s) (hm_f H)))
theorem rc_needed (F : Nat) (hF : 70000 ≤ F) {m : Nat} {h : Hp} {H : HM} {s b : Nat} (r : RS h m H s b) (x y : Int32) : ∃ v h', f_X12_needed F m x y h = some (v, h') ∧ CI m [0, 5, 6, 8, 9, 10] h h' ∧ A_needed H s b x y v := by
  have r1 := r.f 0 0
  have h4 := r.f4
  have c0 : CI m [0, 5, 6, 8, 9, 10] h (hp_sI h m 0 0) := (CI.f0).mono (by decide)
  unfold f_X12_needed A_needed
  rw [pI_n r.1.1, cV_n r1.1.1 (rc_areSets F r1 x y)]
  cases hq : gsets H x y with
  | none => rw [if_pos (bsm0 rfl)]; exact ⟨_, _, rfl, c0, rfl⟩
  | some q =>
    obtain ⟨h2, e2, c2, g2⟩ := rc_goals F r1 hq
    have r2 := r1.ci c2 (by decide)
    obtain ⟨h3, d, e3, c3, s3, -, -, -, w4, -⟩ := rc_laysStill F hF (M := 511) (free := false) (by decide) r2 g2 (fun z => absurd rfl z)
    have r3 := r2.ci c3 (by decide)
    have hle := s3.le
    rw [if_neg (bsm1 rfl), cV_n r1.1.1 e2, cV_n r2.1.1 (show f_X12_laysStill F m 511 0 h2 = _ from e3)]
    by_cases z : d = 268435456
    · rw [if_pos (show nI d = 268435456 by rw [z]; rfl)]
      exact ⟨_, _, rfl, (c0.tr (c2.mono (by decide))).tr (c3.mono (by decide)), Or.inl ⟨s3.np.mp z, rfl⟩⟩
    · rw [if_neg (show ¬ nI d = 268435456 from fun y => z (nI_inj (b := 268435456) (by omega) (by decide) y))]
      obtain ⟨h', e, c⟩ := rc_needed_r F hF (g := .inl q) (hm_f H) 0 F h3 r3 (g2.cg (c3.m0 (by decide))) w4 (by omega) (by omega)
      exact ⟨_, _, e, ((c0.tr (c2.mono (by decide))).tr (c3.mono (by decide))).tr (c.mono (by decide)), Or.inr ⟨fun y => z (s3.np.mpr y), rfl⟩⟩
/-- can, stands, most: over all that can be come to -/
def A_can (H : HM) (s b : Nat) (x v : Int32) : Prop := match vi x 2 with
  | none => v = -2
  | some t => ∃ n, n < 64 ∧ v = nI n ∧ ∀ d, n.testBit d = true ↔ ∃ u, RH H b 511 s u ∧ (dsa H u t).testBit d = true
theorem rc_can_r (F : Nat) (hF : 2000 ≤ F) {m : Nat} {h : Hp} {H : HM} {s b t : Nat} (rs : RS h m H s b) (ht : t < 2) (h8 : RCH h m (RH H b 511 s)) : ∀ q k n a, k + q = 65536 → q < n → a < 64 → (∀ d, a.testBit d = true ↔ ∃ u, u < k ∧ RH H b 511 s u ∧ (dsa H u t).testBit d = true) → ∃ a', f_X12_can_27 F n m (nI t) (nI a) (nI k) h = some (nI a', h) ∧ a' < 64 ∧ ∀ d, a'.testBit d = true ↔ ∃ u, RH H b 511 s u ∧ (dsa H u t).testBit d = true := by
  intro q
  induction q with
  | zero =>
    intro k n a hk hn ha hb
    obtain ⟨n, rfl⟩ : ∃ j, n = j + 1 := ⟨n - 1, by omega⟩
    show ∃ a', f_X12_can_27_b F (f_X12_can_27 F n) m (nI t) (nI a) (nI k) h = _ ∧ _
    unfold f_X12_can_27_b
    rw [if_pos (show (65536 : Int32) ≤ nI k from nI_le (a := 65536) (by omega) (by omega))]
    refine ⟨a, rfl, ha, fun d => ?_⟩
    rw [hb d]
    exact ⟨fun ⟨u, _, h2⟩ => ⟨u, h2⟩, fun ⟨u, h2⟩ => ⟨u, by have := (h2.1.ok rs.2.1 rs.2.2.2.2.1).1.1; omega, h2⟩⟩
  | succ q ih =>
    intro k n a hk hn ha hb
    obtain ⟨n, rfl⟩ : ∃ j, n = j + 1 := ⟨n - 1, by omega⟩
    have hk6 : k < 65536 := by omega
    show ∃ a', f_X12_can_27_b F (f_X12_can_27 F n) m (nI t) (nI a) (nI k) h = _ ∧ _
    unfold f_X12_can_27_b f_X12_can_53
    rw [if_neg (show ¬ (65536 : Int32) ≤ nI k from i_ge (a := 65536) (by omega) (by decide)), rs.1.g 8 21 (by decide) rfl, rs.1.aq k rfl hk6, lt_e, nI_1]
    rcases h8 k hk6 with ⟨a1, a2⟩ | ⟨a1, a2⟩
    · have l := dsa_lt rs.2.1 k t
      rw [if_neg (show ¬ hp_I h (m + 8) k = 0 by rw [a1]; decide), cV_n rs.1.1 (rc_doesAll F (by omega) rs.1 rs.2.1 rs.2.2.1 hk6 ht), lt_e, nx_or]
      refine ih (k + 1) n (a ||| dsa H k t) (by omega) (by omega) (Nat.or_lt_two_pow (n := 6) ha l) (fun d => ?_)
      rw [Nat.testBit_or, Bool.or_eq_true, hb d]
      constructor
      · rintro (⟨u, u1, u2⟩ | z)
        · exact ⟨u, by omega, u2⟩
        · exact ⟨k, by omega, a2, z⟩
      · rintro ⟨u, u1, u2, u3⟩
        by_cases z : u = k
        · rw [z] at u3; exact Or.inr u3
        · exact Or.inl ⟨u, by omega, u2, u3⟩
    · rw [if_pos a1, show nI a ||| 0 = nI a by show nI a ||| nI 0 = _; rw [nx_or, Nat.or_zero]]
      refine ih (k + 1) n a (by omega) (by omega) ha (fun d => ?_)
      rw [hb d]
      constructor
      · rintro ⟨u, u1, u2⟩; exact ⟨u, by omega, u2⟩
      · rintro ⟨u, u1, u2, u3⟩
        by_cases z : u = k
        · rw [z] at u2; exact absurd u2 a2
        · exact ⟨u, by omega, u2, u3⟩
theorem rc_can (F : Nat) (hF : 70000 ≤ F) {m : Nat} {h : Hp} {H : HM} {s b : Nat} (r : RS h m H s b) (x : Int32) : ∃ v h', f_X12_can F m x h = some (v, h') ∧ CI m [0, 5, 6, 8, 9, 10] h h' ∧ A_can H s b x v := by
  have r1 := r.f 0 0
  have c0 : CI m [0, 5, 6, 8, 9, 10] h (hp_sI h m 0 0) := (CI.f0).mono (by decide)
  unfold f_X12_can A_can
  rw [pI_n r.1.1, bd_n (rc_isTwin F x _)]
  cases hx : vi x 2 with
  | none => rw [if_pos (bsm0 rfl)]; exact ⟨_, _, rfl, c0, rfl⟩
  | some t =>
    obtain ⟨t1, t2⟩ := vi_some hx
    obtain ⟨h2, e2, c2, w8, -⟩ := rc_laysReached F hF (M := 511) (by decide) r1 (fun z => absurd rfl z)
    have r2 := r1.ci c2 (by decide)
    obtain ⟨a, e3, a1, a2⟩ := rc_can_r F (by omega) r2 t1 w8 65536 0 F 0 (by omega) (by omega) (by omega) (fun d => ⟨fun z => by simp at z, fun ⟨u, u1, _⟩ => by omega⟩)
    rw [if_neg (bsm1 rfl), t2, cV_n r1.1.1 (show f_X12_laysReached F m 511 _ = _ from e2), show f_X12_can_27 F F m (nI t) 0 0 h2 = _ from e3]
    exact ⟨_, _, rfl, c0.tr (c2.mono (by decide)), a, a1, rfl, a2⟩
def cb (p : Nat → Bool) : Nat → Nat
  | 0 => 0
  | n + 1 => cb p n + b2 (p n)
theorem cb_le (p : Nat → Bool) : ∀ n, cb p n ≤ n := by
  intro n
  induction n with
  | zero => exact Nat.le_refl _
  | succ n ih =>
    have : b2 (p n) ≤ 1 := by unfold b2; split <;> omega
    show cb p n + b2 (p n) ≤ n + 1
    omega
noncomputable def rhb (H : HM) (b M s u : Nat) : Bool := @decide (RH H b M s u) (Classical.propDecidable _)
theorem rhb_e {H : HM} {b M s u : Nat} : rhb H b M s u = true ↔ RH H b M s u := @decide_eq_true_iff _ (Classical.propDecidable _)
theorem rc_stands_r (F : Nat) {m : Nat} {h : Hp} {H : HM} {s b : Nat} (rs : RS h m H s b) (h8 : RCH h m (RH H b 511 s)) : ∀ q k n, k + q = 65536 → q < n → f_X12_stands_16 F n m (nI (cb (rhb H b 511 s) k)) (nI k) h = some (nI (cb (rhb H b 511 s) 65536), h) := by
  intro q
  induction q with
  | zero =>
    intro k n hk hn
    obtain ⟨n, rfl⟩ : ∃ j, n = j + 1 := ⟨n - 1, by omega⟩
    show f_X12_stands_16_b F (f_X12_stands_16 F n) m _ (nI k) h = _
    unfold f_X12_stands_16_b
    rw [if_pos (show (65536 : Int32) ≤ nI k from nI_le (a := 65536) (by omega) (by omega)), show k = 65536 by omega]
  | succ q ih =>
    intro k n hk hn
    obtain ⟨n, rfl⟩ : ∃ j, n = j + 1 := ⟨n - 1, by omega⟩
    have hk6 : k < 65536 := by omega
    show f_X12_stands_16_b F (f_X12_stands_16 F n) m _ (nI k) h = _
    unfold f_X12_stands_16_b f_X12_stands_37
    rw [if_neg (show ¬ (65536 : Int32) ≤ nI k from i_ge (a := 65536) (by omega) (by decide)), rs.1.g 8 21 (by decide) rfl, rs.1.aq k rfl hk6, lt_e, lt_e, nI_1 k]
    have ih1 := ih (k + 1) n (by omega) (by omega)
    rw [show cb (rhb H b 511 s) (k + 1) = cb (rhb H b 511 s) k + b2 (rhb H b 511 s k) from rfl] at ih1
    rcases h8 k hk6 with ⟨a1, a2⟩ | ⟨a1, a2⟩
    · rw [rhb_e.mpr a2] at ih1
      rw [if_neg (show ¬ hp_I h (m + 8) k = 0 by rw [a1]; decide), nI_1]
      exact ih1
    · rw [show rhb H b 511 s k = false by cases z : rhb H b 511 s k with | false => rfl | true => exact absurd (rhb_e.mp z) a2] at ih1
      rw [if_pos a1, show nI (cb (rhb H b 511 s) k) + 0 = nI (cb (rhb H b 511 s) k + 0) from nI_add _ 0]
      exact ih1
theorem rc_stands (F : Nat) (hF : 70000 ≤ F) {m : Nat} {h : Hp} {H : HM} {s b : Nat} (r : RS h m H s b) : ∃ h', f_X12_stands F m h = some (nI (cb (rhb H b 511 s) 65536), h') ∧ CI m [0, 5, 6, 8, 9, 10] h h' := by
  have r1 := r.f 0 0
  have c0 : CI m [0, 5, 6, 8, 9, 10] h (hp_sI h m 0 0) := (CI.f0).mono (by decide)
  unfold f_X12_stands
  obtain ⟨h2, e2, c2, w8, -⟩ := rc_laysReached F hF (M := 511) (by decide) r1 (fun z => absurd rfl z)
  have r2 := r1.ci c2 (by decide)
  rw [pI_n r.1.1, cV_n r1.1.1 (show f_X12_laysReached F m 511 _ = _ from e2)]
  exact ⟨h2, rc_stands_r F r2 w8 65536 0 F (by omega) (by omega), c0.tr (c2.mono (by decide))⟩
theorem pc_le (n : Nat) : pc n ≤ 10 := by
  unfold pc
  have := b1_le (n.testBit 0 = true); have := b1_le (n.testBit 1 = true); have := b1_le (n.testBit 2 = true); have := b1_le (n.testBit 3 = true); have := b1_le (n.testBit 4 = true)
  have := b1_le (n.testBit 5 = true); have := b1_le (n.testBit 6 = true); have := b1_le (n.testBit 7 = true); have := b1_le (n.testBit 8 = true); have := b1_le (n.testBit 9 = true)
  omega
def A_most (H : HM) (s b : Nat) (v : Int32) : Prop := ∃ n, n ≤ 20 ∧ v = nI n ∧ (∀ u, RH H b 511 s u → pb2 H u ≤ n) ∧ (n = 0 ∨ ∃ u, RH H b 511 s u ∧ pb2 H u = n)
theorem rc_most_r (F : Nat) (hF : 2000 ≤ F) {m : Nat} {h : Hp} {H : HM} {s b : Nat} (rs : RS h m H s b) (h8 : RCH h m (RH H b 511 s)) : ∀ q k n a, k + q = 65536 → q < n → a ≤ 20 → (∀ u, u < k → RH H b 511 s u → pb2 H u ≤ a) → (a = 0 ∨ ∃ u, RH H b 511 s u ∧ pb2 H u = a) → ∃ v, f_X12_most_16 F n m (nI a) (nI k) h = some (v, h) ∧ A_most H s b v := by
  intro q
  induction q with
  | zero =>
    intro k n a hk hn ha h1 h2
    obtain ⟨n, rfl⟩ : ∃ j, n = j + 1 := ⟨n - 1, by omega⟩
    show ∃ v, f_X12_most_16_b F (f_X12_most_16 F n) m _ (nI k) h = _ ∧ _
    unfold f_X12_most_16_b
    rw [if_pos (show (65536 : Int32) ≤ nI k from nI_le (a := 65536) (by omega) (by omega))]
    exact ⟨_, rfl, a, ha, rfl, fun u hu => h1 u (by have := (hu.ok rs.2.1 rs.2.2.2.2.1).1.1; omega) hu, h2⟩
  | succ q ih =>
    intro k n a hk hn ha h1 h2
    obtain ⟨n, rfl⟩ : ∃ j, n = j + 1 := ⟨n - 1, by omega⟩
    have hk6 : k < 65536 := by omega
    show ∃ v, f_X12_most_16_b F (f_X12_most_16 F n) m _ (nI k) h = _ ∧ _
    unfold f_X12_most_16_b f_X12_most_46
    rw [if_neg (show ¬ (65536 : Int32) ≤ nI k from i_ge (a := 65536) (by omega) (by decide)), rs.1.g 8 21 (by decide) rfl, rs.1.aq k rfl hk6, nI_1]
    rcases h8 k hk6 with ⟨a1, a2⟩ | ⟨a1, a2⟩
    · have e := rc_doesBoth F (by omega) rs.1 rs.2.1 rs.2.2.1 hk6
      have l1 := pc_le (dsa H k 0)
      have l2 := pc_le (dsa H k 1)
      have ep : pb2 H k = pc (dsa H k 0) + pc (dsa H k 1) := rfl
      rw [if_neg (show ¬ hp_I h (m + 8) k = 0 by rw [a1]; decide), cV_n rs.1.1 e]
      by_cases z : pc (dsa H k 0) + pc (dsa H k 1) ≤ a
      · rw [if_pos (nI_le z (by omega))]
        refine ih (k + 1) n a (by omega) (by omega) ha (fun u hu hr => ?_) h2
        by_cases y : u = k
        · rw [y]; omega
        · exact h1 u (by omega) hr
      · rw [if_neg (nI_ge (by omega) (by omega)), cV_n rs.1.1 e]
        refine ih (k + 1) n _ (by omega) (by omega) (by omega) (fun u hu hr => ?_) (Or.inr ⟨k, a2, rfl⟩)
        by_cases y : u = k
        · rw [y]; omega
        · have := h1 u (by omega) hr; omega
    · rw [if_pos a1]
      refine ih (k + 1) n a (by omega) (by omega) ha (fun u hu hr => ?_) h2
      by_cases y : u = k
      · rw [y] at hr; exact absurd hr a2
      · exact h1 u (by omega) hr
theorem rc_most (F : Nat) (hF : 70000 ≤ F) {m : Nat} {h : Hp} {H : HM} {s b : Nat} (r : RS h m H s b) : ∃ v h', f_X12_most F m h = some (v, h') ∧ CI m [0, 5, 6, 8, 9, 10] h h' ∧ A_most H s b v := by
  have r1 := r.f 0 0
  have c0 : CI m [0, 5, 6, 8, 9, 10] h (hp_sI h m 0 0) := (CI.f0).mono (by decide)
  unfold f_X12_most
  obtain ⟨h2, e2, c2, w8, -⟩ := rc_laysReached F hF (M := 511) (by decide) r1 (fun z => absurd rfl z)
  have r2 := r1.ci c2 (by decide)
  obtain ⟨v, e3, a3⟩ := rc_most_r F (by omega) r2 w8 65536 0 F 0 (by omega) (by omega) (by omega) (fun u hu => by omega) (Or.inl rfl)
  rw [pI_n r.1.1, cV_n r1.1.1 (show f_X12_laysReached F m 511 _ = _ from e2), show f_X12_most_16 F F m 0 0 h2 = _ from e3]
  exact ⟨_, _, rfl, c0.tr (c2.mono (by decide)), a3⟩
