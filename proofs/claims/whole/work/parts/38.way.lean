/-! L3: sets told; the first of the shortest rows -/
theorem p2_lt {n : Nat} (h : n ≤ 6) : 2 ^ n ≤ 64 := Nat.le_trans (Nat.pow_le_pow_right (by decide) h) (by decide)
theorem rc_isSet (F : Nat) {m : Nat} {h : Hp} {H : HM} {s b : Nat} (r : RS h m H s b) (x : Int32) : f_X12_isSet F m x h = some (nI (bsm (vi x (2 ^ hm_d H))), h) := by
  have h6 := r.d6
  have hp := p2_lt h6
  unfold f_X12_isSet
  rw [r.1.g 1 1 (by decide) rfl, r.1.a 1 2 (show (2 : Int32) = nI 2 from rfl) (by decide) (by decide), r.dc, shl1 (hm_d H) (by omega)]
  cases hx : vi x (2 ^ hm_d H) with
  | none =>
    have hv := vi_none hx
    by_cases q : x < 0
    · rw [if_pos q]; rfl
    · rw [if_neg q, if_pos (Int32.le_iff_toInt_le.mpr (by
        rw [nI_toInt (by omega)]
        have : ¬ x.toInt < 0 := fun z => q (Int32.lt_iff_toInt_lt.mpr z)
        omega))]; rfl
  | some j =>
    obtain ⟨j1, j2⟩ := vi_some hx
    rw [j2, if_neg (show ¬ nI j < 0 from fun z => by have := Int32.lt_iff_toInt_lt.mp z; rw [nI_toInt (by omega)] at this; exact absurd this (by show ¬ (j : Int) < 0; omega)), if_neg (nI_ge j1 (by omega))]; rfl
def gsets (H : HM) (x y : Int32) : Option (Nat × Nat) := (vi x (2 ^ hm_d H)).bind fun a => (vi y (2 ^ hm_d H)).map fun c => (a, c)
theorem gsets_some {H : HM} (hd : hm_d H ≤ 6) {x y : Int32} {q : Nat × Nat} (h : gsets H x y = some q) : x = nI q.1 ∧ y = nI q.2 ∧ q.1 < 64 ∧ q.2 < 64 := by
  have hp := p2_lt hd
  unfold gsets at h
  cases hx : vi x (2 ^ hm_d H) with
  | none => rw [hx] at h; cases h
  | some a =>
    cases hy : vi y (2 ^ hm_d H) with
    | none => rw [hx, hy] at h; cases h
    | some c =>
      rw [hx, hy] at h
      obtain rfl := Option.some.inj h
      have a1 := vi_some hx
      have a2 := vi_some hy
      exact ⟨a1.2, a2.2, by show a < 64; omega, by show c < 64; omega⟩
theorem rc_areSets (F : Nat) {m : Nat} {h : Hp} {H : HM} {s b : Nat} (r : RS h m H s b) (x y : Int32) : f_X12_areSets F m x y h = some (nI (bsm (gsets H x y)), h) := by
  unfold f_X12_areSets gsets
  rw [cV_n r.1.1 (rc_isSet F r x)]
  cases hx : vi x (2 ^ hm_d H) with
  | none => rw [if_pos (bsm0 rfl)]; rfl
  | some a =>
    rw [if_neg (bsm1 rfl), cV_n r.1.1 (rc_isSet F r y)]
    cases hy : vi y (2 ^ hm_d H) with
    | none => rw [if_pos (bsm0 rfl)]; rfl
    | some c => rw [if_neg (bsm1 rfl)]; rfl
theorem rc_goals (F : Nat) {m : Nat} {h : Hp} {H : HM} {s b : Nat} (r : RS h m H s b) {x y : Int32} {q : Nat × Nat} (hq : gsets H x y = some q) : ∃ h', f_X12_goals F m x y h = some ((), h') ∧ CI m [0] h h' ∧ GF h' m (.inl q) := by
  obtain ⟨a1, a2, a3, a4⟩ := gsets_some r.d6 hq
  unfold f_X12_goals
  rw [pI_n r.1.1, pI_n (r.1.sI _ _ _).1, pI_n ((r.1.sI _ _ _).sI _ _ _).1]
  refine ⟨_, rfl, (((CI.f0).tr (CI.f0)).tr (CI.f0)), ?_⟩
  show hp_I _ m 27 = -1 ∧ hp_I _ m 24 = nI q.1 ∧ hp_I _ m 25 = nI q.2 ∧ q.1 < 64 ∧ q.2 < 64
  rw [sI_at, sI_at, sI_at, sI_at, sI_at, sI_at, sI_at, sI_at]
  exact ⟨rfl, a1, a2, a3, a4⟩
def tf (d : Nat) : Int32 := if d = 268435456 then -1 else nI d
theorem rc_toldFar (F : Nat) {d : Nat} (hd : d ≤ 268435456) (h : Hp) : f_X12_toldFar F (nI d) h = some (tf d, h) := by
  unfold f_X12_toldFar tf
  by_cases q : d = 268435456
  · rw [if_pos (show nI d = 268435456 by rw [q]; rfl), if_pos q]
  · rw [if_neg (show ¬ nI d = 268435456 from fun z => q (nI_inj (b := 268435456) (by omega) (by decide) z)), if_neg q]
def tm (k : Nat) : Int32 := if k = 8 then 99 else nI (10 * (k / 4) + k % 4)
theorem rc_toldMove (F : Nat) {k : Nat} (hk : k < 9) (h : Hp) : f_X12_toldMove F (nI k) h = some (tm k, h) := by
  unfold f_X12_toldMove tm
  by_cases q : k = 8
  · rw [if_pos (show nI k = 8 by rw [q]; rfl), if_pos q]
  · rw [if_neg (nI_e8 k (by omega)), if_neg q, (k4 k hk).2, (k4 k hk).1, show 10 * nI (k / 4) = nI (10 * (k / 4)) from pk_mul 10 (k / 4), nI_add]
/-- the first of the shortest rows to a goal -/
def LW (H : HM) (b : Nat) (g : GL) : List Nat → Nat → Prop
  | [], s => SD H b 511 g false s 0
  | k :: ks, s => SD H b 511 g false s (ks.length + 1) ∧ k < 9 ∧ (∃ u, mv H b s k = some u ∧ LW H b g ks u) ∧ ∀ j u, j < k → mv H b s j = some u → ¬ SD H b 511 g false u ks.length
theorem LW.sd {H : HM} {b : Nat} {g : GL} {ms : List Nat} {s : Nat} (h : LW H b g ms s) : SD H b 511 g false s ms.length := by
  cases ms with
  | nil => exact h
  | cons k ks => exact h.1
theorem LW.uniq {H : HM} {b : Nat} {g : GL} : ∀ {ms ms' : List Nat} {s : Nat}, LW H b g ms s → LW H b g ms' s → ms = ms' := by
  intro ms
  induction ms with
  | nil =>
    intro ms' s h h'
    have e := h.sd.uniq h'.sd
    cases ms' with
    | nil => rfl
    | cons k ks => exact absurd e (by simp)
  | cons k ks ih =>
    intro ms' s h h'
    have e := h.sd.uniq h'.sd
    cases ms' with
    | nil => exact absurd e (by simp)
    | cons k' ks' =>
      have el : ks.length = ks'.length := by simp at e; exact e
      obtain ⟨-, -, ⟨u, u1, u2⟩, h4⟩ := h
      obtain ⟨-, -, ⟨u', u1', u2'⟩, h4'⟩ := h'
      have ek : k = k' := by
        rcases Nat.lt_trichotomy k k' with z | z | z
        · exact absurd (u2.sd) (by rw [el]; exact h4' k u z u1)
        · exact z
        · exact absurd (u2'.sd) (by rw [← el]; exact h4 k' u' z u1')
      subst ek
      have : u = u' := Option.some.inj (u1.symm.trans u1')
      subst this
      rw [ih u2 u2']
def wa (ms : List Nat) (i : Nat) : Int32 := match ms[i]? with
  | none => -1
  | some k => tm k
theorem cst_f (ms : List Nat) : cst false ms = ms.length := by
  induction ms with
  | nil => rfl
  | cons k ks ih => show cst false ks + 1 = ks.length + 1; rw [ih]
/-- where a goal is v + 1 far, a move leads to where it is v far -/
theorem SD.next {H : HM} {b M : Nat} {g : GL} {s v : Nat} (h : SD H b M g false s (v + 1)) (hv : v < 100000) (hu : ∀ k u, k < 9 → M.testBit k = true → mv H b s k = some u → ∃ w, SD H b M g false u w) : ∃ k u, k < 9 ∧ M.testBit k = true ∧ mv H b s k = some u ∧ SD H b M g false u v := by
  rcases h with ⟨h1, -⟩ | ⟨h1, ⟨ms, h2, h3, h4⟩, h5⟩
  · omega
  · cases ms with
    | nil => exact absurd h4 (by simp [cst])
    | cons k ks =>
      obtain ⟨u, u1, u2⟩ := gto_cons.mp h3
      have hk := mo_hd h2
      obtain ⟨w, hw⟩ := hu k u hk.1 hk.2 u1
      refine ⟨k, u, hk.1, hk.2, u1, ?_⟩
      have h4 : cst false ks + 1 = v + 1 := h4
      have : w = v := by
        rcases hw with ⟨w1, w2⟩ | ⟨w1, ⟨ms', w2, w3, w4⟩, w5⟩
        · exact absurd u2 (w2 ks (mo_tl h2))
        · have a := w5 ks (mo_tl h2) u2
          have c := h5 (k :: ms') (mo_cons hk.1 hk.2 w2) (gto_cons.mpr ⟨u, u1, w3⟩)
          have c : v + 1 ≤ cst false ms' + 1 := c
          omega
      rw [← this]; exact hw
theorem all511 : ∀ k, k < 9 → (511 : Nat).testBit k = true := by decide
/-- what a search leaves behind -/
def SRC (h : Hp) (m : Nat) (H : HM) (now b : Nat) (g : GL) : Prop := RS h m H now b ∧ STL h m H b 511 now g false now ∧ ∀ v k, RH H b 511 now v → k < 9 → hp_I h (m + 9) (9 * v + k) = oN (mv H b v k)
theorem rc_move33 (F : Nat) (hF : 2000 ≤ F) {m : Nat} {h : Hp} {H : HM} {now b : Nat} {g : GL} (r : SRC h m H now b g) {s v : Nat} (hr : RH H b 511 now s) (hv : v < 100000) (sd : SD H b 511 g false s (v + 1)) (I c : Nat) (hc : c < 2 ^ 31) (hI : I < 2 ^ 31) (K : Nat → Int32 → Int32 → Int32 → Hp → Option (Int32 × Hp)) : ∀ q k n, k + q = 9 → q < n → (∃ j u, k ≤ j ∧ j < 9 ∧ mv H b s j = some u ∧ SD H b 511 g false u v) → ∃ j u, k ≤ j ∧ j < 9 ∧ mv H b s j = some u ∧ SD H b 511 g false u v ∧ (∀ j' u', k ≤ j' → j' < j → mv H b s j' = some u' → ¬ SD H b 511 g false u' v) ∧ f_X12_moveAt_33 F K n m (nI I) (nI s) (nI c) (nI k) h = if c = I then some (tm j, h) else K m (nI I) (nI u) (nI (c + 1)) h := by
  obtain ⟨rs, stl, h9⟩ := r
  have hH := rs.2.1
  have hso := hr.ok hH rs.2.2.2.2.1
  have hs6 := hso.1.1
  intro q
  induction q with
  | zero => intro k n hk hn ⟨j, u, h1, h2, _⟩; omega
  | succ q ih =>
    intro k n hk hn hex
    obtain ⟨n, rfl⟩ : ∃ j, n = j + 1 := ⟨n - 1, by omega⟩
    have hk9 : k < 9 := by omega
    have hst : ∀ u, mv H b s k = some u → hp_I h (m + 10) u = nI (ix (hp_I h (m + 10) u)) ∧ SD H b 511 g false u (ix (hp_I h (m + 10) u)) := by
      intro u hu
      have o := mv_ok hH hso.1 hk9 hu
      obtain ⟨w, w1, w2⟩ := stl u (by omega) o.1.1 (hr.step hk9 (all511 k hk9) hu)
      have := w2.le
      rw [w1, ix_n (by omega)]
      exact ⟨rfl, w2⟩
    obtain ⟨w, w1, w2⟩ := stl s (by omega) hs6 hr
    have ew := w2.uniq sd
    subst ew
    have e := rc_stillBy F rs (free := false) (st := fun u => ix (hp_I h (m + 10) u)) hso.1 hk9 (h9 s k hr hk9) (fun u hu _ => ⟨(hst u hu).1, (hst u hu).2.le⟩)
    have hnb := nb_le (free := false) (st := fun u => ix (hp_I h (m + 10) u)) (fun u hu (_ : u ≠ s) => (hst u hu).2.le)
    have good : nb H b false (fun u => ix (hp_I h (m + 10) u)) s k = v + 1 ↔ ∃ u, mv H b s k = some u ∧ SD H b 511 g false u v := by
      unfold nb
      cases hm : mv H b s k with
      | none => exact ⟨fun z => by dsimp only at z; omega, fun ⟨u, z, _⟩ => by cases z⟩
      | some u =>
        have hsu := (hst u hm).2
        dsimp only
        constructor
        · intro z
          refine ⟨u, rfl, ?_⟩
          by_cases z1 : u = s
          · rw [if_pos z1] at z; omega
          · rw [if_neg z1] at z
            by_cases z2 : ix (hp_I h (m + 10) u) = 268435456
            · rw [if_pos z2] at z; omega
            · rw [if_neg z2] at z
              have z : ix (hp_I h (m + 10) u) + 1 = v + 1 := z
              rw [show v = ix (hp_I h (m + 10) u) by omega]
              exact hsu
        · rintro ⟨u', z, z3⟩
          obtain rfl := Option.some.inj z
          have e3 := hsu.uniq z3
          rw [if_neg (fun z1 => by rw [z1] at z3; have := sd.uniq z3; omega), if_neg (by omega)]
          show ix (hp_I h (m + 10) u) + 1 = v + 1
          omega
    show ∃ j u, _ ∧ _ ∧ _ ∧ _ ∧ _ ∧ f_X12_moveAt_33_b F K (f_X12_moveAt_33 F K n) m (nI I) (nI s) (nI c) (nI k) h = _
    unfold f_X12_moveAt_33_b
    rw [cV_n rs.1.1 (show f_X12_stillBy F m (nI s) (nI k) 0 h = _ from e), rs.1.g 10 23 (by decide) rfl, rs.1.a 10 s rfl (by decide) (show s < 65536 from hs6), w1, nI_1 c, nI_1 k]
    by_cases z : nb H b false (fun u => ix (hp_I h (m + 10) u)) s k = v + 1
    · obtain ⟨u, u1, u2⟩ := good.mp z
      refine ⟨k, u, Nat.le_refl _, hk9, u1, u2, fun j' u' a1 a2 => absurd a2 (by omega), ?_⟩
      rw [if_pos (show nI _ = nI (v + 1) by rw [z])]
      by_cases zi : c = I
      · rw [if_pos (show nI c = nI I by rw [zi]), if_pos zi, bd_n (rc_toldMove F hk9 h)]
      · rw [if_neg (fun y => zi (nI_inj hc hI y)), if_neg zi, rs.1.g 9 22 (by decide) rfl, rs.1.a 9 (9 * s + k) (i9k s k) (by decide) (show 9 * s + k < 589824 by omega), h9 s k hr hk9, u1]
        rfl
    · rw [if_neg (fun y => z (nI_inj (by omega) (by omega) y))]
      have hex' : ∃ j u, k + 1 ≤ j ∧ j < 9 ∧ mv H b s j = some u ∧ SD H b 511 g false u v := by
        obtain ⟨j, u, a1, a2, a3, a4⟩ := hex
        by_cases y : j = k
        · subst y; exact absurd (good.mpr ⟨u, a3, a4⟩) z
        · exact ⟨j, u, by omega, a2, a3, a4⟩
      obtain ⟨j, u, a1, a2, a3, a4, a5, a6⟩ := ih (k + 1) n (by omega) (by omega) hex'
      refine ⟨j, u, by omega, a2, a3, a4, fun j' u' b1 b2 b3 => ?_, a6⟩
      by_cases y : j' = k
      · subst y; exact fun b4 => z (good.mpr ⟨u', b3, b4⟩)
      · exact a5 j' u' (by omega) b2 b3
theorem rc_move21 (F : Nat) (hF : 2000 ≤ F) {m : Nat} {h : Hp} {H : HM} {now b : Nat} {g : GL} (r : SRC h m H now b g) (I : Nat) (hI : I < 2 ^ 31) : ∀ v s c n, RH H b 511 now s → SD H b 511 g false s v → v < 100000 → c ≤ I → v < n → ∃ ms, LW H b g ms s ∧ ms.length = v ∧ f_X12_moveAt_21 F n m (nI I) (nI s) (nI c) h = some (wa ms (I - c), h) := by
  have rs := r.1
  have stl := r.2.1
  have hH := rs.2.1
  intro v
  induction v with
  | zero =>
    intro s c n hr sd _ hc hn
    obtain ⟨n, rfl⟩ : ∃ j, n = j + 1 := ⟨n - 1, by omega⟩
    have hso := hr.ok hH rs.2.2.2.2.1
    obtain ⟨w, w1, w2⟩ := stl s hso.2 hso.1.1 hr
    have := w2.uniq sd
    subst this
    refine ⟨[], sd, rfl, ?_⟩
    show f_X12_moveAt_21_b F (f_X12_moveAt_21 F n) m (nI I) (nI s) (nI c) h = _
    unfold f_X12_moveAt_21_b
    rw [rs.1.g 10 23 (by decide) rfl, rs.1.a 10 s rfl (by decide) (show s < 65536 from hso.1.1), w1, if_pos (show nI 0 ≤ 0 by decide)]
    rfl
  | succ v ih =>
    intro s c n hr sd hv hc hn
    obtain ⟨n, rfl⟩ : ∃ j, n = j + 1 := ⟨n - 1, by omega⟩
    have hso := hr.ok hH rs.2.2.2.2.1
    obtain ⟨w, w1, w2⟩ := stl s hso.2 hso.1.1 hr
    have := w2.uniq sd
    subst this
    obtain ⟨k0, u0, x1, x2, x3, x4⟩ := sd.next (by omega) (fun k u hk _ hu => by
      have o := mv_ok hH hso.1 hk hu
      obtain ⟨w, -, w2⟩ := stl u (by omega) o.1.1 (hr.step hk (all511 k hk) hu)
      exact ⟨w, w2⟩)
    obtain ⟨j, u, -, a2, a3, a4, a5, a6⟩ := rc_move33 F hF r hr (by omega) sd I c (by omega) hI (f_X12_moveAt_21 F n) 9 0 F (by omega) (by omega) ⟨k0, u0, by omega, x1, x3, x4⟩
    show ∃ ms, _ ∧ _ ∧ f_X12_moveAt_21_b F (f_X12_moveAt_21 F n) m (nI I) (nI s) (nI c) h = _
    unfold f_X12_moveAt_21_b
    rw [rs.1.g 10 23 (by decide) rfl, rs.1.a 10 s rfl (by decide) (show s < 65536 from hso.1.1), w1, if_neg (nI_nle (by omega) (by omega)), show f_X12_moveAt_33 F (f_X12_moveAt_21 F n) F m (nI I) (nI s) (nI c) 0 h = _ from a6]
    have hru := hr.step a2 (all511 j a2) a3
    by_cases z : c = I
    · have hex : ∃ ms, LW H b g ms u ∧ ms.length = v := by
        obtain ⟨ms, m1, m2, -⟩ := ih u I (v + 1) hru a4 (by omega) (Nat.le_refl _) (by omega)
        exact ⟨ms, m1, m2⟩
      obtain ⟨ms, m1, m2⟩ := hex
      refine ⟨j :: ms, ⟨by rw [m2]; exact sd, a2, ⟨u, a3, m1⟩, fun j' u' b1 b2 => by rw [m2]; exact a5 j' u' (by omega) b1 b2⟩, by show ms.length + 1 = v + 1; omega, ?_⟩
      rw [if_pos z, z, Nat.sub_self]
      rfl
    · obtain ⟨ms, m1, m2, m3⟩ := ih u (c + 1) n hru a4 (by omega) (by omega) (by omega)
      refine ⟨j :: ms, ⟨by rw [m2]; exact sd, a2, ⟨u, a3, m1⟩, fun j' u' b1 b2 => by rw [m2]; exact a5 j' u' (by omega) b1 b2⟩, by show ms.length + 1 = v + 1; omega, ?_⟩
      rw [if_neg z, m3]
      obtain ⟨e, he⟩ : ∃ e, I - c = e + 1 := ⟨I - c - 1, by omega⟩
      rw [he, show I - (c + 1) = e by omega]
      rfl
theorem rc_moveAt (F : Nat) (hF : 70000 ≤ F) {m : Nat} {h : Hp} {H : HM} {now b : Nat} {g : GL} (r : SRC h m H now b g) {v : Nat} (sd : SD H b 511 g false now v) {I : Nat} (hI : I < 2 ^ 31) : ∃ a, f_X12_moveAt F m (nI I) h = some (a, h) ∧ ((v = 268435456 ∧ a = -1) ∨ (v < 100000 ∧ ∃ ms, LW H b g ms now ∧ ms.length = v ∧ a = wa ms I)) := by
  have rs := r.1
  have hn := rs.s16
  obtain ⟨w, w1, w2⟩ := r.2.1 now (Nat.le_refl _) hn (RH.rf _ _ _ _)
  have := w2.uniq sd
  subst this
  unfold f_X12_moveAt
  rw [cV_n rs.1.1 (rs.stand F (by omega)), rs.1.g 10 23 (by decide) rfl, rs.1.a 10 now rfl (by decide) (show now < 65536 from hn), w1]
  by_cases q : w = 268435456
  · rw [if_pos (show nI w = 268435456 by rw [q]; rfl)]
    exact ⟨_, rfl, Or.inl ⟨q, rfl⟩⟩
  · have hw : w + now ≤ 65536 := by
      rcases sd with ⟨z, -⟩ | ⟨z, -⟩
      · exact absurd z q
      · exact z
    rw [if_neg (show ¬ nI w = 268435456 from fun z => q (nI_inj (b := 268435456) (by omega) (by decide) z))]
    obtain ⟨ms, m1, m2, m3⟩ := rc_move21 F (by omega) r I hI w now 0 F (RH.rf _ _ _ _) sd (by omega) (by omega) (by omega)
    exact ⟨_, m3, Or.inr ⟨by omega, ms, m1, m2, rfl⟩⟩
