/-! L3: trays in the reference; deeds told and judged -/
abbrev TRY : Type := Nat → Option (Nat × Nat × (Nat → Int64))
def RT (h : Hp) (m : Nat) (tr : TRY) : Prop := ∀ i, i < 4 → match tr i with
  | none => hp_I h (m + 15) i = -1
  | some q => hp_I h (m + 15) i = nI q.1 ∧ q.1 ≤ 3 ∧ hp_I h (m + 16) i = nI q.2.1 ∧ q.2.1 ≤ 40 ∧ ∀ k, k < q.2.1 → hp_L h (m + 17) (40 * i + k) = q.2.2 k
theorem RT.cg {h h' : Hp} {m : Nat} {tr : TRY} (r : RT h m tr) (h1 : hp_I h' (m + 15) = hp_I h (m + 15)) (h2 : hp_I h' (m + 16) = hp_I h (m + 16)) (h3 : hp_L h' = hp_L h) : RT h' m tr := by
  intro i hi
  have := r i hi
  rw [h1, h2, h3]
  exact this
theorem RT.ci {h h' : Hp} {m : Nat} {tr : TRY} {ks : List Nat} (r : RT h m tr) (c : CI m ks h h') (k1 : 15 ∉ ks) (k2 : 16 ∉ ks) : RT h' m tr := r.cg (c.at k1) (c.at k2) c.2.1.1
/-- a tray that is there -/
def tra (tr : TRY) (x : Int32) : Option (Nat × Nat × (Nat → Int64)) := (vi x 4).bind tr
/-- the code of a tray that isn't there -/
def trc (tr : TRY) (x : Int32) : Int32 := match vi x 4 with
  | none => -2
  | some _ => -6
theorem rc_noTray (F : Nat) {m : Nat} {h : Hp} (hS : SR h m) {tr : TRY} (r : RT h m tr) (x : Int32) : f_X12_noTray F m x h = some ((match tra tr x with | none => trc tr x | some _ => 0), h) := by
  unfold f_X12_noTray tra trc
  rw [bd_n (rc_wi F x.toInt64 0 3 h), i64_toInt]
  cases hx : vi x 4 with
  | none => rw [if_pos (b1_0 (fun z : (0 : Int64).toInt ≤ x.toInt ∧ x.toInt ≤ (3 : Int64).toInt => vi_none hx ⟨z.1, by have : x.toInt ≤ 3 := z.2; omega⟩))]; rfl
  | some i =>
    obtain ⟨i1, i2⟩ := vi_some hx
    have ex : x.toInt = i := by rw [i2, nI_toInt (by omega)]
    rw [if_neg (b1_1 (show (0 : Int64).toInt ≤ x.toInt ∧ x.toInt ≤ (3 : Int64).toInt from ⟨by show 0 ≤ x.toInt; omega, by show x.toInt ≤ 3; omega⟩)), hS.g 15 32 (by decide) rfl, i2, hS.a 15 i rfl (by decide) (show i < 4 from i1)]
    have ri := r i i1
    rw [show (some i).bind tr = tr i from rfl]
    cases ht : tr i with
    | none => rw [ht] at ri; rw [if_pos (show hp_I h (m + 15) i = -1 from ri)]
    | some q =>
      rw [ht] at ri
      rw [if_neg (show ¬ hp_I h (m + 15) i = -1 by rw [ri.1]; intro z; have := congrArg Int32.toInt z; rw [nI_toInt (by have := ri.2.1; omega)] at this; exact absurd this (by show ¬ (q.1 : Int) = -1; omega))]
/-- deeds one behind the other: how many, why the next can't be, stand, bond -/
def rnT (H : HM) (ce : Nat → Int64) : Nat → Nat → Nat → Nat → Nat × Nat × Nat × Nat
  | _, 0, s, b => (0, 0, s, b)
  | k, r + 1, s, b => if dwhy H s b (ce k).toInt = 0 then ((rnT H ce (k + 1) r (dact H s b (ce k).toInt).1 (dact H s b (ce k).toInt).2).1 + 1, (rnT H ce (k + 1) r (dact H s b (ce k).toInt).1 (dact H s b (ce k).toInt).2).2) else (0, dwhy H s b (ce k).toInt, s, b)
theorem dwhy_lt (H : HM) (s b : Nat) (v : Int) : dwhy H s b v ≤ 3 := by
  unfold dwhy
  repeat (split <;> try omega)
theorem i40 (i k : Nat) : 40 * nI i + nI k = nI (40 * i + k) := by rw [show 40 * nI i = nI (40 * i) from pk_mul 40 i, nI_add]
theorem SR.la {α : Type} {h : Hp} {m : Nat} (s : SR h m) (j : Nat) {i : Int32} (hi : i = nI j) (hj : j < 160) (K : Int64 → Option α) : aL h (m + 17) i K = K (hp_L h (m + 17) j) :=
  aL_n (n := 160) (by rw [(s.2 17 (by decide) (by decide)).2.1]; rfl) (s.2 17 (by decide) (by decide)).2.2 hi hj (by decide) K
theorem l_i32 {v : Int64} (h : -1 ≤ v.toInt) (h2 : v.toInt < 2 ^ 31) : v.toInt32.toInt = v.toInt := by
  by_cases q : v.toInt = -1
  · have : v = -1 := Int64.toInt_inj.mp (by rw [q]; rfl)
    rw [this]; decide
  · have e := l64 (v := v) (by omega) h2
    generalize hk : v.toInt.toNat = k at e
    have : v.toInt = k := by omega
    rw [e, lN_i, nI_toInt (by omega), lN_toInt (by omega)]
theorem dwhy_rng {H : HM} {s b : Nat} {v : Int} (h : dwhy H s b v = 0) : -1 ≤ v ∧ v < 2 ^ 31 := by
  rcases dwhy_cases h with q | ⟨k, rfl, k1, -⟩ | ⟨k, rfl, k1, k2, -⟩ | ⟨k, rfl, k1, k2⟩ <;> omega
theorem rc_tells_r (F : Nat) (hF : 2000 ≤ F) {m i : Nat} (hi : i < 4) {H : HM} {so N : Nat} {ce : Nat → Int64} (hN : N ≤ 40) : ∀ r k n (h : Hp) (s b : Nat), k + r = N → r < n → RS h m H s b → hp_I h m 19 = 0 → hp_I h (m + 16) i = nI N → (∀ k, k < N → hp_L h (m + 17) (40 * i + k) = ce k) → ∃ h', f_X12_tells_7 F n m (nI i) (nI k) h = some (nI (k + (rnT H ce k r s b).1), h') ∧ CI m [0, 1, 5, 6] h h' ∧ RS h' m H (rnT H ce k r s b).2.2.1 (rnT H ce k r s b).2.2.2 ∧ hp_I h' m 19 = nI (rnT H ce k r s b).2.1 ∧ ∀ j, (j < 43 ∨ 52 ≤ j) → hp_I h' (m + 1) j = hp_I h (m + 1) j := by
  intro r
  induction r with
  | zero =>
    intro k n h s b hk hn rs h19 h16 hc
    obtain ⟨n, rfl⟩ : ∃ j, n = j + 1 := ⟨n - 1, by omega⟩
    show ∃ h', f_X12_tells_7_b F (f_X12_tells_7 F n) m (nI i) (nI k) h = _ ∧ _
    unfold f_X12_tells_7_b
    rw [rs.1.g 16 33 (by decide) rfl, rs.1.a 16 i rfl (by decide) (show i < 4 from hi), h16, if_pos (nI_le (by omega) (by omega)), rs.1.g 16 33 (by decide) rfl, rs.1.a 16 i rfl (by decide) (show i < 4 from hi), h16]
    refine ⟨h, ?_, CI.rf _ _ _, rs, h19, fun _ _ => rfl⟩
    rw [show k + (rnT H ce k 0 s b).1 = N by show k + 0 = N; omega]
  | succ r ih =>
    intro k n h s b hk hn rs h19 h16 hc
    obtain ⟨n, rfl⟩ : ∃ j, n = j + 1 := ⟨n - 1, by omega⟩
    show ∃ h', f_X12_tells_7_b F (f_X12_tells_7 F n) m (nI i) (nI k) h = _ ∧ _
    unfold f_X12_tells_7_b
    obtain ⟨h1, e1, c1⟩ := rc_whyNot F hF rs (ce k)
    have r1 := rs.ci c1 (by decide)
    have r2 : RS (hp_sI h1 m 19 (nI (dwhy H s b (ce k).toInt))) m H s b := r1.f _ _
    have c2 : CI m [0, 1, 5, 6] h (hp_sI h1 m 19 (nI (dwhy H s b (ce k).toInt))) := (c1.mono (by decide)).tr ((CI.f0).mono (by decide))
    rw [rs.1.g 16 33 (by decide) rfl, rs.1.a 16 i rfl (by decide) (show i < 4 from hi), h16, if_neg (nI_ge (by omega) (by omega)), rs.1.g 17 34 (by decide) rfl, rs.1.la (40 * i + k) (i40 i k) (by omega), hc k (by omega), cV_n rs.1.1 e1, pI_n r1.1.1, gI_n r2.1.1, sI_at, if_pos rfl]
    have hl : hp_L (hp_sI h1 m 19 (nI (dwhy H s b (ce k).toInt))) = hp_L h := c2.2.1.1
    have ha : ∀ j, hp_I (hp_sI h1 m 19 (nI (dwhy H s b (ce k).toInt))) (m + 1) j = hp_I h (m + 1) j := fun j => by rw [f0A _ m 19 _ 1 (by decide), c1.at (by decide)]
    have h3 := dwhy_lt H s b (ce k).toInt
    by_cases q : dwhy H s b (ce k).toInt = 0
    · rw [if_pos (show nI _ = 0 by rw [q]; rfl), r2.1.g 17 34 (by decide) rfl, r2.1.la (40 * i + k) (i40 i k) (by omega), hl, hc k (by omega)]
      obtain ⟨h4, e4, c4, r4, w4⟩ := rc_acts F hF r2 q (x := (ce k).toInt32) (l_i32 (dwhy_rng q).1 (dwhy_rng q).2)
      rw [cV_n r2.1.1 e4, nI_1]
      have z19 : hp_I h4 m 19 = 0 := by
        have := c4.2.2 m (fun k hk => by simp at hk; omega)
        rw [this, sI_at, if_pos rfl, q]; rfl
      obtain ⟨h', e, c, rr, w19, w⟩ := ih (k + 1) n h4 _ _ (by omega) (by omega) r4 z19 (by rw [c4.at (by decide), f0A _ m 19 _ 16 (by decide), c1.at (by decide)]; exact h16) (fun j hj => by rw [c4.2.1.1, hl]; exact hc j hj)
      have er : rnT H ce k (r + 1) s b = ((rnT H ce (k + 1) r (dact H s b (ce k).toInt).1 (dact H s b (ce k).toInt).2).1 + 1, (rnT H ce (k + 1) r (dact H s b (ce k).toInt).1 (dact H s b (ce k).toInt).2).2) := by rw [rnT, if_pos q]
      rw [er]
      refine ⟨h', ?_, (c2.tr (c4.mono (by decide))).tr c, rr, w19, fun j hj => by rw [w j hj, w4 j hj, ha j]⟩
      rw [e]
      congr 3
      show k + 1 + _ = k + (_ + 1)
      omega
    · rw [if_neg (nI_ne0 (by omega) (by omega))]
      have er : rnT H ce k (r + 1) s b = (0, dwhy H s b (ce k).toInt, s, b) := by rw [rnT, if_neg q]
      rw [er]
      exact ⟨_, rfl, c2, r2, by rw [sI_at, if_pos rfl], fun j hj => ha j⟩
theorem rc_tells (F : Nat) (hF : 2000 ≤ F) {m i : Nat} (hi : i < 4) {h : Hp} {H : HM} {s b : Nat} (r : RS h m H s b) {tr : TRY} (rt : RT h m tr) {so N : Nat} {ce : Nat → Int64} (ht : tr i = some (so, N, ce)) : ∃ h', f_X12_tells F m (nI i) h = some (nI (rnT H ce 0 N s b).1, h') ∧ CI m [0, 1, 5, 6] h h' ∧ RS h' m H (rnT H ce 0 N s b).2.2.1 (rnT H ce 0 N s b).2.2.2 ∧ hp_I h' m 19 = nI (rnT H ce 0 N s b).2.1 ∧ ∀ j, (j < 43 ∨ 52 ≤ j) → hp_I h' (m + 1) j = hp_I h (m + 1) j := by
  have ri := rt i hi
  rw [ht] at ri
  obtain ⟨q1, q2, q3, q4, q5⟩ := ri
  have hN : N ≤ 40 := q4
  unfold f_X12_tells
  rw [pI_n r.1.1]
  obtain ⟨h', e, c, rr, w19, w⟩ := rc_tells_r F hF hi (H := H) (so := so) hN N 0 F (hp_sI h m 19 0) s b (by omega) (by omega) (r.f 19 0) (by rw [sI_at, if_pos rfl]) (by rw [f0A _ m 19 _ 16 (by decide)]; exact q3) q5
  refine ⟨h', ?_, ((CI.f0).mono (by decide)).tr c, rr, w19, fun j hj => by rw [w j hj, f0A _ m 19 _ 1 (by decide)]⟩
  rw [Nat.zero_add] at e
  exact e
def sp_perform (H : HM) (s b : Nat) (tr : TRY) (x : Int32) : Int32 × Option (Nat × Nat) := match tra tr x with
  | none => (trc tr x, none)
  | some q => (nI (rnT H q.2.2 0 q.2.1 s b).1, if (rnT H q.2.2 0 q.2.1 s b).1 = 0 then none else some (rnT H q.2.2 0 q.2.1 s b).2.2)
theorem rnT_le (H : HM) (ce : Nat → Int64) : ∀ r k s b, (rnT H ce k r s b).1 ≤ r := by
  intro r
  induction r with
  | zero => intro k s b; exact Nat.le_refl 0
  | succ r ih =>
    intro k s b
    rw [rnT]
    split
    · have := ih (k + 1) (dact H s b (ce k).toInt).1 (dact H s b (ce k).toInt).2
      show _ + 1 ≤ _; omega
    · exact Nat.zero_le _
theorem rnT_0 (H : HM) (ce : Nat → Int64) : ∀ r k s b, (rnT H ce k r s b).1 = 0 → (rnT H ce k r s b).2.2 = (s, b) := by
  intro r k s b
  cases r with
  | zero => intro _; rfl
  | succ r =>
    rw [rnT]
    split
    · intro h; exact absurd h (Nat.succ_ne_zero _)
    · intro _; rfl
theorem tra_some {tr : TRY} {x : Int32} {q : Nat × Nat × (Nat → Int64)} (h : tra tr x = some q) : ∃ i, i < 4 ∧ x = nI i ∧ tr i = some q := by
  unfold tra at h
  cases hx : vi x 4 with
  | none => rw [hx] at h; cases h
  | some i => rw [hx] at h; exact ⟨i, (vi_some hx).1, (vi_some hx).2, h⟩
theorem trc_ne (tr : TRY) (x : Int32) : ¬ trc tr x = 0 := by
  unfold trc
  split <;> decide
theorem rc_perform (F : Nat) (hF : 2000 ≤ F) {m : Nat} {h : Hp} {H : HM} {s b n : Nat} {ps : Nat → Nat × Nat} (r : RP h m H s b n ps) {tr : TRY} (rt : RT h m tr) (x : Int32) : ∃ h', f_X12_perform F m x h = some ((sp_perform H s b tr x).1, h') ∧ CI m [0, 1, 5, 6, 7] h h' ∧ RPo h' m H s b n ps (sp_perform H s b tr x).2 ∧ ∀ j, 143 ≤ j → hp_I h' (m + 1) j = hp_I h (m + 1) j := by
  have r1 := r.f 0 0
  have t1 : RT (hp_sI h m 0 0) m tr := rt.ci CI.f0 (by decide) (by decide)
  have c0 : CI m [0, 1, 5, 6, 7] h (hp_sI h m 0 0) := (CI.f0).mono (by decide)
  have fin : ∀ j, hp_I (hp_sI h m 0 0) (m + 1) j = hp_I h (m + 1) j := fun j => by rw [f0A h m 0 0 1 (by decide)]
  unfold f_X12_perform sp_perform
  rw [pI_n r.1.1.1, cV_n r1.1.1.1 (rc_noTray F r1.1.1 t1 x)]
  cases hq : tra tr x with
  | none => rw [if_neg (trc_ne tr x)]; exact ⟨_, rfl, c0, r1, fun j _ => fin j⟩
  | some q =>
    obtain ⟨i, hi, rfl, hti⟩ := tra_some hq
    obtain ⟨so, N, ce⟩ := q
    rw [if_pos rfl]
    obtain ⟨h3, e3, c3, w3⟩ := rc_keeps F (by omega) r1.1.1
    have r3 : RP h3 m H s b n ps := r1.ci c3 (by decide)
    obtain ⟨h4, e4, c4, r4, w19, w4⟩ := rc_tells F hF hi r3.1 (t1.ci c3 (by decide) (by decide)) hti
    rw [cV_n r1.1.1.1 e3, cV_n r3.1.1.1 e4]
    dsimp only
    have hb := rnT_le H ce N 0 s b
    have hN : N ≤ 40 := by have := rt i hi; rw [hti] at this; exact this.2.2.2.1
    by_cases z : (rnT H ce 0 N s b).1 = 0
    · rw [if_pos (show nI _ ≤ 0 by rw [z]; decide), if_pos z]
      refine ⟨h4, rfl, (c0.tr (c3.mono (by decide))).tr (c4.mono (by decide)), ⟨?_, r3.2.1.cg (fun j hj => w4 j (by omega)), r3.2.2⟩, fun j hj => by rw [w4 j (by omega), c3.at (by decide), fin j]⟩
      rw [rnT_0 H ce N 0 s b z] at r4
      exact r4
    · rw [if_neg (nI_nle (by omega) (by omega)), if_neg z]
      obtain ⟨h7, e7, c7, r7, w7⟩ := RP.note F (by omega) r3 r4 (fun j hj => w4 j (by omega)) (fun j hj => by
        rw [c4.at (by decide), w3 j hj, c3.at (by decide)])
      rw [cV_n r4.1.1 e7]
      exact ⟨h7, rfl, ((c0.tr (c3.mono (by decide))).tr (c4.mono (by decide))).tr (c7.mono (by decide)), r7, fun j hj => by rw [w7 j (by omega), w4 j (by omega), c3.at (by decide), fin j]⟩
