/-! L3: trays laid and written; images -/
/-- only the ints of ks and the longs of ls changed -/
def CJ (m : Nat) (ks ls : List Nat) (h h' : Hp) : Prop := SH h h' ∧ K3 m h h' ∧ (∀ a, (∀ k ∈ ls, a ≠ m + k) → hp_L h' a = hp_L h a) ∧ ∀ a, (∀ k ∈ ks, a ≠ m + k) → hp_I h' a = hp_I h a
theorem CI.j {m : Nat} {ks : List Nat} {h h' : Hp} (c : CI m ks h h') (ls : List Nat) : CJ m ks ls h h' := ⟨c.1, c.2.1.2, fun a _ => by rw [c.2.1.1], c.2.2⟩
theorem CJ.rf (m : Nat) (ks ls : List Nat) (h : Hp) : CJ m ks ls h h := ⟨SH.rf h, fun _ _ => rfl, fun _ _ => rfl, fun _ _ => rfl⟩
theorem CJ.tr {m : Nat} {ks ls : List Nat} {h h1 h2 : Hp} (a : CJ m ks ls h h1) (b : CJ m ks ls h1 h2) : CJ m ks ls h h2 := ⟨a.1.tr b.1, fun f hf => (b.2.1 f hf).trans (a.2.1 f hf), fun x hx => (b.2.2.1 x hx).trans (a.2.2.1 x hx), fun x hx => (b.2.2.2 x hx).trans (a.2.2.2 x hx)⟩
theorem CJ.mono {m : Nat} {ks ls ks' ls' : List Nat} {h h' : Hp} (a : CJ m ks ls h h') (hk : (∀ k ∈ ks, k ∈ ks') ∧ ∀ k ∈ ls, k ∈ ls') : CJ m ks' ls' h h' := ⟨a.1, a.2.1, fun x hx => a.2.2.1 x (fun k q => hx k (hk.2 k q)), fun x hx => a.2.2.2 x (fun k q => hx k (hk.1 k q))⟩
theorem CJ.at {m k : Nat} {ks ls : List Nat} {h h' : Hp} (a : CJ m ks ls h h') (hk : k ∉ ks) : hp_I h' (m + k) = hp_I h (m + k) := a.2.2.2 _ (fun j hj e => hk (by rw [show k = j by omega]; exact hj))
theorem CJ.atL {m k : Nat} {ks ls : List Nat} {h h' : Hp} (a : CJ m ks ls h h') (hk : k ∉ ls) : hp_L h' (m + k) = hp_L h (m + k) := a.2.2.1 _ (fun j hj e => hk (by rw [show k = j by omega]; exact hj))
theorem CJ.sL {m k j : Nat} {ks ls : List Nat} {v : Int64} {h : Hp} (hk : k ∈ ls) : CJ m ks ls h (hp_sL h (m + k) j v) := ⟨SH.rf h, fun _ _ => rfl, fun a ha => by
  funext i
  rw [hp_L_sL, if_neg (fun q => ha k hk q.1)], fun _ _ => rfl⟩
theorem sI_ne (h : Hp) {a b : Nat} (k : Nat) (v : Int32) (hb : b ≠ a) : hp_I (hp_sI h a k v) b = hp_I h b := by
  funext i
  rw [hp_I_sI, if_neg (fun z => hb z.1)]
theorem sL_at (h : Hp) (a k j : Nat) (v : Int64) : hp_L (hp_sL h a k v) a j = if j = k then v else hp_L h a j := by
  rw [hp_L_sL]
  by_cases q : j = k
  · rw [if_pos ⟨rfl, q⟩, if_pos q]
  · rw [if_neg (fun z => q z.2), if_neg q]
theorem SR.lw {α : Type} {h : Hp} {m : Nat} (s : SR h m) (j : Nat) {i : Int32} {v : Int64} (hi : i = nI j) (hj : j < 160) (K : Hp → Option α) : wL h (m + 17) i v K = K (hp_sL h (m + 17) j v) :=
  wL_n (n := 160) (by rw [(s.2 17 (by decide) (by decide)).2.1]; rfl) (s.2 17 (by decide) (by decide)).2.2 hi hj (by decide) K
theorem RT.cj {h h' : Hp} {m : Nat} {tr : TRY} {ks ls : List Nat} (r : RT h m tr) (c : CJ m ks ls h h') (k1 : 15 ∉ ks) (k2 : 16 ∉ ks) (k3 : 17 ∉ ls) : RT h' m tr := by
  intro i hi
  have := r i hi
  rw [c.at k1, c.at k2, c.atL k3]
  exact this
theorem rc_numbers_r (F : Nat) {m i N : Nat} (hi : i < 4) (hN : N ≤ 40) : ∀ r k n (h : Hp), SR h m → k + r = N → r < n → ∃ h', f_X12_numbers_64 F n m (nI i) (nI N) (nI k) h = some (0, h') ∧ CJ m [] [17] h h' ∧ ∀ j, hp_L h' (m + 17) j = if 40 * i + k ≤ j ∧ j < 40 * i + N then 0 else hp_L h (m + 17) j := by
  intro r
  induction r with
  | zero =>
    intro k n h hS hk hn
    obtain ⟨n, rfl⟩ : ∃ j, n = j + 1 := ⟨n - 1, by omega⟩
    show ∃ h', f_X12_numbers_64_b F (f_X12_numbers_64 F n) m (nI i) (nI N) (nI k) h = _ ∧ _
    unfold f_X12_numbers_64_b
    rw [if_pos (nI_le (by omega) (by omega))]
    exact ⟨h, rfl, CJ.rf _ _ _ _, fun j => by rw [if_neg (by omega)]⟩
  | succ r ih =>
    intro k n h hS hk hn
    obtain ⟨n, rfl⟩ : ∃ j, n = j + 1 := ⟨n - 1, by omega⟩
    show ∃ h', f_X12_numbers_64_b F (f_X12_numbers_64 F n) m (nI i) (nI N) (nI k) h = _ ∧ _
    unfold f_X12_numbers_64_b
    rw [if_neg (nI_ge (by omega) (by omega)), hS.g 17 34 (by decide) rfl, hS.lw (40 * i + k) (i40 i k) (by omega), nI_1]
    obtain ⟨h', e, c, w⟩ := ih (k + 1) n (hp_sL h (m + 17) (40 * i + k) 0) (hS.sL _ _ _) (by omega) (by omega)
    refine ⟨h', e, (CJ.sL (by decide)).tr c, fun j => ?_⟩
    rw [w j, sL_at]
    by_cases q : j = 40 * i + k
    · rw [if_neg (by omega), if_pos q, if_pos (by omega)]
    · rw [if_neg q]
      by_cases q2 : 40 * i + (k + 1) ≤ j ∧ j < 40 * i + N
      · rw [if_pos q2, if_pos (by omega)]
      · rw [if_neg q2, if_neg (by omega)]
def sp_numbers (x y z : Int32) : Int32 × Option (Nat × Nat × Nat) := match vb x 0 3 with
  | none => (-2, none)
  | some i => match vb y 0 3 with
    | none => (-2, none)
    | some so => match vb z 0 40 with
      | none => (-3, none)
      | some n => (0, some (i, so, n))
def trL (tr : TRY) (o : Option (Nat × Nat × Nat)) : TRY := match o with
  | none => tr
  | some q => fun j => if j = q.1 then some (q.2.1, q.2.2, fun _ => 0) else tr j
theorem rc_numbers (F : Nat) (hF : 2000 ≤ F) {m : Nat} {h : Hp} (hS : SR h m) {tr : TRY} (rt : RT h m tr) (x y z : Int32) : ∃ h', f_X12_numbers F m x y z h = some ((sp_numbers x y z).1, h') ∧ CJ m [0, 15, 16] [17] h h' ∧ RT h' m (trL tr (sp_numbers x y z).2) := by
  have S1 := hS.sI m 0 0
  have t1 : RT (hp_sI h m 0 0) m tr := rt.ci CI.f0 (by decide) (by decide)
  have c0 : CJ m [0, 15, 16] [17] h (hp_sI h m 0 0) := ((CI.f0).mono (by decide)).j _
  unfold f_X12_numbers sp_numbers
  rw [pI_n hS.1, bd_n (show f_X12_within F x.toInt64 0 3 _ = _ from rc_wb F x (a := 0) (c := 3) (by decide) (by decide) _)]
  cases hx : vb x 0 3 with
  | none => rw [if_pos (bsm0 rfl)]; exact ⟨_, rfl, c0, t1⟩
  | some i =>
    obtain ⟨-, i2, i3, -⟩ := vb_some hx
    rw [if_neg (bsm1 rfl), bd_n (show f_X12_within F y.toInt64 0 3 _ = _ from rc_wb F y (a := 0) (c := 3) (by decide) (by decide) _)]
    cases hy : vb y 0 3 with
    | none => rw [if_pos (bsm0 rfl)]; exact ⟨_, rfl, c0, t1⟩
    | some so =>
      obtain ⟨-, so2, so3, -⟩ := vb_some hy
      rw [if_neg (bsm1 rfl), bd_n (show f_X12_within F z.toInt64 0 40 _ = _ from rc_wb F z (a := 0) (c := 40) (by decide) (by decide) _)]
      cases hz : vb z 0 40 with
      | none => rw [if_pos (bsm0 rfl)]; exact ⟨_, rfl, c0, t1⟩
      | some N =>
        obtain ⟨-, n2, n3, -⟩ := vb_some hz
        rw [if_neg (bsm1 rfl), S1.g 15 32 (by decide) rfl, i3, S1.w 15 i rfl (by decide) (show i < 4 by omega)]
        have S2 := S1.sI (m + 15) i y
        rw [S2.g 16 33 (by decide) rfl, S2.w 16 i rfl (by decide) (show i < 4 by omega), so3, n3]
        have S3 := (S1.sI (m + 15) i (nI so)).sI (m + 16) i (nI N)
        obtain ⟨h', e, c, w⟩ := rc_numbers_r F (i := i) (N := N) (by omega) n2 N 0 F _ S3 (by omega) (by omega)
        have c2 : CJ m [0, 15, 16] [17] (hp_sI h m 0 0) (hp_sI (hp_sI (hp_sI h m 0 0) (m + 15) i (nI so)) (m + 16) i (nI N)) := ((CI.sI (ks := [0, 15, 16]) (by decide)).tr (CI.sI (by decide))).j _
        refine ⟨h', e, (c0.tr c2).tr (c.mono (by decide)), fun j hj => ?_⟩
        have e15 : ∀ j, hp_I h' (m + 15) j = if j = i then nI so else hp_I h (m + 15) j := fun j => by
          rw [c.at (by decide), sI_ne _ _ _ (show m + 15 ≠ m + 16 by omega), sI_at, f0A h m 0 0 15 (by decide)]
        have e16 : ∀ j, hp_I h' (m + 16) j = if j = i then nI N else hp_I h (m + 16) j := fun j => by
          rw [c.at (by decide), sI_at, sI_ne _ _ _ (show m + 16 ≠ m + 15 by omega), f0A h m 0 0 16 (by decide)]
        have e17 : ∀ j, hp_L h' (m + 17) j = if 40 * i + 0 ≤ j ∧ j < 40 * i + N then 0 else hp_L h (m + 17) j := w
        have rj := rt j hj
        show match (if j = i then some (so, N, fun _ => 0) else tr j : Option (Nat × Nat × (Nat → Int64))) with
          | none => hp_I h' (m + 15) j = -1
          | some q => hp_I h' (m + 15) j = nI q.1 ∧ q.1 ≤ 3 ∧ hp_I h' (m + 16) j = nI q.2.1 ∧ q.2.1 ≤ 40 ∧ ∀ k, k < q.2.1 → hp_L h' (m + 17) (40 * j + k) = q.2.2 k
        rw [e15 j, e16 j]
        by_cases q : j = i
        · rw [if_pos q, if_pos q, if_pos q]
          exact ⟨rfl, so2, rfl, n2, fun k hk => by
            have hk : k < N := hk
            rw [e17, if_pos (by omega)]⟩
        · rw [if_neg q, if_neg q, if_neg q]
          cases ht : tr j with
          | none => rw [ht] at rj; exact rj
          | some p =>
            rw [ht] at rj
            obtain ⟨so', N', ce'⟩ := p
            obtain ⟨r1, r2, r3, r4, r5⟩ := rj
            have r4 : N' ≤ 40 := r4
            exact ⟨r1, r2, r3, r4, fun k hk => by
              have hk : k < N' := hk
              rw [e17, if_neg (by omega)]; exact r5 k hk⟩
def cutL (so : Nat) (v : Int64) : Int64 := if so = 0 then v.toInt32.toInt8.toInt32.toInt64 else if so = 1 then v.toInt32.toInt16.toInt32.toInt64 else if so = 2 then v.toInt32.toInt64 else v
theorem rc_cut (F : Nat) {so : Nat} (hs : so ≤ 3) (v : Int64) (h : Hp) : f_X12_cut F v (nI so) h = some (cutL so v, h) := by
  unfold f_X12_cut cutL
  rcases (show so = 0 ∨ so = 1 ∨ so = 2 ∨ so = 3 by omega) with rfl | rfl | rfl | rfl
  · rfl
  · rw [if_neg (show ¬ nI 1 = 0 by decide), if_pos (show nI 1 = 1 by decide)]; rfl
  · rw [if_neg (show ¬ nI 2 = 0 by decide), if_neg (show ¬ nI 2 = 1 by decide), if_pos (show nI 2 = 2 by decide)]; rfl
  · rw [if_neg (show ¬ nI 3 = 0 by decide), if_neg (show ¬ nI 3 = 1 by decide), if_neg (show ¬ nI 3 = 2 by decide)]; rfl
def sp_write (tr : TRY) (x y : Int32) (v : Int64) : Int64 × Option (Nat × Nat × Int64) := match tra tr x with
  | none => ((trc tr x).toInt64, none)
  | some q => match vi y q.2.1 with
    | none => (-7, none)
    | some k => (cutL q.1 v, some (x.toInt.toNat, k, cutL q.1 v))
def trW (tr : TRY) (o : Option (Nat × Nat × Int64)) : TRY := match o with
  | none => tr
  | some w => fun j => if j = w.1 then (tr j).map (fun q => (q.1, q.2.1, fun l => if l = w.2.1 then w.2.2 else q.2.2 l)) else tr j
theorem RT.put {h h' : Hp} {m : Nat} {tr : TRY} (r : RT h m tr) {i k : Nat} {v : Int64} {q : Nat × Nat × (Nat → Int64)} (hi : i < 4) (ht : tr i = some q) (hk : k < q.2.1) (e15 : hp_I h' (m + 15) = hp_I h (m + 15)) (e16 : hp_I h' (m + 16) = hp_I h (m + 16)) (e17 : ∀ j, hp_L h' (m + 17) j = if j = 40 * i + k then v else hp_L h (m + 17) j) : RT h' m (trW tr (some (i, k, v))) := by
  intro j hj
  have rj := r j hj
  have ri := r i hi
  rw [ht] at ri
  have rN : q.2.1 ≤ 40 := ri.2.2.2.1
  show match (if j = i then (tr j).map (fun q => (q.1, q.2.1, fun l => if l = k then v else q.2.2 l)) else tr j : Option (Nat × Nat × (Nat → Int64))) with
    | none => hp_I h' (m + 15) j = -1
    | some q => hp_I h' (m + 15) j = nI q.1 ∧ q.1 ≤ 3 ∧ hp_I h' (m + 16) j = nI q.2.1 ∧ q.2.1 ≤ 40 ∧ ∀ k, k < q.2.1 → hp_L h' (m + 17) (40 * j + k) = q.2.2 k
  rw [e15, e16]
  by_cases z : j = i
  · subst z
    rw [if_pos rfl, ht]
    refine ⟨ri.1, ri.2.1, ri.2.2.1, ri.2.2.2.1, fun l hl => ?_⟩
    show hp_L h' (m + 17) (40 * j + l) = if l = k then v else q.2.2 l
    rw [e17]
    by_cases z2 : l = k
    · rw [if_pos (by omega), if_pos z2]
    · rw [if_neg (by omega), if_neg z2]; exact ri.2.2.2.2 l hl
  · rw [if_neg z]
    cases hp : tr j with
    | none => rw [hp] at rj; exact rj
    | some p =>
      rw [hp] at rj
      obtain ⟨so', N', ce'⟩ := p
      obtain ⟨r1, r2, r3, r4, r5⟩ := rj
      have r4 : N' ≤ 40 := r4
      exact ⟨r1, r2, r3, r4, fun l hl => by
        have hl : l < N' := hl
        rw [e17, if_neg (by omega)]; exact r5 l hl⟩
theorem rc_write (F : Nat) (hF : 2000 ≤ F) {m : Nat} {h : Hp} (hS : SR h m) {tr : TRY} (rt : RT h m tr) (x y : Int32) (v : Int64) : ∃ h', f_X12_write F m x y v h = some ((sp_write tr x y v).1, h') ∧ CJ m [0] [17] h h' ∧ RT h' m (trW tr (sp_write tr x y v).2) := by
  have S1 := hS.sI m 0 0
  have t1 : RT (hp_sI h m 0 0) m tr := rt.ci CI.f0 (by decide) (by decide)
  have c0 : CJ m [0] [17] h (hp_sI h m 0 0) := (CI.f0).j _
  unfold f_X12_write sp_write
  rw [pI_n hS.1, cV_n S1.1 (rc_noTray F S1 t1 x)]
  cases hq : tra tr x with
  | none => rw [if_neg (trc_ne tr x)]; exact ⟨_, rfl, c0, t1⟩
  | some q =>
    obtain ⟨i, hi, rfl, hti⟩ := tra_some hq
    have ri := t1 i hi
    rw [hti] at ri
    obtain ⟨so, N, ce⟩ := q
    obtain ⟨q1, q2, q3, q4, q5⟩ := ri
    have q2 : so ≤ 3 := q2
    have q4 : N ≤ 40 := q4
    rw [if_pos rfl, S1.g 16 33 (by decide) rfl, S1.a 16 i rfl (by decide) (show i < 4 from hi), q3, bd_n (rc_wi F y.toInt64 0 _ _), i64_toInt, i64_toInt, sub1_toInt (show N < 2 ^ 31 by omega)]
    dsimp only
    cases hy : vi y N with
    | none =>
      have := vi_none hy
      rw [if_pos (b1_0 (fun z => this ⟨z.1, by have := z.2; omega⟩))]; exact ⟨_, rfl, c0, t1⟩
    | some k =>
      obtain ⟨k1, k2⟩ := vi_some hy
      have ek : y.toInt = k := by rw [k2, nI_toInt (by omega)]
      rw [if_neg (b1_1 ⟨by show 0 ≤ y.toInt; omega, by omega⟩), S1.g 17 34 (by decide) rfl, S1.g 15 32 (by decide) rfl, S1.a 15 i rfl (by decide) (show i < 4 from hi), q1, bd_n (rc_cut F q2 v _), k2, S1.lw (40 * i + k) (i40 i k) (by omega)]
      have S2 := S1.sL (m + 17) (40 * i + k) (cutL so v)
      rw [S2.g 17 34 (by decide) rfl, S2.la (40 * i + k) (i40 i k) (by omega), sL_at, if_pos rfl]
      refine ⟨_, rfl, c0.tr (CJ.sL (by decide)), ?_⟩
      rw [nI_toInt (by omega)]
      exact t1.put hi hti k1 rfl rfl (fun j => sL_at _ _ _ _ _)
/-- images -/
abbrev IMG : Type := Nat → Option (HM × Nat × Nat)
def RI (h : Hp) (m : Nat) (im : IMG) : Prop := ∀ i, i < 2 → match im i with
  | none => hp_I h (m + 2) i = 0
  | some q => hp_I h (m + 2) i = 1 ∧ HMok q.1 ∧ RB (fun k => hp_I h (m + 1) (1044 * (i + 1) + k)) q.1 q.2.1 q.2.2 ∧ LC (fun k => hp_I h (m + 1) (1044 * (i + 1) + k)) q.1 ∧ STok q.1 q.2.1 ∧ q.2.2 < 10
theorem RI.cg {h h' : Hp} {m : Nat} {im : IMG} (r : RI h m im) (h2 : hp_I h' (m + 2) = hp_I h (m + 2)) (h1 : ∀ j, 1044 ≤ j → hp_I h' (m + 1) j = hp_I h (m + 1) j) : RI h' m im := by
  intro i hi
  have := r i hi
  rw [h2, show (fun k => hp_I h' (m + 1) (1044 * (i + 1) + k)) = fun k => hp_I h (m + 1) (1044 * (i + 1) + k) from funext fun k => h1 _ (by omega)]
  exact this
theorem i1044 (i k : Nat) : 1044 * (nI i + 1) + nI k = nI (1044 * (i + 1) + k) := by rw [nI_1, show 1044 * nI (i + 1) = nI (1044 * (i + 1)) from pk_mul 1044 (i + 1), nI_add]
theorem SR.wz {α : Type} {h : Hp} {m : Nat} (s : SR h m) (j : Nat) {i v : Int32} (hi : i = nI j) (hj : j < 2) (hv : v = 0 ∨ v = 1) (K : Hp → Option α) : wZ h (m + 2) i v K = K (hp_sI h (m + 2) j v) :=
  wZ_n (n := 2) (by rw [(s.2 2 (by decide) (by decide)).2.1]; rfl) (s.2 2 (by decide) (by decide)).2.2 hi hj (by decide) hv K
theorem SR.az {α : Type} {h : Hp} {m : Nat} (s : SR h m) (j : Nat) {i : Int32} (hi : i = nI j) (hj : j < 2) (K : Int32 → Option α) : aI 22 h (m + 2) i K = K (hp_I h (m + 2) j) :=
  aI_n (n := 2) (by rw [(s.2 2 (by decide) (by decide)).2.1]; rfl) (s.2 2 (by decide) (by decide)).2.2 hi hj (by decide) K
theorem rc_image_r (F : Nat) {m i : Nat} (hi : i < 2) : ∀ r k n (h : Hp), SR h m → k + r = 1044 → r < n → ∃ h', f_X12_image_20 F n m (nI i) (nI k) h = some (0, h') ∧ CI m [1, 2] h h' ∧ (∀ j, hp_I h' (m + 2) j = if j = i then 1 else hp_I h (m + 2) j) ∧ ∀ j, hp_I h' (m + 1) j = if 1044 * (i + 1) + k ≤ j ∧ j < 1044 * (i + 2) then hp_I h (m + 1) (j - 1044 * (i + 1)) else hp_I h (m + 1) j := by
  intro r
  induction r with
  | zero =>
    intro k n h hS hk hn
    obtain ⟨n, rfl⟩ : ∃ j, n = j + 1 := ⟨n - 1, by omega⟩
    show ∃ h', f_X12_image_20_b F (f_X12_image_20 F n) m (nI i) (nI k) h = _ ∧ _
    unfold f_X12_image_20_b
    rw [if_pos (show (1044 : Int32) ≤ nI k from nI_le (a := 1044) (by omega) (by omega)), hS.g 2 2 (by decide) rfl, hS.wz i rfl hi (Or.inr rfl)]
    refine ⟨_, rfl, CI.sI (by decide), fun j => sI_at _ _ _ _ _, fun j => ?_⟩
    rw [if_neg (by omega), hp_I_sI, if_neg (by omega)]
  | succ r ih =>
    intro k n h hS hk hn
    obtain ⟨n, rfl⟩ : ∃ j, n = j + 1 := ⟨n - 1, by omega⟩
    show ∃ h', f_X12_image_20_b F (f_X12_image_20 F n) m (nI i) (nI k) h = _ ∧ _
    unfold f_X12_image_20_b
    rw [if_neg (show ¬ (1044 : Int32) ≤ nI k from i_ge (a := 1044) (by omega) (by decide)), hS.g 1 1 (by decide) rfl, hS.g 1 1 (by decide) rfl, hS.a 1 k rfl (by decide) (show k < 3132 by omega), hS.w 1 (1044 * (i + 1) + k) (i1044 i k) (by decide) (show 1044 * (i + 1) + k < 3132 by omega), nI_1]
    obtain ⟨h', e, c, w2, w1⟩ := ih (k + 1) n _ (hS.sI (m + 1) (1044 * (i + 1) + k) (hp_I h (m + 1) k)) (by omega) (by omega)
    refine ⟨h', e, (CI.sI (by decide)).tr c, fun j => ?_, fun j => ?_⟩
    · rw [w2 j, sI_ne _ _ _ (show m + 2 ≠ m + 1 by omega)]
    · rw [w1 j, sI_at, sI_at]
      by_cases q : j = 1044 * (i + 1) + k
      · rw [if_neg (by omega), if_pos q, if_pos (by omega), q, Nat.add_sub_cancel_left]
      · rw [if_neg q]
        by_cases q2 : 1044 * (i + 1) + (k + 1) ≤ j ∧ j < 1044 * (i + 2)
        · rw [if_pos q2, if_neg (show ¬ j - 1044 * (i + 1) = 1044 * (i + 1) + k by omega), if_pos (by omega)]
        · rw [if_neg q2, if_neg (by omega)]
def sp_image (x : Int32) : Int32 × Option Nat := match vb x 0 1 with
  | none => (-2, none)
  | some i => (0, some i)
def imU (im : IMG) (o : Option Nat) (q : HM × Nat × Nat) : IMG := match o with
  | none => im
  | some i => fun j => if j = i then some q else im j
theorem rc_image (F : Nat) (hF : 2000 ≤ F) {m : Nat} {h : Hp} {H : HM} {s b : Nat} (r : RS h m H s b) {im : IMG} (ri : RI h m im) (x : Int32) : ∃ h', f_X12_image F m x h = some ((sp_image x).1, h') ∧ CI m [0, 1, 2] h h' ∧ (∀ j, j < 1044 → hp_I h' (m + 1) j = hp_I h (m + 1) j) ∧ RI h' m (imU im (sp_image x).2 (H, s, b)) := by
  have r1 := r.f 0 0
  have c0 : CI m [0, 1, 2] h (hp_sI h m 0 0) := (CI.f0).mono (by decide)
  have i1 : RI (hp_sI h m 0 0) m im := ri.cg (f0A h m 0 0 2 (by decide)) (fun j _ => by rw [f0A h m 0 0 1 (by decide)])
  unfold f_X12_image sp_image
  rw [pI_n r.1.1, bd_n (show f_X12_within F x.toInt64 0 1 _ = _ from rc_wb F x (a := 0) (c := 1) (by decide) (by decide) _)]
  cases hx : vb x 0 1 with
  | none => rw [if_pos (bsm0 rfl)]; exact ⟨_, rfl, c0, fun j _ => by rw [f0A h m 0 0 1 (by decide)], i1⟩
  | some i =>
    obtain ⟨-, i2, i3, -⟩ := vb_some hx
    obtain ⟨h', e, c, w2, w1⟩ := rc_image_r F (i := i) (by omega) 1044 0 F _ r1.1 (by omega) (by omega)
    rw [if_neg (bsm1 rfl), i3]
    have ea : ∀ j, j < 1044 → hp_I h' (m + 1) j = hp_I h (m + 1) j := fun j hj => by rw [w1 j, if_neg (by omega), f0A h m 0 0 1 (by decide)]
    refine ⟨h', e, c0.tr (c.mono (by decide)), ea, fun j hj => ?_⟩
    show match (if j = i then some (H, s, b) else im j : Option (HM × Nat × Nat)) with
      | none => hp_I h' (m + 2) j = 0
      | some q => hp_I h' (m + 2) j = 1 ∧ HMok q.1 ∧ RB (fun k => hp_I h' (m + 1) (1044 * (j + 1) + k)) q.1 q.2.1 q.2.2 ∧ LC (fun k => hp_I h' (m + 1) (1044 * (j + 1) + k)) q.1 ∧ STok q.1 q.2.1 ∧ q.2.2 < 10
    rw [w2 j]
    by_cases q : j = i
    · subst q
      rw [if_pos rfl, if_pos rfl]
      have eb : ∀ k, k < 1044 → hp_I h' (m + 1) (1044 * (j + 1) + k) = hp_I h (m + 1) k := fun k hk => by rw [w1, if_pos (by omega), Nat.add_sub_cancel_left, f0A h m 0 0 1 (by decide)]
      obtain ⟨b1, b2, b3, b4, b5, b6, b7⟩ := r.2.2.1
      refine ⟨rfl, r.2.1, ⟨?_, ?_, ?_, fun d f hd hf => ?_, fun d hd => ?_, fun k hk => ?_, ?_⟩, r.2.2.2.1.cg (fun k hk => eb k (by omega)) r.f4, r.2.2.2.2.1, r.2.2.2.2.2⟩
      · show hp_I h' (m + 1) _ = _; rw [eb 0 (by omega)]; exact b1
      · show hp_I h' (m + 1) _ = _; rw [eb 1 (by omega)]; exact b2
      · show hp_I h' (m + 1) _ = _; rw [eb 2 (by omega)]; exact b3
      · show hp_I h' (m + 1) _ = _; rw [eb _ (by omega)]; exact b4 d f hd hf
      · show hp_I h' (m + 1) _ = _; rw [eb _ (by omega)]; exact b5 d hd
      · show hp_I h' (m + 1) _ = _; rw [eb _ (by omega)]; exact b6 k hk
      · show hp_I h' (m + 1) _ = _; rw [eb 51 (by omega)]; exact b7
    · rw [if_neg q, if_neg q]
      have rj := ri j hj
      have eb : ∀ k, k < 1044 → hp_I h' (m + 1) (1044 * (j + 1) + k) = hp_I h (m + 1) (1044 * (j + 1) + k) := fun k hk => by rw [w1, if_neg (by omega), f0A h m 0 0 1 (by decide)]
      cases hm : im j with
      | none => rw [hm] at rj; show hp_I _ (m + 2) j = 0; rw [f0A h m 0 0 2 (by decide)]; exact rj
      | some p =>
        rw [hm] at rj
        obtain ⟨p1, p2, p3, p4, p5, p6⟩ := rj
        obtain ⟨b1, b2, b3, b4, b5, b6, b7⟩ := p3
        refine ⟨by rw [f0A h m 0 0 2 (by decide)]; exact p1, p2, ⟨?_, ?_, ?_, fun d f hd hf => ?_, fun d hd => ?_, fun k hk => ?_, ?_⟩, p4.cg (fun k hk => eb k (by omega)) p2.1, p5, p6⟩
        · show hp_I h' (m + 1) _ = _; rw [eb 0 (by omega)]; exact b1
        · show hp_I h' (m + 1) _ = _; rw [eb 1 (by omega)]; exact b2
        · show hp_I h' (m + 1) _ = _; rw [eb 2 (by omega)]; exact b3
        · show hp_I h' (m + 1) _ = _; rw [eb _ (by omega)]; exact b4 d f hd hf
        · show hp_I h' (m + 1) _ = _; rw [eb _ (by omega)]; exact b5 d hd
        · show hp_I h' (m + 1) _ = _; rw [eb _ (by omega)]; exact b6 k hk
        · show hp_I h' (m + 1) _ = _; rw [eb 51 (by omega)]; exact b7
theorem rc_restore_r (F : Nat) {m i : Nat} (hi : i < 2) : ∀ r k n (h : Hp), SR h m → k + r = 1044 → r < n → ∃ h', f_X12_restore_32 F n m (nI i) (nI k) h = some (0, h') ∧ CI m [1] h h' ∧ ∀ j, hp_I h' (m + 1) j = if j = 52 then 0 else if k ≤ j ∧ j < 1044 then hp_I h (m + 1) (1044 * (i + 1) + j) else hp_I h (m + 1) j := by
  intro r
  induction r with
  | zero =>
    intro k n h hS hk hn
    obtain ⟨n, rfl⟩ : ∃ j, n = j + 1 := ⟨n - 1, by omega⟩
    show ∃ h', f_X12_restore_32_b F (f_X12_restore_32 F n) m (nI i) (nI k) h = _ ∧ _
    unfold f_X12_restore_32_b
    rw [if_pos (show (1044 : Int32) ≤ nI k from nI_le (a := 1044) (by omega) (by omega)), hS.g 1 1 (by decide) rfl, hS.w 1 52 (show (52 : Int32) = nI 52 from rfl) (by decide) (by decide)]
    refine ⟨_, rfl, CI.sI (by decide), fun j => ?_⟩
    rw [sI_at]
    by_cases q : j = 52
    · rw [if_pos q, if_pos q]
    · rw [if_neg q, if_neg q, if_neg (by omega)]
  | succ r ih =>
    intro k n h hS hk hn
    obtain ⟨n, rfl⟩ : ∃ j, n = j + 1 := ⟨n - 1, by omega⟩
    show ∃ h', f_X12_restore_32_b F (f_X12_restore_32 F n) m (nI i) (nI k) h = _ ∧ _
    unfold f_X12_restore_32_b
    rw [if_neg (show ¬ (1044 : Int32) ≤ nI k from i_ge (a := 1044) (by omega) (by decide)), hS.g 1 1 (by decide) rfl, hS.g 1 1 (by decide) rfl, hS.a 1 (1044 * (i + 1) + k) (i1044 i k) (by decide) (show 1044 * (i + 1) + k < 3132 by omega), hS.w 1 k rfl (by decide) (show k < 3132 by omega), nI_1]
    obtain ⟨h', e, c, w1⟩ := ih (k + 1) n _ (hS.sI (m + 1) k (hp_I h (m + 1) (1044 * (i + 1) + k))) (by omega) (by omega)
    refine ⟨h', e, (CI.sI (by decide)).tr c, fun j => ?_⟩
    rw [w1 j, sI_at, sI_at]
    by_cases q0 : j = 52
    · rw [if_pos q0, if_pos q0]
    · rw [if_neg q0, if_neg q0]
      by_cases q : j = k
      · rw [if_neg (by omega), if_pos q, if_pos (by omega), q]
      · rw [if_neg q, if_neg (show ¬ 1044 * (i + 1) + j = k by omega)]
        by_cases q2 : k + 1 ≤ j ∧ j < 1044
        · rw [if_pos q2, if_pos (by omega)]
        · rw [if_neg q2, if_neg (by omega)]
def sp_restore (im : IMG) (x : Int32) : Int32 × Option (HM × Nat × Nat) := match vb x 0 1 with
  | none => (-2, none)
  | some i => match im i with
    | none => (-5, none)
    | some q => (0, some q)
theorem rc_restore (F : Nat) (hF : 2000 ≤ F) {m : Nat} {h : Hp} {H : HM} {s b n : Nat} {ps : Nat → Nat × Nat} (r : RP h m H s b n ps) {im : IMG} (ri : RI h m im) (x : Int32) : ∃ h', f_X12_restore F m x h = some ((sp_restore im x).1, h') ∧ CI m [0, 1] h h' ∧ (match (sp_restore im x).2 with
    | none => RP h' m H s b n ps
    | some q => RP h' m q.1 q.2.1 q.2.2 0 ps) ∧ RI h' m im := by
  have r1 := r.f 0 0
  have c0 : CI m [0, 1] h (hp_sI h m 0 0) := (CI.f0).mono (by decide)
  have i1 : RI (hp_sI h m 0 0) m im := ri.cg (f0A h m 0 0 2 (by decide)) (fun j _ => by rw [f0A h m 0 0 1 (by decide)])
  unfold f_X12_restore sp_restore
  rw [pI_n r.1.1.1, bd_n (show f_X12_within F x.toInt64 0 1 _ = _ from rc_wb F x (a := 0) (c := 1) (by decide) (by decide) _)]
  cases hx : vb x 0 1 with
  | none => rw [if_pos (bsm0 rfl)]; exact ⟨_, rfl, c0, r1, i1⟩
  | some i =>
    obtain ⟨-, i2, i3, -⟩ := vb_some hx
    have ij := i1 i (by omega)
    rw [if_neg (bsm1 rfl), i3, r1.1.1.g 2 2 (by decide) rfl, r1.1.1.az i rfl (by omega)]
    dsimp only
    cases hm : im i with
    | none => rw [hm] at ij; rw [if_pos (show hp_I _ (m + 2) i = 0 from ij)]; exact ⟨_, rfl, c0, r1, i1⟩
    | some p =>
      rw [hm] at ij
      obtain ⟨p1, p2, p3, p4, p5, p6⟩ := ij
      obtain ⟨b1, b2, b3, b4, b5, b6, b7⟩ := p3
      rw [if_neg (show ¬ hp_I _ (m + 2) i = 0 by rw [p1]; decide)]
      obtain ⟨h', e, c, w⟩ := rc_restore_r F (i := i) (by omega) 1044 0 F _ r1.1.1 (by omega) (by omega)
      have eb : ∀ j, j < 1044 → j ≠ 52 → hp_I h' (m + 1) j = hp_I (hp_sI h m 0 0) (m + 1) (1044 * (i + 1) + j) := fun j h1 h2 => by rw [w j, if_neg h2, if_pos (by omega)]
      refine ⟨h', e, c0.tr (c.mono (by decide)), ⟨⟨c.1.SR r1.1.1, p2, ⟨?_, ?_, ?_, fun d f hd hf => ?_, fun d hd => ?_, fun k hk => ?_, ?_⟩, p4.cg (fun k hk => eb k (by omega) (by omega)) p2.1, p5, p6⟩, ⟨by rw [w, if_pos rfl]; rfl, by omega, fun i hi => absurd hi (by omega)⟩, fun i hi => absurd hi (by omega)⟩, i1.cg (c.at (by decide)) (fun j hj => ?_)⟩
      · rw [eb 0 (by omega) (by omega)]; exact b1
      · rw [eb 1 (by omega) (by omega)]; exact b2
      · rw [eb 2 (by omega) (by omega)]; exact b3
      · rw [eb _ (by omega) (by omega)]; exact b4 d f hd hf
      · rw [eb _ (by omega) (by omega)]; exact b5 d hd
      · rw [eb _ (by omega) (by omega)]; exact b6 k hk
      · rw [eb 51 (by omega) (by omega)]; exact b7
      · rw [w j, if_neg (by omega), if_neg (by omega)]
