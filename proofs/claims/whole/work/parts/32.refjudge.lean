/-! L3: deeds judged, drawn -/
theorem RP.eqA {h h' : Hp} {m : Nat} {H : HM} {s b n : Nat} {ps : Nat → Nat × Nat} (r : RP h m H s b n ps) (hS : SR h' m) (hA : hp_I h' (m + 1) = hp_I h (m + 1)) : RP h' m H s b n ps := ⟨r.1.eqA hS hA, by rw [hA]; exact r.2.1, r.2.2⟩
def sp_judge (H : HM) (s b : Nat) (tr : TRY) (x y : Int32) : Int32 := match vb y 0 3 with
  | none => -2
  | some w => match tra tr x with
    | none => trc tr x
    | some q => if w = 0 then (if (rnT H q.2.2 0 q.2.1 s b).2.1 = 0 then -1 else nI (rnT H q.2.2 0 q.2.1 s b).1) else if w = 1 then nI (rnT H q.2.2 0 q.2.1 s b).2.1 else nI (dsa H (rnT H q.2.2 0 q.2.1 s b).2.2.1 (w - 2))
theorem rnT_why (H : HM) (ce : Nat → Int64) : ∀ r k s b, (rnT H ce k r s b).2.1 ≤ 3 := by
  intro r
  induction r with
  | zero => intro k s b; exact Nat.zero_le 3
  | succ r ih =>
    intro k s b
    rw [rnT]
    split
    · exact ih _ _ _
    · exact dwhy_lt _ _ _ _
theorem again {m : Nat} {h h1 h2 h3 : Hp} (w1 : ∀ j, j < 9 → hp_I h1 (m + 7) j = hp_I h (m + 1) (43 + j)) (e1 : hp_I h1 (m + 1) = hp_I h (m + 1)) (w2 : ∀ j, (j < 43 ∨ 52 ≤ j) → hp_I h2 (m + 1) j = hp_I h1 (m + 1) j) (e2 : hp_I h2 (m + 7) = hp_I h1 (m + 7)) (w3 : ∀ j, hp_I h3 (m + 1) j = if 43 ≤ j ∧ j < 52 then hp_I h2 (m + 7) (j - 43) else hp_I h2 (m + 1) j) : hp_I h3 (m + 1) = hp_I h (m + 1) := by
  funext j
  rw [w3 j]
  by_cases z : 43 ≤ j ∧ j < 52
  · rw [if_pos z, e2, w1 _ (by omega), show 43 + (j - 43) = j by omega]
  · rw [if_neg z, w2 j (by omega), e1]
theorem rc_judge (F : Nat) (hF : 2000 ≤ F) {m : Nat} {h : Hp} {H : HM} {s b : Nat} (r : RS h m H s b) {tr : TRY} (rt : RT h m tr) (x y : Int32) : ∃ h', f_X12_judge F m x y h = some (sp_judge H s b tr x y, h') ∧ CI m [0, 1, 5, 6, 7] h h' ∧ hp_I h' (m + 1) = hp_I h (m + 1) := by
  have r1 := r.f 0 0
  have t1 : RT (hp_sI h m 0 0) m tr := rt.ci CI.f0 (by decide) (by decide)
  have c0 : CI m [0, 1, 5, 6, 7] h (hp_sI h m 0 0) := (CI.f0).mono (by decide)
  have fin : hp_I (hp_sI h m 0 0) (m + 1) = hp_I h (m + 1) := f0A h m 0 0 1 (by decide)
  unfold f_X12_judge sp_judge
  rw [pI_n r.1.1, bd_n (show f_X12_within F y.toInt64 0 3 _ = _ from rc_wb F y (a := 0) (c := 3) (by decide) (by decide) _)]
  cases hy : vb y 0 3 with
  | none => rw [if_pos (bsm0 rfl)]; exact ⟨_, rfl, c0, fin⟩
  | some w =>
    obtain ⟨-, k2, k3, -⟩ := vb_some hy
    rw [if_neg (bsm1 rfl), cV_n r1.1.1 (rc_noTray F r1.1 t1 x)]
    cases hq : tra tr x with
    | none => rw [if_neg (trc_ne tr x)]; exact ⟨_, rfl, c0, fin⟩
    | some q =>
      obtain ⟨i, hi, rfl, hti⟩ := tra_some hq
      obtain ⟨so, N, ce⟩ := q
      rw [if_pos rfl]
      obtain ⟨h3, e3, c3, w3⟩ := rc_keeps F (by omega) r1.1
      have r3 : RS h3 m H s b := r1.ci c3 (by decide)
      obtain ⟨h4, e4, c4, r4, w19, w4⟩ := rc_tells F hF hi r3 (t1.ci c3 (by decide) (by decide)) hti
      obtain ⟨h5, e5, c5, w5⟩ := rc_isAgain F (by omega) r4.1
      have ea : hp_I h5 (m + 1) = hp_I h (m + 1) := by
        rw [again (h := hp_sI h m 0 0) w3 (c3.at (by decide)) w4 (c4.at (by decide)) w5, fin]
      have S5 := c5.1.SR r4.1
      have r5 : RS h5 m H s b := r.eqA S5 ea
      have cc : CI m [0, 1, 5, 6, 7] h h5 := ((c0.tr (c3.mono (by decide))).tr (c4.mono (by decide))).tr (c5.mono (by decide))
      have e19 : hp_I h5 m 19 = nI (rnT H ce 0 N s b).2.1 := by
        have := c5.2.2 m (fun k hk => by simp at hk; omega)
        rw [this, w19]
      have hw := rnT_why H ce N 0 s b
      rw [cV_n r1.1.1 e3, cV_n r3.1.1 e4, cV_n r4.1.1 (r4.stand F (by omega)), cV_n r4.1.1 e5, k3]
      dsimp only
      by_cases w0 : w = 0
      · rw [if_pos (show nI w = 0 by rw [w0]; rfl), if_pos w0, gI_n S5.1, e19]
        by_cases z : (rnT H ce 0 N s b).2.1 = 0
        · rw [if_pos (show nI _ = 0 by rw [z]; rfl), if_pos z]; exact ⟨_, rfl, cc, ea⟩
        · rw [if_neg (nI_ne0 (by omega) (by omega)), if_neg z]; exact ⟨_, rfl, cc, ea⟩
      · rw [if_neg (nI_ne0 (by omega) (by omega)), if_neg w0]
        by_cases w1 : w = 1
        · rw [if_pos (show nI w = 1 by rw [w1]; rfl), if_pos w1, gI_n S5.1, e19]; exact ⟨_, rfl, cc, ea⟩
        · rw [if_neg (show ¬ nI w = 1 by rcases (show w = 2 ∨ w = 3 by omega) with rfl | rfl <;> decide), if_neg w1, show nI w - 2 = nI (w - 2) from pk_sub (a := w) (b := 2) (by omega), cV_n S5.1 (rc_doesAll F (by omega) S5 r5.2.1 r5.2.2.1 r4.s16 (t := w - 2) (by omega))]
          exact ⟨_, rfl, cc, ea⟩
/-- draws -/
def lcg (x : Int32) : Int32 := 1103515245 * x + 12345
def drv (x k : Int32) : Int32 := ju x 16 - ju x 16 / k * k
def drn (x : Int32) : Int32 × Int32 :=
  if drv (lcg x) 6 = 4 then (-1, lcg x) else if drv (lcg x) 6 = 5 then (200 + drv (lcg (lcg x)) 10, lcg (lcg x)) else ((if drv (lcg x) 6 = 3 then 100 else 0) + 10 * drv (lcg (lcg x)) 2 + drv (lcg (lcg (lcg x))) 4, lcg (lcg (lcg x)))
theorem rc_draw (F : Nat) {m : Nat} {h : Hp} (hS : SR h m) (k : Int32) (hk : ¬ k = 0) {x : Int32} (hx : hp_I h m 20 = x) : f_X12_draw F m k h = some (drv (lcg x) k, hp_sI h m 20 (lcg x)) := by
  unfold f_X12_draw
  rw [gI_n hS.1, pI_n hS.1, hx]
  show gI 13 (hp_sI h m 20 (lcg x)) m 20 _ = _
  rw [gI_n (hS.sI _ _ _).1, gd_t hk, sI_at, if_pos rfl]
  rfl
theorem rc_drawn (F : Nat) {m : Nat} {h : Hp} (hS : SR h m) {x : Int32} (hx : hp_I h m 20 = x) : ∃ h', f_X12_drawn F m h = some ((drn x).1, h') ∧ CI m [0] h h' ∧ hp_I h' m 20 = (drn x).2 := by
  have n1 : ∀ (h : Hp) (y : Int32), hp_I (hp_sI h m 20 y) m 20 = y := fun h y => by rw [sI_at, if_pos rfl]
  unfold f_X12_drawn drn
  rw [cV_n hS.1 (rc_draw F hS 6 (by decide) hx)]
  have S1 := hS.sI m 20 (lcg x)
  by_cases q4 : drv (lcg x) 6 = 4
  · rw [if_pos q4, if_pos q4]; exact ⟨_, rfl, CI.f0, n1 _ _⟩
  · rw [if_neg q4, if_neg q4]
    by_cases q5 : drv (lcg x) 6 = 5
    · rw [if_pos q5, if_pos q5, cV_n S1.1 (rc_draw F S1 10 (by decide) (n1 _ _))]; exact ⟨_, rfl, (CI.f0).tr CI.f0, n1 _ _⟩
    · rw [if_neg q5, if_neg q5, cV_n S1.1 (rc_draw F S1 2 (by decide) (n1 _ _))]
      have S2 := S1.sI m 20 (lcg (lcg x))
      unfold f_X12_drawn_47
      rw [cV_n S2.1 (rc_draw F S2 4 (by decide) (n1 _ _)), cV_n S2.1 (rc_draw F S2 4 (by decide) (n1 _ _))]
      by_cases q3 : drv (lcg x) 6 = 3
      · rw [if_pos q3, if_pos q3]; exact ⟨_, rfl, ((CI.f0).tr CI.f0).tr CI.f0, n1 _ _⟩
      · rw [if_neg q3, if_neg q3]; exact ⟨_, rfl, ((CI.f0).tr CI.f0).tr CI.f0, n1 _ _⟩
def yrn (H : HM) : Nat → Int32 → Nat → Nat → Nat × Nat × Nat
  | 0, _, s, b => (0, s, b)
  | r + 1, x, s, b => if dwhy H s b (drn x).1.toInt = 0 then ((yrn H r (drn x).2 (dact H s b (drn x).1.toInt).1 (dact H s b (drn x).1.toInt).2).1 + 1, (yrn H r (drn x).2 (dact H s b (drn x).1.toInt).1 (dact H s b (drn x).1.toInt).2).2) else yrn H r (drn x).2 s b
theorem rc_year_r (F : Nat) (hF : 2000 ≤ F) {m : Nat} {h0 : Hp} {H : HM} {s0 b0 n0 : Nat} {ps : Nat → Nat × Nat} (r0 : RP h0 m H s0 b0 n0 ps) {N : Nat} (hN : N ≤ 40) : ∀ r k n (h : Hp) (x : Int32) (s b c : Nat), k + r = N → r < n → c ≤ k → RS h m H s b → (c = 0 → s = s0 ∧ b = b0) → hp_I h m 20 = x → (∀ j, 52 ≤ j → hp_I h (m + 1) j = hp_I h0 (m + 1) j) → (∀ j, j < 9 → hp_I h (m + 7) j = hp_I h0 (m + 1) (43 + j)) → ∃ h', f_X12_year_34 F n m (nI N) (nI c) (nI k) h = some (nI (c + (yrn H r x s b).1), h') ∧ CI m [0, 1, 5, 6, 7] h h' ∧ RPo h' m H s0 b0 n0 ps (if c + (yrn H r x s b).1 = 0 then none else some (yrn H r x s b).2) ∧ ∀ j, 143 ≤ j → hp_I h' (m + 1) j = hp_I h0 (m + 1) j := by
  intro r
  induction r with
  | zero =>
    intro k n h x s b c hk hn hc rs hz hx hA hw
    obtain ⟨n, rfl⟩ : ∃ j, n = j + 1 := ⟨n - 1, by omega⟩
    show ∃ h', f_X12_year_34_b F (f_X12_year_34 F n) m (nI N) (nI c) (nI k) h = some (nI (c + 0), h') ∧ _ ∧ RPo h' m H s0 b0 n0 ps (if c + 0 = 0 then none else some (s, b)) ∧ _
    unfold f_X12_year_34_b
    rw [if_pos (nI_le (by omega) (by omega)), Nat.add_zero]
    by_cases z : c = 0
    · rw [if_pos (show nI c ≤ 0 by rw [z]; decide), if_pos z]
      obtain ⟨rfl, rfl⟩ := hz z
      exact ⟨h, rfl, CI.rf _ _ _, ⟨rs, r0.2.1.cg (fun j hj => hA j (by omega)), r0.2.2⟩, fun j hj => hA j (by omega)⟩
    · rw [if_neg (nI_nle (by omega) (by omega)), if_neg z]
      obtain ⟨h7, e7, c7, r7, w7⟩ := RP.note F (by omega) r0 rs (fun j hj => hA j (by omega)) hw
      rw [cV_n rs.1.1 e7]
      exact ⟨h7, rfl, c7.mono (by decide), r7, fun j hj => by rw [w7 j (by omega), hA j (by omega)]⟩
  | succ r ih =>
    intro k n h x s b c hk hn hc rs hz hx hA hw
    obtain ⟨n, rfl⟩ : ∃ j, n = j + 1 := ⟨n - 1, by omega⟩
    show ∃ h', f_X12_year_34_b F (f_X12_year_34 F n) m (nI N) (nI c) (nI k) h = _ ∧ _
    unfold f_X12_year_34_b
    obtain ⟨h1, e1, c1, x1⟩ := rc_drawn F rs.1 hx
    have r1 := rs.ci c1 (by decide)
    obtain ⟨h2, e2, c2⟩ := rc_whyNot F hF r1 (drn x).1.toInt64
    have r2 := r1.ci c2 (by decide)
    have m2 : hp_I h2 m = hp_I h1 m := c2.2.2 m (fun k hk => by simp at hk; omega)
    rw [i64_toInt] at e2
    have cc : CI m [0, 1, 5, 6, 7] h h2 := (c1.mono (by decide)).tr (c2.mono (by decide))
    rw [if_neg (nI_ge (by omega) (by omega)), cV_n rs.1.1 e1, cV_n r1.1.1 e2]
    have h3 := dwhy_lt H s b (drn x).1.toInt
    have a2 : hp_I h2 (m + 1) = hp_I h (m + 1) := by rw [c2.at (by decide), c1.at (by decide)]
    have w2 : hp_I h2 (m + 7) = hp_I h (m + 7) := by rw [c2.at (by decide), c1.at (by decide)]
    by_cases q : dwhy H s b (drn x).1.toInt = 0
    · obtain ⟨h4, e4, c4, r4, w4⟩ := rc_acts F hF r2 q rfl
      have er : yrn H (r + 1) x s b = ((yrn H r (drn x).2 (dact H s b (drn x).1.toInt).1 (dact H s b (drn x).1.toInt).2).1 + 1, (yrn H r (drn x).2 (dact H s b (drn x).1.toInt).1 (dact H s b (drn x).1.toInt).2).2) := by rw [yrn, if_pos q]
      rw [if_pos (show nI _ = 0 by rw [q]; rfl), cV_n r2.1.1 e4, er]
      unfold f_X12_year_68
      rw [nI_1, nI_1]
      obtain ⟨h', e, cx, rp, w⟩ := ih (k + 1) n h4 (drn x).2 _ _ (c + 1) (by omega) (by omega) (by omega) r4 (fun z => absurd z (by omega)) (by rw [c4.2.2 m (fun k hk => by simp at hk; omega), m2, x1]) (fun j hj => by rw [w4 j (by omega), a2, hA j hj]) (fun j hj => by rw [c4.at (by decide), w2, hw j hj])
      refine ⟨h', ?_, (cc.tr (c4.mono (by decide))).tr cx, ?_, w⟩
      · rw [e]; congr 3; show c + 1 + _ = c + (_ + 1); omega
      · have e' : c + ((yrn H r (drn x).2 (dact H s b (drn x).1.toInt).1 (dact H s b (drn x).1.toInt).2).1 + 1) = c + 1 + (yrn H r (drn x).2 (dact H s b (drn x).1.toInt).1 (dact H s b (drn x).1.toInt).2).1 := by omega
        rw [if_neg (by omega)] at rp
        dsimp only
        rw [if_neg (by omega)]
        exact rp
    · have er : yrn H (r + 1) x s b = yrn H r (drn x).2 s b := by rw [yrn, if_neg q]
      rw [if_neg (nI_ne0 (by omega) (by omega)), er]
      unfold f_X12_year_68
      rw [nI_1]
      obtain ⟨h', e, cx, rp, w⟩ := ih (k + 1) n h2 (drn x).2 s b c (by omega) (by omega) (by omega) r2 hz (by rw [m2, x1]) (fun j hj => by rw [a2, hA j hj]) (fun j hj => by rw [w2, hw j hj])
      exact ⟨h', e, cc.tr cx, rp, w⟩
def sp_year (H : HM) (s b : Nat) (x y : Int32) : Int32 × Option (Nat × Nat) := match vb y 1 40 with
  | none => (-3, none)
  | some k => (nI (yrn H k x s b).1, if (yrn H k x s b).1 = 0 then none else some (yrn H k x s b).2)
theorem rc_year (F : Nat) (hF : 2000 ≤ F) {m : Nat} {h : Hp} {H : HM} {s b n : Nat} {ps : Nat → Nat × Nat} (r : RP h m H s b n ps) (x y : Int32) : ∃ h', f_X12_year F m x y h = some ((sp_year H s b x y).1, h') ∧ CI m [0, 1, 5, 6, 7] h h' ∧ RPo h' m H s b n ps (sp_year H s b x y).2 ∧ ∀ j, 143 ≤ j → hp_I h' (m + 1) j = hp_I h (m + 1) j := by
  have r1 := r.f 0 0
  have c0 : CI m [0, 1, 5, 6, 7] h (hp_sI h m 0 0) := (CI.f0).mono (by decide)
  have fin : ∀ j, hp_I (hp_sI h m 0 0) (m + 1) j = hp_I h (m + 1) j := fun j => by rw [f0A h m 0 0 1 (by decide)]
  unfold f_X12_year sp_year
  rw [pI_n r.1.1.1, bd_n (show f_X12_within F y.toInt64 1 40 _ = _ from rc_wb F y (a := 1) (c := 40) (by decide) (by decide) _)]
  cases hy : vb y 1 40 with
  | none => rw [if_pos (bsm0 rfl)]; exact ⟨_, rfl, c0, r1, fun j _ => fin j⟩
  | some k =>
    obtain ⟨k1, k2, k3, -⟩ := vb_some hy
    obtain ⟨h3, e3, c3, w3⟩ := rc_keeps F (by omega) r1.1.1
    have r3 : RP h3 m H s b n ps := r1.ci c3 (by decide)
    have r4 := r3.f 20 x
    rw [if_neg (bsm1 rfl), cV_n r1.1.1.1 e3, pI_n r3.1.1.1, k3]
    obtain ⟨h', e, cx, rp, w⟩ := rc_year_r F hF r1 (N := k) (by omega) k 0 F (hp_sI h3 m 20 x) x s b 0 (by omega) (by omega) (by omega) r4.1 (fun _ => ⟨rfl, rfl⟩) (by rw [sI_at, if_pos rfl]) (fun j _ => by rw [f0A h3 m 20 x 1 (by decide), c3.at (by decide)]) (fun j hj => by rw [f0A h3 m 20 x 7 (by decide), w3 j hj])
    rw [Nat.zero_add] at e rp
    exact ⟨h', e, (((c0.tr (c3.mono (by decide))).tr ((CI.f0).mono (by decide)))).tr cx, rp, fun j hj => by rw [w j hj, fin j]⟩
