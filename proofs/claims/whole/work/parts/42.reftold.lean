/-! L3: who was told -/
def clrb (a i : Nat) : Nat := a ^^^ (a &&& 2 ^ i)
theorem clrb_tb (a i j : Nat) : (clrb a i).testBit j = (a.testBit j && !decide (i = j)) := by
  unfold clrb
  rw [Nat.testBit_xor, Nat.testBit_and, Nat.testBit_two_pow]
  cases a.testBit j <;> cases decide (i = j) <;> rfl
theorem clrb_lt {a i n : Nat} (h : a < 2 ^ n) : clrb a i < 2 ^ n := Nat.xor_lt_two_pow h (Nat.lt_of_le_of_lt Nat.and_le_left h)
theorem clrb_e {a i : Nat} (ha : a < 2 ^ 31) (hi : i < 31) : nI a &&& (((1 : Int32) <<< (nI i &&& 31)) ^^^ (-1)) = nI (clrb a i) := by
  rw [shl1 i hi]
  refine b_ext fun j hj => ?_
  rw [b_and, b_xor, b_m1 j hj, bt_nI hj, bt_nI hj, bt_nI hj, clrb_tb, Nat.testBit_two_pow]
  cases a.testBit j <;> cases decide (i = j) <;> rfl
theorem rc_twinAt (F : Nat) {r N i : Nat} (hr : r < 2 ^ 31) (hi : i < N) (hN : N ≤ 10) (h : Hp) : f_X12_twinAt F (nI r) (nI N) (nI i) h = some (nI (b1 (r.testBit (N - 1 - i) = true)), h) := by
  unfold f_X12_twinAt
  rw [show nI N - 1 = nI (N - 1) from pk_sub (a := N) (b := 1) (by omega), pk_sub (by omega), tb_and hr (by omega)]
/-- the number of a fact in a tray -/
def fat (ce : Nat → Int64) (k : Nat) : Nat := (ce k).toInt.toNat
def itl (H : HM) (b : Nat) (ce : Nat → Int64) (N a c r : Nat) : Nat → Nat → Nat → Bool
  | _, 0, s => decide (dsa H s 0 = a) && decide (dsa H s 1 = c)
  | k, q + 1, s => match tld H b s (b1 (r.testBit (N - 1 - k) = true)) (fat ce k) with
    | none => false
    | some u => itl H b ce N a c r (k + 1) q (dy u)
def FTS (H : HM) (ce : Nat → Int64) (N : Nat) : Prop := ∀ k, k < N → 0 ≤ (ce k).toInt ∧ (ce k).toInt < hm_f H
theorem rc_isTold_r (F : Nat) (hF : 2000 ≤ F) {m i : Nat} (hi : i < 4) {H : HM} {s0 b N a c r : Nat} {ce : Nat → Int64} (hN : N ≤ 10) (hr : r < 2 ^ 31) (ha : a < 64) (hc : c < 64) (hf : FTS H ce N) : ∀ q k n (h : Hp) (s : Nat), RS h m H s0 b → STok H s → hp_I h (m + 16) i = nI N → (∀ k, k < N → hp_L h (m + 17) (40 * i + k) = ce k) → k + q = N → q < n → ∃ h', f_X12_isTold_9 F n m (nI i) (nI r) (nI a) (nI c) (nI s) (nI k) h = some (nI (b2 (itl H b ce N a c r k q s)), h') ∧ CI m [5, 6] h h' := by
  intro q
  induction q with
  | zero =>
    intro k n h s rs hs h16 h17 hk hn
    obtain ⟨n, rfl⟩ : ∃ j, n = j + 1 := ⟨n - 1, by omega⟩
    have l0 := dsa_lt rs.2.1 s 0
    have l1 := dsa_lt rs.2.1 s 1
    show ∃ h', f_X12_isTold_9_b F (f_X12_isTold_9 F n) m (nI i) (nI r) (nI a) (nI c) (nI s) (nI k) h = _ ∧ _
    unfold f_X12_isTold_9_b
    rw [rs.1.g 16 33 (by decide) rfl, rs.1.a 16 i rfl (by decide) (show i < 4 from hi), h16, if_pos (nI_le (by omega) (by omega)), cV_n rs.1.1 (show f_X12_doesAll F m (nI s) 0 h = _ from rc_doesAll F (by omega) rs.1 rs.2.1 rs.2.2.1 hs.1 (t := 0) (by decide)), cV_n rs.1.1 (show f_X12_doesAll F m (nI s) 1 h = _ from rc_doesAll F (by omega) rs.1 rs.2.1 rs.2.2.1 hs.1 (t := 1) (by decide))]
    refine ⟨h, ?_, CI.rf _ _ _⟩
    show _ = some (nI (b2 (decide (dsa H s 0 = a) && decide (dsa H s 1 = c))), h)
    by_cases z : dsa H s 0 = a
    · rw [if_pos (show nI _ = nI a by rw [z]), decide_eq_true z]
      by_cases y : dsa H s 1 = c
      · rw [if_pos (show nI _ = nI c by rw [y]), decide_eq_true y]; rfl
      · rw [if_neg (fun w => y (nI_inj (by omega) (by omega) w)), decide_eq_false y]; rfl
    · rw [if_neg (fun w => z (nI_inj (by omega) (by omega) w)), decide_eq_false z]; rfl
  | succ q ih =>
    intro k n h s rs hs h16 h17 hk hn
    obtain ⟨n, rfl⟩ : ∃ j, n = j + 1 := ⟨n - 1, by omega⟩
    have hkN : k < N := by omega
    have f1 := hf k hkN
    have f4 := rs.f4
    have ef : ce k = lN (fat ce k) := l64 f1.1 (by omega)
    have hfk : fat ce k < hm_f H := by unfold fat; omega
    have hb1 := b1_le (r.testBit (N - 1 - k) = true)
    show ∃ h', f_X12_isTold_9_b F (f_X12_isTold_9 F n) m (nI i) (nI r) (nI a) (nI c) (nI s) (nI k) h = some (nI (b2 (match tld H b s (b1 (r.testBit (N - 1 - k) = true)) (fat ce k) with | none => false | some u => itl H b ce N a c r (k + 1) q (dy u))), h') ∧ _
    unfold f_X12_isTold_9_b
    rw [rs.1.g 16 33 (by decide) rfl, rs.1.a 16 i rfl (by decide) (show i < 4 from hi), h16, if_neg (nI_ge (by omega) (by omega)), rs.1.g 17 34 (by decide) rfl, rs.1.la (40 * i + k) (i40 i k) (by omega), h17 k hkN, lt_e, rs.1.g 16 33 (by decide) rfl, rs.1.a 16 i rfl (by decide) (show i < 4 from hi), h16, bd_n (rc_twinAt F hr hkN hN h), ef, lN_i, nI_1]
    obtain ⟨h2, e2, c2⟩ := rc_mayTell F hF rs.1 rs.2.1 rs.2.2.1 rs.2.2.2.1 rs.2.2.2.2.2 hs (t := b1 (r.testBit (N - 1 - k) = true)) (by omega) hfk
    have r2 := rs.ci c2 (by decide)
    rw [cV_n rs.1.1 e2]
    unfold tld
    cases ht : tel H b s (b1 (r.testBit (N - 1 - k) = true)) (fat ce k) with
    | none => rw [if_pos (bsm0 rfl)]; exact ⟨_, rfl, c2⟩
    | some cc =>
      obtain ⟨h3, e3, c3⟩ := rc_toldTo F hF r2.1 r2.2.1 r2.2.2.1 r2.2.2.2.1 r2.2.2.2.2.2 hs (t := b1 (r.testBit (N - 1 - k) = true)) (by omega) hfk ht
      have r3 := r2.ci c3 (by decide)
      have hc4 : cc < 4 := rs.2.1.2.2.2.2.1 _ _ _ _ _ _ ht
      rw [if_neg (bsm1 rfl), cV_n r2.1.1 e3, bd_n (rc_dayTo F (by omega) (tos_lt hc4) h3)]
      obtain ⟨h', e, c'⟩ := ih (k + 1) n h3 (dy (tos s (b1 (r.testBit (N - 1 - k) = true)) (fat ce k) cc)) r3 (tos_ok hs (by omega) hfk f4 hc4).dy (by rw [c3.at (by decide), c2.at (by decide)]; exact h16) (fun j hj => by rw [c3.2.1.1, c2.2.1.1]; exact h17 j hj) (by omega) (by omega)
      exact ⟨h', e, (c2.tr c3).tr c'⟩
def allf (H : HM) (ce : Nat → Int64) : Nat → Nat → Bool
  | _, 0 => true
  | k, q + 1 => (decide (0 ≤ (ce k).toInt) && decide ((ce k).toInt < hm_f H)) && allf H ce (k + 1) q
theorem allf_e {H : HM} {ce : Nat → Int64} : ∀ q k, allf H ce k q = true → ∀ j, k ≤ j → j < k + q → 0 ≤ (ce j).toInt ∧ (ce j).toInt < hm_f H := by
  intro q
  induction q with
  | zero => intro k _ j h1 h2; omega
  | succ q ih =>
    intro k h j h1 h2
    have h : ((decide (0 ≤ (ce k).toInt) && decide ((ce k).toInt < hm_f H)) && allf H ce (k + 1) q) = true := h
    rw [Bool.and_eq_true, Bool.and_eq_true] at h
    by_cases z : j = k
    · rw [z]; exact ⟨of_decide_eq_true h.1.1, of_decide_eq_true h.1.2⟩
    · exact ih (k + 1) h.2 j (by omega) (by omega)
/-- what a telling's question is refused by, or what it asks -/
def tdk (H : HM) (tr : TRY) (x y z : Int32) : Sum Int32 (Nat × (Nat → Int64) × Nat × Nat) := match tra tr x with
  | none => .inl (trc tr x)
  | some q => if 1 ≤ q.2.1 ∧ q.2.1 ≤ 10 then (if allf H q.2.2 0 q.2.1 = true then (match gsets H y z with | none => .inl (-3) | some p => .inr (q.2.1, q.2.2, p.1, p.2)) else .inl (-3)) else .inl (-4)
def tdc (o : Sum Int32 (Nat × (Nat → Int64) × Nat × Nat)) : Int32 := match o with
  | .inl c => c
  | .inr _ => 0
theorem tdk_ne {H : HM} {tr : TRY} {x y z c : Int32} (h : tdk H tr x y z = .inl c) : ¬ c = 0 := by
  unfold tdk at h
  cases hq : tra tr x with
  | none => rw [hq] at h; have h := Sum.inl.inj h; rw [← h]; exact trc_ne tr x
  | some q =>
    rw [hq] at h
    dsimp only at h
    by_cases z1 : 1 ≤ q.2.1 ∧ q.2.1 ≤ 10
    · rw [if_pos z1] at h
      by_cases z2 : allf H q.2.2 0 q.2.1 = true
      · rw [if_pos z2] at h
        cases hg : gsets H y z with
        | none => rw [hg] at h; have h := Sum.inl.inj h; rw [← h]; decide
        | some p => rw [hg] at h; cases h
      · rw [if_neg z2] at h; have h := Sum.inl.inj h; rw [← h]; decide
    · rw [if_neg z1] at h; have h := Sum.inl.inj h; rw [← h]; decide
theorem tdk_inr {H : HM} (hd : hm_d H ≤ 6) {tr : TRY} {x y z : Int32} {p : Nat × (Nat → Int64) × Nat × Nat} (h : tdk H tr x y z = .inr p) : 1 ≤ p.1 ∧ p.1 ≤ 10 ∧ FTS H p.2.1 p.1 ∧ y = nI p.2.2.1 ∧ z = nI p.2.2.2 ∧ p.2.2.1 < 64 ∧ p.2.2.2 < 64 ∧ ∃ i so, i < 4 ∧ x = nI i ∧ tr i = some (so, p.1, p.2.1) := by
  unfold tdk at h
  cases hq : tra tr x with
  | none => rw [hq] at h; cases h
  | some q =>
    rw [hq] at h
    dsimp only at h
    by_cases z1 : 1 ≤ q.2.1 ∧ q.2.1 ≤ 10
    · rw [if_pos z1] at h
      by_cases z2 : allf H q.2.2 0 q.2.1 = true
      · rw [if_pos z2] at h
        cases hg : gsets H y z with
        | none => rw [hg] at h; cases h
        | some p' =>
          rw [hg] at h
          have h := Sum.inr.inj h
          subst h
          obtain ⟨i, hi, e, ht⟩ := tra_some hq
          obtain ⟨g1, g2, g3, g4⟩ := gsets_some hd hg
          exact ⟨z1.1, z1.2, fun k hk => allf_e _ _ z2 k (by omega) (by omega), g1, g2, g3, g4, i, q.1, hi, e, ht⟩
      · rw [if_neg z2] at h; cases h
    · rw [if_neg z1] at h; cases h
theorem rc_noTold_r (F : Nat) {m i : Nat} (hi : i < 4) {H : HM} {s b N : Nat} {ce : Nat → Int64} {h : Hp} (hN : N ≤ 10) (rs : RS h m H s b) (h16 : hp_I h (m + 16) i = nI N) (h17 : ∀ k, k < N → hp_L h (m + 17) (40 * i + k) = ce k) (y z : Int32) : ∀ q k n, k + q = N → q < n → f_X12_noTold_38 F n m (nI i) y z (nI k) h = some ((if allf H ce k q = true then (match gsets H y z with | none => -3 | some _ => 0) else -3), h) := by
  intro q
  induction q with
  | zero =>
    intro k n hk hn
    obtain ⟨n, rfl⟩ : ∃ j, n = j + 1 := ⟨n - 1, by omega⟩
    show f_X12_noTold_38_b F (f_X12_noTold_38 F n) m (nI i) y z (nI k) h = _
    unfold f_X12_noTold_38_b
    rw [rs.1.g 16 33 (by decide) rfl, rs.1.a 16 i rfl (by decide) (show i < 4 from hi), h16, if_pos (nI_le (by omega) (by omega)), cV_n rs.1.1 (rc_areSets F rs y z), if_pos (show allf H ce k 0 = true from rfl)]
    cases gsets H y z with
    | none => rw [if_pos (bsm0 rfl)]
    | some p => rw [if_neg (bsm1 rfl)]
  | succ q ih =>
    intro k n hk hn
    obtain ⟨n, rfl⟩ : ∃ j, n = j + 1 := ⟨n - 1, by omega⟩
    have f4 := rs.f4
    show f_X12_noTold_38_b F (f_X12_noTold_38 F n) m (nI i) y z (nI k) h = _
    unfold f_X12_noTold_38_b
    rw [rs.1.g 16 33 (by decide) rfl, rs.1.a 16 i rfl (by decide) (show i < 4 from hi), h16, if_neg (nI_ge (by omega) (by omega)), rs.1.g 17 34 (by decide) rfl, rs.1.la (40 * i + k) (i40 i k) (by omega), h17 k (by omega), cV_n rs.1.1 (rc_isFactL F rs.1 (by omega) rs.fc (ce k)), nI_1]
    show _ = some ((if ((decide (0 ≤ (ce k).toInt) && decide ((ce k).toInt < hm_f H)) && allf H ce (k + 1) q) = true then _ else _), h)
    by_cases w : 0 ≤ (ce k).toInt ∧ (ce k).toInt < hm_f H
    · rw [if_neg (b1_1 w), decide_eq_true w.1, decide_eq_true w.2, ih (k + 1) n (by omega) (by omega)]
      rfl
    · rw [if_pos (b1_0 w), if_neg (show ¬ ((decide (0 ≤ (ce k).toInt) && decide ((ce k).toInt < hm_f H)) && allf H ce (k + 1) q) = true by
        intro y
        rw [Bool.and_eq_true, Bool.and_eq_true] at y
        exact w ⟨of_decide_eq_true y.1.1, of_decide_eq_true y.1.2⟩)]
theorem rc_noTold (F : Nat) (hF : 2000 ≤ F) {m : Nat} {H : HM} {s b : Nat} {h : Hp} (rs : RS h m H s b) {tr : TRY} (rt : RT h m tr) (x y z : Int32) : f_X12_noTold F m x y z h = some (tdc (tdk H tr x y z), h) := by
  unfold f_X12_noTold tdk
  rw [cV_n rs.1.1 (rc_noTray F rs.1 rt x)]
  cases hq : tra tr x with
  | none => rw [if_neg (trc_ne tr x)]; rfl
  | some q =>
    obtain ⟨i, hi, rfl, hti⟩ := tra_some hq
    have ri := rt i hi
    rw [hti] at ri
    obtain ⟨so, N, ce⟩ := q
    obtain ⟨q1, q2, q3, q4, q5⟩ := ri
    have q4 : N ≤ 40 := q4
    rw [if_pos rfl, rs.1.g 16 33 (by decide) rfl, rs.1.a 16 i rfl (by decide) (show i < 4 from hi), q3, i64_nI (show N < 2 ^ 31 by omega), bd_n (show f_X12_within F (lN N) 1 10 h = _ from rc_within F (a := 1) (b := 10) (by omega) (by decide) (by decide) h)]
    dsimp only
    by_cases w : 1 ≤ N ∧ N ≤ 10
    · rw [if_neg (b1_1 w), if_pos w, show f_X12_noTold_38 F F m (nI i) y z 0 h = _ from rc_noTold_r F hi w.2 rs q3 q5 y z N 0 F (by omega) (by omega)]
      by_cases w2 : allf H ce 0 N = true
      · rw [if_pos w2, if_pos w2]
        cases gsets H y z <;> rfl
      · rw [if_neg w2, if_neg w2]; rfl
    · rw [if_pos (b1_0 w), if_neg w]; rfl
/-- the row r of twins is told so -/
def itr (H : HM) (s b : Nat) (p : Nat × (Nat → Int64) × Nat × Nat) (r : Nat) : Bool := itl H b p.2.1 p.1 p.2.2.1 p.2.2.2 r 0 p.1 s
theorem rc_isTold (F : Nat) (hF : 2000 ≤ F) {m i : Nat} (hi : i < 4) {H : HM} {s b r : Nat} {p : Nat × (Nat → Int64) × Nat × Nat} {h : Hp} (rs : RS h m H s b) (hN : p.1 ≤ 10) (hr : r < 2 ^ 31) (ha : p.2.2.1 < 64) (hc : p.2.2.2 < 64) (hf : FTS H p.2.1 p.1) (h16 : hp_I h (m + 16) i = nI p.1) (h17 : ∀ k, k < p.1 → hp_L h (m + 17) (40 * i + k) = p.2.1 k) : ∃ h', f_X12_isTold F m (nI i) (nI r) (nI p.2.2.1) (nI p.2.2.2) h = some (nI (b2 (itr H s b p r)), h') ∧ CI m [5, 6] h h' := by
  unfold f_X12_isTold
  rw [cV_n rs.1.1 (rs.stand F (by omega))]
  exact rc_isTold_r F hF hi hN hr ha hc hf p.1 0 F h s rs rs.2.2.2.2.1 h16 h17 (by omega) (by omega)
theorem p2_10 {n : Nat} (h : n ≤ 10) : 2 ^ n ≤ 1024 := Nat.le_trans (Nat.pow_le_pow_right (by decide) h) (by decide)
theorem rc_told_r (F : Nat) (hF : 2000 ≤ F) {m i : Nat} (hi : i < 4) {H : HM} {s b : Nat} {p : Nat × (Nat → Int64) × Nat × Nat} (hN : p.1 ≤ 10) (ha : p.2.2.1 < 64) (hc : p.2.2.2 < 64) (hf : FTS H p.2.1 p.1) : ∀ q k n (h : Hp), RS h m H s b → hp_I h (m + 16) i = nI p.1 → (∀ k, k < p.1 → hp_L h (m + 17) (40 * i + k) = p.2.1 k) → k + q = 2 ^ p.1 → q < n → ∃ h', f_X12_told_28 F n m (nI i) (nI p.2.2.1) (nI p.2.2.2) (nI (cb (itr H s b p) k)) (nI k) h = some (nI (cb (itr H s b p) (2 ^ p.1)), h') ∧ CI m [5, 6] h h' := by
  have hp := p2_10 hN
  intro q
  induction q with
  | zero =>
    intro k n h rs h16 h17 hk hn
    obtain ⟨n, rfl⟩ : ∃ j, n = j + 1 := ⟨n - 1, by omega⟩
    show ∃ h', f_X12_told_28_b F (f_X12_told_28 F n) m (nI i) _ _ _ (nI k) h = _ ∧ _
    unfold f_X12_told_28_b
    rw [rs.1.g 16 33 (by decide) rfl, rs.1.a 16 i rfl (by decide) (show i < 4 from hi), h16, shl1 p.1 (by omega), if_pos (nI_le (by omega) (by omega)), show k = 2 ^ p.1 by omega]
    exact ⟨h, rfl, CI.rf _ _ _⟩
  | succ q ih =>
    intro k n h rs h16 h17 hk hn
    obtain ⟨n, rfl⟩ : ∃ j, n = j + 1 := ⟨n - 1, by omega⟩
    obtain ⟨h1, e1, c1⟩ := rc_isTold F hF hi rs hN (r := k) (by omega) ha hc hf h16 h17
    have r1 := rs.ci c1 (by decide)
    show ∃ h', f_X12_told_28_b F (f_X12_told_28 F n) m (nI i) _ _ _ (nI k) h = _ ∧ _
    unfold f_X12_told_28_b f_X12_told_60
    rw [rs.1.g 16 33 (by decide) rfl, rs.1.a 16 i rfl (by decide) (show i < 4 from hi), h16, shl1 p.1 (by omega), if_neg (nI_ge (by omega) (by omega)), cV_n rs.1.1 e1, lt_e, lt_e, nI_1 k]
    obtain ⟨h', e, c⟩ := ih (k + 1) n h1 r1 (by rw [c1.at (by decide)]; exact h16) (fun j hj => by rw [c1.2.1.1]; exact h17 j hj) (by omega) (by omega)
    rw [show cb (itr H s b p) (k + 1) = cb (itr H s b p) k + b2 (itr H s b p k) from rfl] at e
    cases hb : itr H s b p k with
    | false =>
      rw [hb] at e
      rw [if_pos (show nI (b2 false) = 0 from rfl), show nI (cb (itr H s b p) k) + 0 = nI (cb (itr H s b p) k + 0) from nI_add _ 0]
      exact ⟨h', e, c1.tr c⟩
    | true =>
      rw [hb] at e
      rw [if_neg (show ¬ nI (b2 true) = 0 by decide), nI_1]
      exact ⟨h', e, c1.tr c⟩
def sp_told (H : HM) (s b : Nat) (tr : TRY) (x y z : Int32) : Int32 := match tdk H tr x y z with
  | .inl c => c
  | .inr p => nI (cb (itr H s b p) (2 ^ p.1))
theorem rc_told (F : Nat) (hF : 2000 ≤ F) {m : Nat} {H : HM} {s b : Nat} {h : Hp} (r : RS h m H s b) {tr : TRY} (rt : RT h m tr) (x y z : Int32) : ∃ h', f_X12_told F m x y z h = some (sp_told H s b tr x y z, h') ∧ CI m [0, 5, 6] h h' := by
  have r1 := r.f 0 0
  have t1 : RT (hp_sI h m 0 0) m tr := rt.ci CI.f0 (by decide) (by decide)
  have c0 : CI m [0, 5, 6] h (hp_sI h m 0 0) := (CI.f0).mono (by decide)
  unfold f_X12_told sp_told
  rw [pI_n r.1.1, cV_n r1.1.1 (rc_noTold F hF r1 t1 x y z)]
  cases hk : tdk H tr x y z with
  | inl c => rw [if_neg (show ¬ tdc (Sum.inl c) = 0 from tdk_ne hk)]; exact ⟨_, rfl, c0⟩
  | inr p =>
    obtain ⟨p1, p2, p3, p4, p5, p6, p7, i, so, hi, e, ht⟩ := tdk_inr r.d6 hk
    have ri := t1 i hi
    rw [ht] at ri
    obtain ⟨q1, q2, q3, q4, q5⟩ := ri
    have hp := p2_10 p2
    obtain ⟨h', e', c'⟩ := rc_told_r F hF hi p2 p6 p7 p3 (2 ^ p.1) 0 F _ r1 q3 q5 (by omega) (by omega)
    rw [if_pos (show tdc (Sum.inr p) = 0 from rfl), e, p4, p5]
    exact ⟨h', e', c0.tr (c'.mono (by decide))⟩
def A_whom (H : HM) (s b : Nat) (tr : TRY) (x y z i v : Int32) : Prop := match tdk H tr x y z with
  | .inl c => v = c
  | .inr p => if 0 ≤ i then (if i.toInt.toNat < p.1 then ((∀ r, r < 2 ^ p.1 → itr H s b p r = false) ∧ v = -1) ∨ (∃ r, r < 2 ^ p.1 ∧ itr H s b p r = true ∧ (∀ r', r' < r → itr H s b p r' = false) ∧ v = nI (b1 (r.testBit (p.1 - 1 - i.toInt.toNat) = true))) else v = -1) else v = -3
theorem rc_whom_r (F : Nat) (hF : 2000 ≤ F) {m i : Nat} (hi : i < 4) {H : HM} {s b : Nat} {p : Nat × (Nat → Int64) × Nat × Nat} (h1N : 1 ≤ p.1) (hN : p.1 ≤ 10) (ha : p.2.2.1 < 64) (hc : p.2.2.2 < 64) (hf : FTS H p.2.1 p.1) {I : Nat} (hI : I < 2 ^ 31) : ∀ q k n (h : Hp), RS h m H s b → hp_I h (m + 16) i = nI p.1 → (∀ k, k < p.1 → hp_L h (m + 17) (40 * i + k) = p.2.1 k) → k + q = 2 ^ p.1 → q < n → (∀ r, r < k → itr H s b p r = false) → ∃ v h', f_X12_whom_33 F n m (nI i) (nI p.2.2.1) (nI p.2.2.2) (nI I) (nI k) h = some (v, h') ∧ CI m [5, 6] h h' ∧ (if I < p.1 then ((∀ r, r < 2 ^ p.1 → itr H s b p r = false) ∧ v = -1) ∨ (∃ r, r < 2 ^ p.1 ∧ itr H s b p r = true ∧ (∀ r', r' < r → itr H s b p r' = false) ∧ v = nI (b1 (r.testBit (p.1 - 1 - I) = true))) else v = -1) := by
  have hp := p2_10 hN
  intro q
  induction q with
  | zero =>
    intro k n h rs h16 h17 hk hn hz
    obtain ⟨n, rfl⟩ : ∃ j, n = j + 1 := ⟨n - 1, by omega⟩
    show ∃ v h', f_X12_whom_33_b F (f_X12_whom_33 F n) m (nI i) _ _ _ (nI k) h = _ ∧ _
    unfold f_X12_whom_33_b
    rw [rs.1.g 16 33 (by decide) rfl, rs.1.a 16 i rfl (by decide) (show i < 4 from hi), h16, shl1 p.1 (by omega), if_pos (nI_le (by omega) (by omega))]
    refine ⟨_, h, rfl, CI.rf _ _ _, ?_⟩
    by_cases w : I < p.1
    · rw [if_pos w]; exact Or.inl ⟨fun r hr => hz r (by omega), rfl⟩
    · rw [if_neg w]
  | succ q ih =>
    intro k n h rs h16 h17 hk hn hz
    obtain ⟨n, rfl⟩ : ∃ j, n = j + 1 := ⟨n - 1, by omega⟩
    show ∃ v h', f_X12_whom_33_b F (f_X12_whom_33 F n) m (nI i) _ _ _ (nI k) h = _ ∧ _
    unfold f_X12_whom_33_b
    rw [rs.1.g 16 33 (by decide) rfl, rs.1.a 16 i rfl (by decide) (show i < 4 from hi), h16, shl1 p.1 (by omega), if_neg (nI_ge (by omega) (by omega)), rs.1.g 16 33 (by decide) rfl, rs.1.a 16 i rfl (by decide) (show i < 4 from hi), h16]
    by_cases w : I < p.1
    · obtain ⟨h1, e1, c1⟩ := rc_isTold F hF hi rs hN (r := k) (by omega) ha hc hf h16 h17
      have r1 := rs.ci c1 (by decide)
      rw [if_neg (nI_ge w (by omega)), cV_n rs.1.1 e1]
      cases hb : itr H s b p k with
      | false =>
        rw [if_pos (show nI (b2 false) = 0 from rfl), nI_1]
        obtain ⟨v, h', e, c, a⟩ := ih (k + 1) n h1 r1 (by rw [c1.at (by decide)]; exact h16) (fun j hj => by rw [c1.2.1.1]; exact h17 j hj) (by omega) (by omega) (fun r hr => by
          by_cases y : r = k
          · rw [y]; exact hb
          · exact hz r (by omega))
        exact ⟨v, h', e, c1.tr c, a⟩
      | true =>
        rw [if_neg (show ¬ nI (b2 true) = 0 by decide), r1.1.g 16 33 (by decide) rfl, r1.1.a 16 i rfl (by decide) (show i < 4 from hi), show hp_I h1 (m + 16) i = nI p.1 by rw [c1.at (by decide)]; exact h16, bd_n (rc_twinAt F (by omega) w hN h1)]
        refine ⟨_, h1, rfl, c1, ?_⟩
        rw [if_pos w]
        exact Or.inr ⟨k, by omega, hb, hz, rfl⟩
    · rw [if_pos (nI_le (by omega) hI)]
      refine ⟨_, h, rfl, CI.rf _ _ _, ?_⟩
      rw [if_neg w]
theorem rc_whom (F : Nat) (hF : 2000 ≤ F) {m : Nat} {H : HM} {s b : Nat} {h : Hp} (r : RS h m H s b) {tr : TRY} (rt : RT h m tr) (x y z w : Int32) : ∃ v h', f_X12_whom F m x y z w h = some (v, h') ∧ CI m [0, 5, 6] h h' ∧ A_whom H s b tr x y z w v := by
  have r1 := r.f 0 0
  have t1 : RT (hp_sI h m 0 0) m tr := rt.ci CI.f0 (by decide) (by decide)
  have c0 : CI m [0, 5, 6] h (hp_sI h m 0 0) := (CI.f0).mono (by decide)
  unfold f_X12_whom A_whom
  rw [pI_n r.1.1, cV_n r1.1.1 (rc_noTold F hF r1 t1 x y z)]
  cases hk : tdk H tr x y z with
  | inl c => rw [if_neg (show ¬ tdc (Sum.inl c) = 0 from tdk_ne hk)]; exact ⟨_, _, rfl, c0, rfl⟩
  | inr p =>
    obtain ⟨p1, p2, p3, p4, p5, p6, p7, i, so, hi, e, ht⟩ := tdk_inr r.d6 hk
    have ri := t1 i hi
    rw [ht] at ri
    obtain ⟨q1, q2, q3, q4, q5⟩ := ri
    have hp := p2_10 p2
    rw [if_pos (show tdc (Sum.inr p) = 0 from rfl)]
    dsimp only
    by_cases hw : 0 ≤ w
    · obtain ⟨i1, i2⟩ := i_nn hw
      obtain ⟨v, h', e', c', a'⟩ := rc_whom_r F hF hi p1 p2 p6 p7 p3 i2 (2 ^ p.1) 0 F _ r1 q3 q5 (by omega) (by omega) (fun r hr => by omega)
      rw [← i1] at e'
      rw [if_pos hw, e, p4, p5, show f_X12_whom_33 F F m (nI i) (nI p.2.2.1) (nI p.2.2.2) w 0 _ = _ from e']
      refine ⟨v, h', rfl, c0.tr (c'.mono (by decide)), ?_⟩
      rw [if_pos hw]; exact a'
    · rw [if_neg hw]; exact ⟨_, _, rfl, c0, by rw [if_neg hw]⟩
/-- surely -/
def A_surely (H : HM) (s b : Nat) (tr : TRY) (x y z w v : Int32) : Prop := match vb x 0 3 with
  | none => v = -2
  | some _ => match vi w 2 with
    | none => v = -2
    | some t => match tdk H tr x y z with
      | .inl c => v = c
      | .inr p => ((∀ r, r < 2 ^ p.1 → itr H s b p r = false) ∧ v = 0) ∨ ((∃ r, r < 2 ^ p.1 ∧ itr H s b p r = true) ∧ ∃ n, n < 2 ^ p.1 ∧ v = nI n ∧ ∀ i, i < p.1 → (n.testBit i = true ↔ ∀ r, r < 2 ^ p.1 → itr H s b p r = true → b1 (r.testBit (p.1 - 1 - i) = true) = t))
theorem rc_surely98 (F : Nat) {m i : Nat} (hi : i < 4) {H : HM} {s b : Nat} {h : Hp} (rs : RS h m H s b) {N r t : Nat} (hN : N ≤ 10) (ht : t < 2) (hr : r < 2 ^ 31) (h16 : hp_I h (m + 16) i = nI N) (y z l7 : Int32) (K : Nat → Int32 → Int32 → Int32 → Int32 → Int32 → Int32 → Int32 → Hp → Option (Int32 × Hp)) : ∀ q k n a, k + q = N → q < n → a < 2 ^ N → ∃ a', f_X12_surely_98 F K n m (nI i) y z (nI t) (nI a) l7 (nI r) (nI k) h = K m (nI i) y z (nI t) (nI a') l7 (nI (r + 1)) h ∧ a' < 2 ^ N ∧ ∀ j, j < N → (a'.testBit j = true ↔ a.testBit j = true ∧ (j < k ∨ b1 (r.testBit (N - 1 - j) = true) = t)) := by
  have hp := p2_10 hN
  intro q
  induction q with
  | zero =>
    intro k n a hk hn ha
    obtain ⟨n, rfl⟩ : ∃ j, n = j + 1 := ⟨n - 1, by omega⟩
    show ∃ a', f_X12_surely_98_b F K (f_X12_surely_98 F K n) m (nI i) y z (nI t) (nI a) l7 (nI r) (nI k) h = _ ∧ _
    unfold f_X12_surely_98_b f_X12_surely_144
    rw [rs.1.g 16 33 (by decide) rfl, rs.1.a 16 i rfl (by decide) (show i < 4 from hi), h16, if_pos (nI_le (by omega) (by omega)), nI_1]
    exact ⟨a, rfl, ha, fun j hj => ⟨fun w => ⟨w, Or.inl (by omega)⟩, fun w => w.1⟩⟩
  | succ q ih =>
    intro k n a hk hn ha
    obtain ⟨n, rfl⟩ : ∃ j, n = j + 1 := ⟨n - 1, by omega⟩
    have hb1 := b1_le (r.testBit (N - 1 - k) = true)
    show ∃ a', f_X12_surely_98_b F K (f_X12_surely_98 F K n) m (nI i) y z (nI t) (nI a) l7 (nI r) (nI k) h = _ ∧ _
    unfold f_X12_surely_98_b f_X12_surely_138
    rw [rs.1.g 16 33 (by decide) rfl, rs.1.a 16 i rfl (by decide) (show i < 4 from hi), h16, if_neg (nI_ge (by omega) (by omega)), rs.1.g 16 33 (by decide) rfl, rs.1.a 16 i rfl (by decide) (show i < 4 from hi), h16, bd_n (rc_twinAt F hr (show k < N by omega) hN h), lt_e, clrb_e (by omega) (by omega), nI_1]
    by_cases w : b1 (r.testBit (N - 1 - k) = true) = t
    · rw [if_pos (show nI _ = nI t by rw [w])]
      obtain ⟨a', e, l1, l2⟩ := ih (k + 1) n a (by omega) (by omega) ha
      refine ⟨a', e, l1, fun j hj => ?_⟩
      rw [l2 j hj]
      constructor
      · rintro ⟨w1, w2⟩
        refine ⟨w1, ?_⟩
        rcases w2 with w2 | w2
        · by_cases v : j = k
          · rw [v]; exact Or.inr w
          · exact Or.inl (by omega)
        · exact Or.inr w2
      · rintro ⟨w1, w2⟩
        exact ⟨w1, w2.elim (fun v => Or.inl (by omega)) Or.inr⟩
    · rw [if_neg (fun v => w (nI_inj (by omega) (by omega) v))]
      obtain ⟨a', e, l1, l2⟩ := ih (k + 1) n (clrb a k) (by omega) (by omega) (clrb_lt ha)
      refine ⟨a', e, l1, fun j hj => ?_⟩
      rw [l2 j hj, clrb_tb, Bool.and_eq_true]
      constructor
      · rintro ⟨⟨w1, w2⟩, w3⟩
        have w2 : ¬ k = j := fun v => by rw [decide_eq_true v] at w2; cases w2
        exact ⟨w1, w3.elim (fun v => Or.inl (by omega)) Or.inr⟩
      · rintro ⟨w1, w2⟩
        have hne : ¬ k = j := fun v => by subst v; rcases w2 with w2 | w2; omega; exact w w2
        exact ⟨⟨w1, by rw [decide_eq_false hne]; rfl⟩, w2.elim (fun v => Or.inl (by omega)) Or.inr⟩
theorem rc_surely_r (F : Nat) (hF : 2000 ≤ F) {m i : Nat} (hi : i < 4) {H : HM} {s b t : Nat} {p : Nat × (Nat → Int64) × Nat × Nat} (ht : t < 2) (hN : p.1 ≤ 10) (ha : p.2.2.1 < 64) (hc : p.2.2.2 < 64) (hf : FTS H p.2.1 p.1) : ∀ q k n (h : Hp) (a : Nat) (any : Int32), RS h m H s b → hp_I h (m + 16) i = nI p.1 → (∀ k, k < p.1 → hp_L h (m + 17) (40 * i + k) = p.2.1 k) → k + q = 2 ^ p.1 → q < n → a < 2 ^ p.1 → (any = 0 ∧ (∀ r, r < k → itr H s b p r = false) ∨ any = 1 ∧ ∃ r, r < k ∧ itr H s b p r = true) → (∀ j, j < p.1 → (a.testBit j = true ↔ ∀ r, r < k → itr H s b p r = true → b1 (r.testBit (p.1 - 1 - j) = true) = t)) → ∃ v h', f_X12_surely_64 F n m (nI i) (nI p.2.2.1) (nI p.2.2.2) (nI t) (nI a) any (nI k) h = some (v, h') ∧ CI m [5, 6] h h' ∧ (((∀ r, r < 2 ^ p.1 → itr H s b p r = false) ∧ v = 0) ∨ ((∃ r, r < 2 ^ p.1 ∧ itr H s b p r = true) ∧ ∃ n, n < 2 ^ p.1 ∧ v = nI n ∧ ∀ i, i < p.1 → (n.testBit i = true ↔ ∀ r, r < 2 ^ p.1 → itr H s b p r = true → b1 (r.testBit (p.1 - 1 - i) = true) = t))) := by
  have hp := p2_10 hN
  intro q
  induction q with
  | zero =>
    intro k n h a any rs h16 h17 hk hn hal hany hb
    obtain ⟨n, rfl⟩ : ∃ j, n = j + 1 := ⟨n - 1, by omega⟩
    have hk : k = 2 ^ p.1 := by omega
    subst hk
    show ∃ v h', f_X12_surely_64_b F (f_X12_surely_64 F n) m (nI i) _ _ _ _ any (nI (2 ^ p.1)) h = _ ∧ _
    unfold f_X12_surely_64_b
    rw [rs.1.g 16 33 (by decide) rfl, rs.1.a 16 i rfl (by decide) (show i < 4 from hi), h16, shl1 p.1 (by omega), if_pos (nI_le (by omega) (by omega))]
    rcases hany with ⟨rfl, w⟩ | ⟨rfl, w⟩
    · rw [if_pos rfl]; exact ⟨_, h, rfl, CI.rf _ _ _, Or.inl ⟨w, rfl⟩⟩
    · rw [if_neg (by decide)]; exact ⟨_, h, rfl, CI.rf _ _ _, Or.inr ⟨w, a, hal, rfl, hb⟩⟩
  | succ q ih =>
    intro k n h a any rs h16 h17 hk hn hal hany hb
    obtain ⟨n, rfl⟩ : ∃ j, n = j + 1 := ⟨n - 1, by omega⟩
    obtain ⟨h1, e1, c1⟩ := rc_isTold F hF hi rs hN (r := k) (by omega) ha hc hf h16 h17
    have r1 := rs.ci c1 (by decide)
    have h16' : hp_I h1 (m + 16) i = nI p.1 := by rw [c1.at (by decide)]; exact h16
    have h17' : ∀ k, k < p.1 → hp_L h1 (m + 17) (40 * i + k) = p.2.1 k := fun j hj => by rw [c1.2.1.1]; exact h17 j hj
    show ∃ v h', f_X12_surely_64_b F (f_X12_surely_64 F n) m (nI i) _ _ _ _ any (nI k) h = _ ∧ _
    unfold f_X12_surely_64_b f_X12_surely_144
    rw [rs.1.g 16 33 (by decide) rfl, rs.1.a 16 i rfl (by decide) (show i < 4 from hi), h16, shl1 p.1 (by omega), if_neg (nI_ge (by omega) (by omega)), cV_n rs.1.1 e1, nI_1]
    cases hbt : itr H s b p k with
    | false =>
      rw [if_pos (show nI (b2 false) = 0 from rfl)]
      obtain ⟨v, h', e, c, w⟩ := ih (k + 1) n h1 a any r1 h16' h17' (by omega) (by omega) hal (by
        rcases hany with ⟨y1, y2⟩ | ⟨y1, r, y2, y3⟩
        · refine Or.inl ⟨y1, fun r hr => ?_⟩
          by_cases y : r = k
          · rw [y]; exact hbt
          · exact y2 r (by omega)
        · exact Or.inr ⟨y1, r, by omega, y3⟩) (fun j hj => by
        rw [hb j hj]
        constructor
        · intro y r hr hb'
          by_cases y2 : r = k
          · rw [y2, hbt] at hb'; cases hb'
          · exact y r (by omega) hb'
        · intro y r hr hb'; exact y r (by omega) hb')
      exact ⟨v, h', e, c1.tr c, w⟩
    | true =>
      obtain ⟨a2, e2, l2, b2'⟩ := rc_surely98 F hi r1 (r := k) hN ht (by omega) h16' (nI p.2.2.1) (nI p.2.2.2) 1 (f_X12_surely_64 F n) p.1 0 F a (by omega) (by omega) hal
      rw [if_neg (show ¬ nI (b2 true) = 0 by decide), show f_X12_surely_98 F (f_X12_surely_64 F n) F m (nI i) (nI p.2.2.1) (nI p.2.2.2) (nI t) (nI a) 1 (nI k) 0 h1 = _ from e2]
      obtain ⟨v, h', e, c, w⟩ := ih (k + 1) n h1 a2 1 r1 h16' h17' (by omega) (by omega) l2 (Or.inr ⟨rfl, k, by omega, hbt⟩) (fun j hj => by
        rw [b2' j hj, hb j hj]
        constructor
        · rintro ⟨y1, y2⟩ r hr hb'
          by_cases y3 : r = k
          · rw [y3]; exact y2.elim (fun w => absurd w (by omega)) id
          · exact y1 r (by omega) hb'
        · intro y
          exact ⟨fun r hr hb' => y r (by omega) hb', Or.inr (y k (by omega) hbt)⟩)
      exact ⟨v, h', e, c1.tr c, w⟩
theorem rc_surely (F : Nat) (hF : 2000 ≤ F) {m : Nat} {H : HM} {s b : Nat} {h : Hp} (r : RS h m H s b) {tr : TRY} (rt : RT h m tr) (x y z w : Int32) : ∃ v h', f_X12_surely F m x y z w h = some (v, h') ∧ CI m [0, 5, 6] h h' ∧ A_surely H s b tr x y z w v := by
  have r1 := r.f 0 0
  have t1 : RT (hp_sI h m 0 0) m tr := rt.ci CI.f0 (by decide) (by decide)
  have c0 : CI m [0, 5, 6] h (hp_sI h m 0 0) := (CI.f0).mono (by decide)
  unfold f_X12_surely A_surely
  rw [pI_n r.1.1, bd_n (show f_X12_within F x.toInt64 0 3 _ = _ from rc_wb F x (a := 0) (c := 3) (by decide) (by decide) _)]
  cases hx : vb x 0 3 with
  | none => rw [if_pos (bsm0 rfl)]; exact ⟨_, _, rfl, c0, rfl⟩
  | some j =>
    rw [if_neg (bsm1 rfl), bd_n (rc_isTwin F w _)]
    dsimp only
    cases hw : vi w 2 with
    | none => rw [if_pos (bsm0 rfl)]; exact ⟨_, _, rfl, c0, rfl⟩
    | some t =>
      obtain ⟨tt1, tt2⟩ := vi_some hw
      rw [if_neg (bsm1 rfl), cV_n r1.1.1 (rc_noTold F hF r1 t1 x y z)]
      dsimp only
      cases hk : tdk H tr x y z with
      | inl c => rw [if_neg (show ¬ tdc (Sum.inl c) = 0 from tdk_ne hk)]; exact ⟨_, _, rfl, c0, rfl⟩
      | inr p =>
        obtain ⟨p1, p2, p3, p4, p5, p6, p7, i, so, hi, e, ht⟩ := tdk_inr r.d6 hk
        have ri := t1 i hi
        rw [ht] at ri
        obtain ⟨q1, q2, q3, q4, q5⟩ := ri
        have hp := p2_10 p2
        have hpos : 0 < 2 ^ p.1 := Nat.pos_of_ne_zero (by simp)
        rw [if_pos (show tdc (Sum.inr p) = 0 from rfl), e, r1.1.g 16 33 (by decide) rfl, r1.1.a 16 i rfl (by decide) (show i < 4 from hi), q3, lt_e, shl1 p.1 (by omega), show nI (2 ^ p.1) - 1 = nI (2 ^ p.1 - 1) from pk_sub (a := 2 ^ p.1) (b := 1) (by omega), p4, p5, tt2]
        obtain ⟨v, h', e', c', a'⟩ := rc_surely_r F hF hi (t := t) tt1 p2 p6 p7 p3 (2 ^ p.1) 0 F _ (2 ^ p.1 - 1) 0 r1 q3 q5 (by omega) (by omega) (by omega) (Or.inl ⟨rfl, fun r hr => by omega⟩) (fun j hj => by
          rw [Nat.testBit_two_pow_sub_one, decide_eq_true hj]
          exact ⟨fun _ r hr => by omega, fun _ => rfl⟩)
        exact ⟨v, h', e', c0.tr (c'.mono (by decide)), a'⟩
