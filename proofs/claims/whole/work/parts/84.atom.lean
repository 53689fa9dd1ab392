/-! L3, the two readers: atoms -/
def wcd (may K : Nat) : Option Nat := if K = 1 then some 1001 else if K = 2 then some 1002 else if K = 7 then (if may = 0 then some 1005 else none) else if K = 15 then some 1000 else if K = 16 then some 1003 else if K = 17 then some 1004 else none
theorem wcd_ta : ∀ may, may < 2 → ∀ K, K < 42 → (wcd may K).getD 0 = 0 ∨ (1000 ≤ (wcd may K).getD 0 ∧ (wcd may K).getD 0 < 1006) := by decide +kernel
theorem wcd_tb : ∀ may, may < 2 → ∀ K, K < 42 → (wcd may K).getD 0 = 0 ∨ (K ≠ 23 ∧ K ≠ 35 ∧ K ≠ 11) := by decide +kernel
theorem wcd_tc : ∀ may, may < 2 → ∀ K, K < 42 → (wcd may K).getD 0 = 0 ∨ (K ≠ 24 ∧ K ≠ 25) := by decide +kernel
theorem wcd_td : ∀ may, may < 2 → ∀ K, K < 42 → may = 0 ∨ (wcd may K).getD 0 ≠ 1005 := by decide +kernel
theorem wcd_nz {may K r : Nat} (h : wcd may K = some r) : r ≠ 0 := by
  unfold wcd at h
  repeat' (split at h)
  all_goals first | (injection h with h; omega) | exact absurd h (by intro y; injection y)
theorem wcd_t {may K r : Nat} (hy : may < 2) (hK : K < 42) (h : wcd may K = some r) : 1000 ≤ r ∧ r < 1006 ∧ K ≠ 23 ∧ K ≠ 35 ∧ K ≠ 11 ∧ K ≠ 24 ∧ K ≠ 25 ∧ (may = 1 → r ≠ 1005) := by
  have e : (wcd may K).getD 0 = r := by rw [h]; rfl
  have nz := wcd_nz h
  have q1 := wcd_ta may hy K hK
  have q2 := wcd_tb may hy K hK
  have q3 := wcd_tc may hy K hK
  have q4 := wcd_td may hy K hK
  rw [e] at q1 q2 q3 q4
  omega
theorem nvr_lt (tp : Nat → Nat) : ∀ r k v, (∀ j, k ≤ j → j < k + r → dgb (tp j) = true) → nvr tp r k v < (v + 1) * 10 ^ r := by
  intro r
  induction r with
  | zero => intro k v _; show v < (v + 1) * 1; omega
  | succ r ih =>
    intro k v h
    have z := h k (Nat.le_refl _) (by omega)
    unfold dgb at z
    rw [Bool.and_eq_true, decide_eq_true_iff, decide_eq_true_iff] at z
    have := ih (k + 1) (10 * v + tp k - 48) (fun j h1 h2 => h j (by omega) (by omega))
    show nvr tp r (k + 1) (10 * v + tp k - 48) < _
    refine Nat.lt_of_lt_of_le this ?_
    rw [Nat.pow_succ, Nat.mul_comm (10 ^ r) 10, ← Nat.mul_assoc]
    exact Nat.mul_le_mul_right _ (by omega)
theorem tN_lt {tp : Nat → Nat} {n A : Nat} (h : tK tp n A = 23) (ht : ∀ j, j < n → tp j < 256) : tN tp n A < 1000 := by
  have z0 : ¬ n ≤ A := fun z => by
    unfold tK at h
    rw [if_pos z] at h
    exact absurd h (by decide)
  unfold tK at h
  rw [if_neg z0] at h
  by_cases z1 : smb (tp A) = true
  · rw [if_pos z1] at h
    rcases kw_v tp A (rnk (fun j => smb (tp j)) (n - A) A) with ⟨j, j1, -, j3⟩ | ⟨-, j2⟩
    · omega
    · omega
  · rw [if_neg z1] at h
    by_cases z2 : dgb (tp A) = true
    · rw [if_pos z2] at h
      have le := rnk_le (fun j => dgb (tp j)) (n - A) A
      have z3 : rnk (fun j => dgb (tp j)) (n - A) A - A ≤ 3 := by
        by_cases z3 : rnk (fun j => dgb (tp j)) (n - A) A - A ≤ 3
        · exact z3
        · rw [if_neg z3] at h; exact absurd h (by decide)
      unfold tN
      have := nvr_lt tp (rnk (fun j => dgb (tp j)) (n - A) A - A) A 0 (fun j h1 h2 => rnk_in (fun j => dgb (tp j)) (n - A) A j h1 (by omega))
      have p3 : 10 ^ (rnk (fun j => dgb (tp j)) (n - A) A - A) ≤ 10 ^ 3 := Nat.pow_le_pow_right (by decide) z3
      omega
    · rw [if_neg z2] at h
      rcases sg_v (tp A) (ht A (by omega)) with ⟨y1, -⟩ | ⟨j, j1, j2, j3⟩
      · omega
      · omega
/-- the code of the token ahead -/
noncomputable def cod (may : Nat) (tp : Nat → Nat) (n A : Nat) : Option Nat := if tK tp n A = 23 then some (tN tp n A) else wcd may (tK tp n A)
theorem C_step (F : Nat) {x n may : Nat} {tp : Nat → Nat} {h0 h : Hp} (hy : may < 2) (hm : hp_I h0 (x + 9) 10 = nI may) {A : Nat} {ls : List Nat} {r : Nat} (c : CC x n tp h0 h (.inl (A, ls))) (hr : cod may tp n A = some r) : f_X5_stepOfToken F (x + 9) h = some (nI (ccd r), h) ∧ ccd r < 2000 := by
  have tk := C_tok c
  have ht := fun j hj => c.2.1.lt (j := j) hj
  have i10 : hp_I h (x + 9) 10 = nI may := by rw [c.2.2.1.2.1 10 (by decide)]; exact hm
  have tk : hp_I h (x + 9) 6 = ctk (tK tp n A) := tk
  unfold cod at hr
  unfold f_X5_stepOfToken
  rw [gI_n c.tg, tk]
  by_cases z : tK tp n A = 23
  · have lt := tN_lt z ht
    rw [if_pos z] at hr
    injection hr with hr
    rw [z, if_pos (show ctk 23 = 2 by decide +kernel), gI_n c.tg, c.2.2.2.1.2.2.2.2.1 z, ← hr]
    have e : ccd (tN tp n A) = 100 + tN tp n A := if_pos lt
    rw [e]
    exact ⟨by rw [show (100 : Int32) + nI (tN tp n A) = nI (100 + tN tp n A) from nI_add 100 _], by omega⟩
  · rw [if_neg z] at hr
    unfold wcd at hr
    by_cases z1 : tK tp n A = 1
    · rw [if_pos z1] at hr; injection hr with hr
      rw [z1, ← hr, if_neg (show ¬ ctk 1 = 2 by decide +kernel), if_pos (show ctk 1 = 201 by decide +kernel)]
      exact ⟨rfl, by decide⟩
    · rw [if_neg z1] at hr
      by_cases z2 : tK tp n A = 2
      · rw [if_pos z2] at hr; injection hr with hr
        rw [z2, ← hr, if_neg (show ¬ ctk 2 = 2 by decide +kernel), if_neg (show ¬ ctk 2 = 201 by decide +kernel), if_neg (show ¬ ctk 2 = 203 by decide +kernel), if_pos (show ctk 2 = 207 by decide +kernel)]
        exact ⟨rfl, by decide⟩
      · rw [if_neg z2] at hr
        by_cases z3 : tK tp n A = 7
        · rw [if_pos z3] at hr
          by_cases y : may = 0
          · rw [if_pos y] at hr; injection hr with hr
            rw [z3, ← hr, if_neg (show ¬ ctk 7 = 2 by decide +kernel), if_neg (show ¬ ctk 7 = 201 by decide +kernel), if_pos (show ctk 7 = 203 by decide +kernel), gI_n c.tg, i10, y, if_pos (show nI 0 = 0 from rfl)]
            exact ⟨rfl, by decide⟩
          · rw [if_neg y] at hr; injection hr
        · rw [if_neg z3] at hr
          by_cases z4 : tK tp n A = 15
          · rw [if_pos z4] at hr; injection hr with hr
            rw [z4, ← hr, if_neg (show ¬ ctk 15 = 2 by decide +kernel), if_neg (show ¬ ctk 15 = 201 by decide +kernel), if_neg (show ¬ ctk 15 = 203 by decide +kernel), if_neg (show ¬ ctk 15 = 207 by decide +kernel), if_pos (show ctk 15 = 215 by decide +kernel)]
            exact ⟨rfl, by decide⟩
          · rw [if_neg z4] at hr
            by_cases z5 : tK tp n A = 16
            · rw [if_pos z5] at hr; injection hr with hr
              rw [z5, ← hr, if_neg (show ¬ ctk 16 = 2 by decide +kernel), if_neg (show ¬ ctk 16 = 201 by decide +kernel), if_neg (show ¬ ctk 16 = 203 by decide +kernel), if_neg (show ¬ ctk 16 = 207 by decide +kernel), if_neg (show ¬ ctk 16 = 215 by decide +kernel), if_pos (show ctk 16 = 216 by decide +kernel)]
              exact ⟨rfl, by decide⟩
            · rw [if_neg z5] at hr
              by_cases z6 : tK tp n A = 17
              · rw [if_pos z6] at hr; injection hr with hr
                rw [z6, ← hr, if_neg (show ¬ ctk 17 = 2 by decide +kernel), if_neg (show ¬ ctk 17 = 201 by decide +kernel), if_neg (show ¬ ctk 17 = 203 by decide +kernel), if_neg (show ¬ ctk 17 = 207 by decide +kernel), if_neg (show ¬ ctk 17 = 215 by decide +kernel), if_neg (show ¬ ctk 17 = 216 by decide +kernel), if_pos (show ctk 17 = 217 by decide +kernel)]
                exact ⟨rfl, by decide⟩
              · rw [if_neg z6] at hr; injection hr
noncomputable def cods (may : Nat) (tp : Nat → Nat) (n : Nat) : PS → Option Nat
  | .inl (A, _) => cod may tp n A
  | .inr _ => none
theorem ctk_na : ∀ may, may < 2 → ∀ K, K < 42 → ¬ kok K = true ∨ K = 23 ∨ (wcd may K).getD 0 ≠ 0 ∨ (ctk K ≠ 2 ∧ ctk K ≠ 201) := by decide +kernel
theorem ctk_nb : ∀ may, may < 2 → ∀ K, K < 42 → ¬ kok K = true ∨ K = 23 ∨ (wcd may K).getD 0 ≠ 0 ∨ (ctk K ≠ 203 ∨ may = 1) := by decide +kernel
theorem ctk_nc : ∀ may, may < 2 → ∀ K, K < 42 → ¬ kok K = true ∨ K = 23 ∨ (wcd may K).getD 0 ≠ 0 ∨ (ctk K ≠ 207 ∧ ctk K ≠ 215) := by decide +kernel
theorem ctk_nd : ∀ may, may < 2 → ∀ K, K < 42 → ¬ kok K = true ∨ K = 23 ∨ (wcd may K).getD 0 ≠ 0 ∨ (ctk K ≠ 216 ∧ ctk K ≠ 217) := by decide +kernel
theorem ctk_no {may K : Nat} (hy : may < 2) (hK : K < 42) (ok : kok K = true) (h1 : K ≠ 23) (h2 : (wcd may K).getD 0 = 0) : ctk K ≠ 2 ∧ ctk K ≠ 201 ∧ (ctk K = 203 → may = 1) ∧ ctk K ≠ 207 ∧ ctk K ≠ 215 ∧ ctk K ≠ 216 ∧ ctk K ≠ 217 := by
  have un : ∀ {P : Prop}, (¬ kok K = true ∨ K = 23 ∨ (wcd may K).getD 0 ≠ 0 ∨ P) → P := fun y => by
    rcases y with y | y | y | y
    · exact absurd ok y
    · exact absurd y h1
    · exact absurd h2 y
    · exact y
  have a := un (ctk_na may hy K hK)
  have b := un (ctk_nb may hy K hK)
  have c := un (ctk_nc may hy K hK)
  have d := un (ctk_nd may hy K hK)
  exact ⟨a.1, a.2, fun y => b.elim (fun z => absurd y z) id, c.1, c.2, d.1, d.2⟩
theorem cods_n {may n : Nat} {tp : Nat → Nat} : ∀ {σ : PS}, cods may tp n σ = none → kin tp n σ ≠ 23 ∧ wcd may (kin tp n σ) = none
  | .inl (A, ls), h => by
    have h : cod may tp n A = none := h
    unfold cod at h
    by_cases z : tK tp n A = 23
    · rw [if_pos z] at h; injection h
    · rw [if_neg z] at h; exact ⟨z, h⟩
  | .inr b, _ => ⟨by show 25 ≠ 23; decide, rfl⟩
theorem C_stepn (F : Nat) {x n may : Nat} {tp : Nat → Nat} {h0 h : Hp} (hy : may < 2) (hm : hp_I h0 (x + 9) 10 = nI may) {σ : PS} (c : CC x n tp h0 h σ) (hr : cods may tp n σ = none) : f_X5_stepOfToken F (x + 9) h = some (-1, h) := by
  have i10 : hp_I h (x + 9) 10 = nI may := by rw [c.2.2.1.2.1 10 (by decide)]; exact hm
  obtain ⟨y1, y2⟩ := cods_n hr
  obtain ⟨a1, a2, a3, a4, a5, a6, a7⟩ := ctk_no hy (kok_lt _ (kin_ok c)) (kin_ok c) y1 (by rw [y2]; rfl)
  unfold f_X5_stepOfToken
  rw [gI_n c.tg, C_tok c, if_neg a1, if_neg a2]
  by_cases z : ctk (kin tp n σ) = 203
  · rw [if_pos z, gI_n c.tg, i10, a3 z, if_neg (show ¬ nI 1 = 0 by decide)]
  · rw [if_neg z, if_neg a4, if_neg a5, if_neg a6, if_neg a7]
theorem word_v : ∀ may, may < 2 → ∀ K, K < 42 → ∀ h F m, hp_t h m = 13 → hp_I h m 15 = nI may → f_X12_wordOf F m (nI K) h = some (match wcd may K with | some r => nI (r - 1000) | none => -1, h) := by
  intro may hy K hK h F m t e
  unfold f_X12_wordOf
  rw [gI_n t, e]
  have c1 : ∀ j, j < 42 → (nI K = nI j ↔ K = j) := fun j hj => ⟨fun y => nI_inj (by omega) (by omega) y, fun y => by rw [y]⟩
  have gen : ∀ K, K < 42 → ∀ may, may < 2 → (if nI K = 1 then some ((1 : Int32), h) else (if nI K = 2 then some (2, h) else (if nI K = 3 then some ((-1), h) else (if nI K = 4 then some ((-1), h) else (if nI K = 5 then some ((-1), h) else (if nI K = 6 then some ((-1), h) else (if nI K = 7 then (if nI may = 0 then some (5, h) else some ((-1), h)) else (if nI K = 8 then some ((-1), h) else (if nI K = 9 then some ((-1), h) else (if nI K = 10 then some ((-1), h) else (if nI K = 11 then some ((-1), h) else (if nI K = 12 then some ((-1), h) else (if nI K = 13 then some ((-1), h) else (if nI K = 14 then some ((-1), h) else (if nI K = 15 then some (0, h) else (if nI K = 16 then some (3, h) else (if nI K = 17 then some (4, h) else some ((-1), h)))))))))))))))))) = some (match wcd may K with | some r => nI (r - 1000) | none => -1, h) := by
    intro K hK may hy
    rcases (show may = 0 ∨ may = 1 by omega) with rfl | rfl <;> (iterate 42 (cases K with | zero => rfl | succ K => ?_)) <;> omega
  exact gen K hK may hy
