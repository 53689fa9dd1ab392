/-! L3: what can be undone, in the reference -/
theorem rc_keeps_r (F : Nat) {m : Nat} : ∀ r k n (h : Hp), SR h m → k + r = 9 → r < n → ∃ h', f_X12_keeps_2 F n m (nI k) h = some ((), h') ∧ CI m [7] h h' ∧ ∀ j, hp_I h' (m + 7) j = if k ≤ j ∧ j < 9 then hp_I h (m + 1) (43 + j) else hp_I h (m + 7) j := by
  intro r
  induction r with
  | zero =>
    intro k n h hS hk hn
    obtain ⟨n, rfl⟩ : ∃ j, n = j + 1 := ⟨n - 1, by omega⟩
    show ∃ h', f_X12_keeps_2_b F (f_X12_keeps_2 F n) m (nI k) h = _ ∧ _
    unfold f_X12_keeps_2_b
    rw [if_pos (show (9 : Int32) ≤ nI k by rw [show k = 9 by omega]; decide)]
    exact ⟨h, rfl, CI.rf _ _ _, fun j => by rw [if_neg (by omega)]⟩
  | succ r ih =>
    intro k n h hS hk hn
    obtain ⟨n, rfl⟩ : ∃ j, n = j + 1 := ⟨n - 1, by omega⟩
    show ∃ h', f_X12_keeps_2_b F (f_X12_keeps_2 F n) m (nI k) h = _ ∧ _
    unfold f_X12_keeps_2_b
    rw [if_neg (show ¬ (9 : Int32) ≤ nI k from i_ge (a := 9) (by omega) (by decide)), hS.g 7 18 (by decide) rfl, hS.g 1 1 (by decide) rfl, hS.a 1 (43 + k) (show 43 + nI k = nI (43 + k) from nI_add 43 k) (by decide) (show 43 + k < 3132 by omega), hS.w 7 k rfl (by decide) (show k < 9 by omega), nI_1]
    obtain ⟨h', e, c, w⟩ := ih (k + 1) n (hp_sI h (m + 7) k (hp_I h (m + 1) (43 + k))) (hS.sI _ _ _) (by omega) (by omega)
    refine ⟨h', e, (CI.sI (by decide)).tr c, fun j => ?_⟩
    rw [w j, hp_I_sI, hp_I_sI]
    by_cases q : j = k
    · subst q; rw [if_neg (by omega), if_pos ⟨rfl, rfl⟩, if_pos (by omega)]
    · rw [if_neg (show ¬ (m + 1 = m + 7 ∧ 43 + j = k) by omega), if_neg (show ¬ (m + 7 = m + 7 ∧ j = k) by omega)]
      by_cases q2 : k + 1 ≤ j ∧ j < 9
      · rw [if_pos q2, if_pos (by omega)]
      · rw [if_neg q2, if_neg (by omega)]
theorem rc_keeps (F : Nat) (hF : 100 ≤ F) {m : Nat} {h : Hp} (hS : SR h m) : ∃ h', f_X12_keeps F m h = some ((), h') ∧ CI m [7] h h' ∧ ∀ j, j < 9 → hp_I h' (m + 7) j = hp_I h (m + 1) (43 + j) := by
  obtain ⟨h', e, c, w⟩ := rc_keeps_r F 9 0 F h hS (by omega) (by omega)
  exact ⟨h', e, c, fun j hj => by rw [w j, if_pos (by omega)]⟩
theorem rc_isAgain_r (F : Nat) {m : Nat} : ∀ r k n (h : Hp), SR h m → k + r = 9 → r < n → ∃ h', f_X12_isAgain_2 F n m (nI k) h = some ((), h') ∧ CI m [1] h h' ∧ ∀ j, hp_I h' (m + 1) j = if 43 + k ≤ j ∧ j < 52 then hp_I h (m + 7) (j - 43) else hp_I h (m + 1) j := by
  intro r
  induction r with
  | zero =>
    intro k n h hS hk hn
    obtain ⟨n, rfl⟩ : ∃ j, n = j + 1 := ⟨n - 1, by omega⟩
    show ∃ h', f_X12_isAgain_2_b F (f_X12_isAgain_2 F n) m (nI k) h = _ ∧ _
    unfold f_X12_isAgain_2_b
    rw [if_pos (show (9 : Int32) ≤ nI k by rw [show k = 9 by omega]; decide)]
    exact ⟨h, rfl, CI.rf _ _ _, fun j => by rw [if_neg (by omega)]⟩
  | succ r ih =>
    intro k n h hS hk hn
    obtain ⟨n, rfl⟩ : ∃ j, n = j + 1 := ⟨n - 1, by omega⟩
    show ∃ h', f_X12_isAgain_2_b F (f_X12_isAgain_2 F n) m (nI k) h = _ ∧ _
    unfold f_X12_isAgain_2_b
    rw [if_neg (show ¬ (9 : Int32) ≤ nI k from i_ge (a := 9) (by omega) (by decide)), hS.g 1 1 (by decide) rfl, hS.g 7 18 (by decide) rfl, hS.a 7 k rfl (by decide) (show k < 9 by omega), hS.w 1 (43 + k) (show 43 + nI k = nI (43 + k) from nI_add 43 k) (by decide) (show 43 + k < 3132 by omega), nI_1]
    obtain ⟨h', e, c, w⟩ := ih (k + 1) n (hp_sI h (m + 1) (43 + k) (hp_I h (m + 7) k)) (hS.sI _ _ _) (by omega) (by omega)
    refine ⟨h', e, (CI.sI (by decide)).tr c, fun j => ?_⟩
    rw [w j, hp_I_sI, hp_I_sI, if_neg (show ¬ (m + 7 = m + 1 ∧ j - 43 = 43 + k) by omega)]
    by_cases q : j = 43 + k
    · subst q; rw [if_neg (by omega), if_pos ⟨rfl, rfl⟩, if_pos (by omega), Nat.add_sub_cancel_left]
    · rw [if_neg (show ¬ (m + 1 = m + 1 ∧ j = 43 + k) by omega)]
      by_cases q2 : 43 + (k + 1) ≤ j ∧ j < 52
      · rw [if_pos q2, if_pos (by omega)]
      · rw [if_neg q2, if_neg (by omega)]
theorem rc_isAgain (F : Nat) (hF : 100 ≤ F) {m : Nat} {h : Hp} (hS : SR h m) : ∃ h', f_X12_isAgain F m h = some ((), h') ∧ CI m [1] h h' ∧ ∀ j, hp_I h' (m + 1) j = if 43 ≤ j ∧ j < 52 then hp_I h (m + 7) (j - 43) else hp_I h (m + 1) j := rc_isAgain_r F 9 0 F h hS (by omega) (by omega)
theorem i9 (n k : Nat) : 53 + 9 * nI n + nI k = nI (53 + 9 * n + k) := by rw [show 9 * nI n = nI (9 * n) from pk_mul 9 n, show 53 + nI (9 * n) = nI (53 + 9 * n) from nI_add 53 (9 * n), nI_add]
theorem rc_notes57_r (F : Nat) {m p : Nat} (hp : p < 10) : ∀ r k n (h : Hp), SR h m → hp_I h (m + 1) 52 = nI p → k + r = 9 → r < n → ∃ h', f_X12_notes_57 F n m (nI k) h = some ((), h') ∧ CI m [1] h h' ∧ ∀ j, hp_I h' (m + 1) j = if j = 52 then nI (p + 1) else if 53 + 9 * p + k ≤ j ∧ j < 62 + 9 * p then hp_I h (m + 7) (j - (53 + 9 * p)) else hp_I h (m + 1) j := by
  intro r
  induction r with
  | zero =>
    intro k n h hS h52 hk hn
    obtain ⟨n, rfl⟩ : ∃ j, n = j + 1 := ⟨n - 1, by omega⟩
    show ∃ h', f_X12_notes_57_b F (f_X12_notes_57 F n) m (nI k) h = _ ∧ _
    unfold f_X12_notes_57_b
    rw [if_pos (show (9 : Int32) ≤ nI k by rw [show k = 9 by omega]; decide), hS.g 1 1 (by decide) rfl, hS.a 1 52 (show (52 : Int32) = nI 52 from rfl) (by decide) (by decide), h52, hS.w 1 52 (show (52 : Int32) = nI 52 from rfl) (by decide) (by decide), nI_1]
    refine ⟨_, rfl, CI.sI (by decide), fun j => ?_⟩
    rw [hp_I_sI]
    by_cases q : j = 52
    · rw [if_pos ⟨rfl, q⟩, if_pos q]
    · rw [if_neg (fun z => q z.2), if_neg q, if_neg (by omega)]
  | succ r ih =>
    intro k n h hS h52 hk hn
    obtain ⟨n, rfl⟩ : ∃ j, n = j + 1 := ⟨n - 1, by omega⟩
    show ∃ h', f_X12_notes_57_b F (f_X12_notes_57 F n) m (nI k) h = _ ∧ _
    unfold f_X12_notes_57_b
    rw [if_neg (show ¬ (9 : Int32) ≤ nI k from i_ge (a := 9) (by omega) (by decide)), hS.g 1 1 (by decide) rfl, hS.g 1 1 (by decide) rfl, hS.a 1 52 (show (52 : Int32) = nI 52 from rfl) (by decide) (by decide), h52, hS.g 7 18 (by decide) rfl, hS.a 7 k rfl (by decide) (show k < 9 by omega), hS.w 1 (53 + 9 * p + k) (i9 p k) (by decide) (show 53 + 9 * p + k < 3132 by omega), nI_1]
    obtain ⟨h', e, c, w⟩ := ih (k + 1) n (hp_sI h (m + 1) (53 + 9 * p + k) (hp_I h (m + 7) k)) (hS.sI _ _ _) (by rw [hp_I_sI, if_neg (by omega)]; exact h52) (by omega) (by omega)
    refine ⟨h', e, (CI.sI (by decide)).tr c, fun j => ?_⟩
    rw [w j, hp_I_sI, hp_I_sI, if_neg (show ¬ (m + 7 = m + 1 ∧ j - (53 + 9 * p) = 53 + 9 * p + k) by omega)]
    by_cases q0 : j = 52
    · rw [if_pos q0, if_pos q0]
    · rw [if_neg q0, if_neg q0]
      by_cases q : j = 53 + 9 * p + k
      · subst q; rw [if_neg (by omega), if_pos ⟨rfl, rfl⟩, if_pos (by omega), Nat.add_sub_cancel_left]
      · rw [if_neg (show ¬ (m + 1 = m + 1 ∧ j = 53 + 9 * p + k) by omega)]
        by_cases q2 : 53 + 9 * p + (k + 1) ≤ j ∧ j < 62 + 9 * p
        · rw [if_pos q2, if_pos (by omega)]
        · rw [if_neg q2, if_neg (by omega)]
/-- the place that a deed is noted at: all are full at ten -/
def npl (p : Nat) : Nat := if p = 10 then 9 else p
theorem rc_notes14_r (F : Nat) (hF : 100 ≤ F) {m : Nat} : ∀ r k n (h : Hp), SR h m → hp_I h (m + 1) 52 = nI 10 → k + r = 81 → r < n → ∃ h', f_X12_notes_14 F n m (nI k) h = some ((), h') ∧ CI m [1] h h' ∧ ∀ j, hp_I h' (m + 1) j = if j = 52 then nI 10 else if 134 ≤ j ∧ j < 143 then hp_I h (m + 7) (j - 134) else if 53 + k ≤ j ∧ j < 134 then hp_I h (m + 1) (j + 9) else hp_I h (m + 1) j := by
  intro r
  induction r with
  | zero =>
    intro k n h hS h52 hk hn
    obtain ⟨n, rfl⟩ : ∃ j, n = j + 1 := ⟨n - 1, by omega⟩
    show ∃ h', f_X12_notes_14_b F (f_X12_notes_14 F n) m (nI k) h = _ ∧ _
    unfold f_X12_notes_14_b f_X12_notes_55
    rw [if_pos (show (81 : Int32) ≤ nI k by rw [show k = 81 by omega]; decide), hS.g 1 1 (by decide) rfl, hS.a 1 52 (show (52 : Int32) = nI 52 from rfl) (by decide) (by decide), h52, hS.w 1 52 (show (52 : Int32) = nI 52 from rfl) (by decide) (by decide)]
    obtain ⟨h', e, c, w⟩ := rc_notes57_r F (p := 9) (by decide) 9 0 F (hp_sI h (m + 1) 52 (nI 10 - 1)) (hS.sI _ _ _) (by rw [hp_I_sI, if_pos ⟨rfl, rfl⟩]; decide) (by omega) (by omega)
    refine ⟨h', e, (CI.sI (by decide)).tr c, fun j => ?_⟩
    rw [w j, hp_I_sI, hp_I_sI, if_neg (show ¬ (m + 7 = m + 1 ∧ _) by omega)]
    by_cases q0 : j = 52
    · rw [if_pos q0, if_pos q0]
    · rw [if_neg q0, if_neg q0, if_neg (show ¬ (m + 1 = m + 1 ∧ j = 52) by omega)]
      by_cases q : 134 ≤ j ∧ j < 143
      · rw [if_pos (by omega), if_pos q]
      · rw [if_neg (by omega), if_neg q, if_neg (by omega)]
  | succ r ih =>
    intro k n h hS h52 hk hn
    obtain ⟨n, rfl⟩ : ∃ j, n = j + 1 := ⟨n - 1, by omega⟩
    show ∃ h', f_X12_notes_14_b F (f_X12_notes_14 F n) m (nI k) h = _ ∧ _
    unfold f_X12_notes_14_b
    rw [if_neg (show ¬ (81 : Int32) ≤ nI k from i_ge (a := 81) (by omega) (by decide)), hS.g 1 1 (by decide) rfl, hS.g 1 1 (by decide) rfl, hS.a 1 (62 + k) (show 62 + nI k = nI (62 + k) from nI_add 62 k) (by decide) (show 62 + k < 3132 by omega), hS.w 1 (53 + k) (show 53 + nI k = nI (53 + k) from nI_add 53 k) (by decide) (show 53 + k < 3132 by omega), nI_1]
    obtain ⟨h', e, c, w⟩ := ih (k + 1) n (hp_sI h (m + 1) (53 + k) (hp_I h (m + 1) (62 + k))) (hS.sI _ _ _) (by rw [hp_I_sI, if_neg (by omega)]; exact h52) (by omega) (by omega)
    refine ⟨h', e, (CI.sI (by decide)).tr c, fun j => ?_⟩
    rw [w j, hp_I_sI, hp_I_sI, hp_I_sI, if_neg (show ¬ (m + 7 = m + 1 ∧ _) by omega)]
    by_cases q0 : j = 52
    · rw [if_pos q0, if_pos q0]
    · rw [if_neg q0, if_neg q0]
      by_cases q : 134 ≤ j ∧ j < 143
      · rw [if_pos q, if_pos q]
      · rw [if_neg q, if_neg q]
        by_cases q1 : j = 53 + k
        · subst q1; rw [if_neg (by omega), if_pos ⟨rfl, rfl⟩, if_pos (by omega)]; congr 1; omega
        · by_cases q2 : 53 + (k + 1) ≤ j ∧ j < 134
          · rw [if_pos q2, if_neg (show ¬ (m + 1 = m + 1 ∧ j + 9 = 53 + k) by omega), if_pos (by omega)]
          · rw [if_neg q2, if_neg (show ¬ (m + 1 = m + 1 ∧ j = 53 + k) by omega), if_neg (by omega)]
/-- what the reference can undo: n stands and bonds -/
def PA (A : Nat → Int32) (n : Nat) (ps : Nat → Nat × Nat) : Prop := A 52 = nI n ∧ n ≤ 10 ∧ ∀ i, i < n → (∀ k, k < 8 → A (53 + 9 * i + k) = nI (dg (ps i).1 k)) ∧ A (61 + 9 * i) = nI (ps i).2
/-- one more -/
def pus (n : Nat) (ps : Nat → Nat × Nat) (v : Nat × Nat) : Nat → Nat × Nat := fun i => if n = 10 then (if i = 9 then v else ps (i + 1)) else (if i = n then v else ps i)
def pun (n : Nat) : Nat := if n = 10 then 10 else n + 1
theorem rc_notes (F : Nat) (hF : 100 ≤ F) {m : Nat} {h : Hp} (hS : SR h m) {n : Nat} {ps : Nat → Nat × Nat} {s b : Nat} (hp : PA (hp_I h (m + 1)) n ps) (w1 : ∀ k, k < 8 → hp_I h (m + 7) k = nI (dg s k)) (w2 : hp_I h (m + 7) 8 = nI b) : ∃ h', f_X12_notes F m h = some ((), h') ∧ CI m [1] h h' ∧ PA (hp_I h' (m + 1)) (pun n) (pus n ps (s, b)) ∧ ∀ j, (j < 52 ∨ 143 ≤ j) → hp_I h' (m + 1) j = hp_I h (m + 1) j := by
  obtain ⟨p1, p2, p3⟩ := hp
  unfold f_X12_notes
  rw [hS.g 1 1 (by decide) rfl, hS.a 1 52 (show (52 : Int32) = nI 52 from rfl) (by decide) (by decide), p1]
  by_cases q : n = 10
  · rw [if_pos (show nI n = 10 by rw [q]; rfl)]
    subst q
    obtain ⟨h', e, c, w⟩ := rc_notes14_r F hF 81 0 F h hS p1 (by omega) (by omega)
    refine ⟨h', e, c, ⟨?_, by decide, fun i hi => ⟨fun k hk => ?_, ?_⟩⟩, fun j hj => ?_⟩
    · rw [w, if_pos rfl]; rfl
    · have hi : i < 10 := hi
      rw [w, if_neg (by omega)]
      unfold pus
      rw [if_pos rfl]
      by_cases q9 : i = 9
      · subst q9; rw [if_pos (by omega), if_pos rfl, show 53 + 9 * 9 + k - 134 = k by omega]; exact w1 k hk
      · rw [if_neg (by omega), if_neg q9, if_pos (by omega), show 53 + 9 * i + k + 9 = 53 + 9 * (i + 1) + k by omega]; exact (p3 (i + 1) (by omega)).1 k hk
    · have hi : i < 10 := hi
      rw [w, if_neg (by omega)]
      unfold pus
      rw [if_pos rfl]
      by_cases q9 : i = 9
      · subst q9; rw [if_pos (by omega), if_pos rfl]; exact w2
      · rw [if_neg (by omega), if_neg q9, if_pos (by omega), show 61 + 9 * i + 9 = 61 + 9 * (i + 1) by omega]; exact (p3 (i + 1) (by omega)).2
    · rw [w, if_neg (by omega), if_neg (by omega), if_neg (by omega)]
  · have hn : n < 10 := by omega
    rw [if_neg (show ¬ nI n = 10 from fun z => q ((nI_eq (a := n) (b := 10) (by omega) (by decide)).mp z))]
    unfold f_X12_notes_55
    obtain ⟨h', e, c, w⟩ := rc_notes57_r F hn 9 0 F h hS p1 (by omega) (by omega)
    refine ⟨h', e, c, ⟨?_, ?_, fun i hi => ⟨fun k hk => ?_, ?_⟩⟩, fun j hj => ?_⟩
    · rw [w, if_pos rfl, pun, if_neg q]
    · rw [pun, if_neg q]; omega
    · rw [pun, if_neg q] at hi
      rw [w, if_neg (by omega)]
      unfold pus
      rw [if_neg q]
      by_cases q9 : i = n
      · subst q9; rw [if_pos (by omega), if_pos rfl, Nat.add_zero, Nat.add_sub_cancel_left]; exact w1 k hk
      · rw [if_neg (by omega), if_neg q9]; exact (p3 i (by omega)).1 k hk
    · rw [pun, if_neg q] at hi
      rw [w, if_neg (by omega)]
      unfold pus
      rw [if_neg q]
      by_cases q9 : i = n
      · subst q9; rw [if_pos (by omega), if_pos rfl, show 61 + 9 * i - (53 + 9 * i) = 8 by omega]; exact w2
      · rw [if_neg (by omega), if_neg q9]; exact (p3 i (by omega)).2
    · rw [w, if_neg (by omega), if_neg (by omega)]
