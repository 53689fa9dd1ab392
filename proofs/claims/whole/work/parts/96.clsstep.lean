/-! L3, the class: one code on its pile -/
theorem CPl.tg {h : Hp} {x : Nat} {p : List Int} (c : CPl h x p) : hp_t h (x + 11) = 4 := c.1.t 11 4 (by decide)
theorem ccd_v : ∀ o, o < 10 → ccd (3000 + o) = [6, 7, 8, 9, 10, 11, 14, 12, 13, 15].getD o 0 ∧ 6 ≤ ccd (3000 + o) ∧ ccd (3000 + o) < 16 ∧ (ccd (3000 + o) = 14 ↔ o = 6) ∧ (ccd (3000 + o) = 15 ↔ o = 9) := by decide +kernel
theorem cc_step (F : Nat) {h : Hp} {x r : Nat} {p q : List Int} {W : Nat → Int} (c : CPl h x p) (hr : r < 1006 ∨ (3000 ≤ r ∧ r < 3010)) (hw : ∀ j, j < 6 → hp_I h (x + 13) j = zI (W j)) (bp : BDs p) (e : sv W r p = some q) : ∃ h', f_X3_step F (x + 11) (nI (ccd r)) h = some ((), h') ∧ FG x h h' ∧ CPl h' x q := by
  unfold f_X3_step
  by_cases z : r < 3000
  · unfold sv at e
    rw [if_pos z] at e
    by_cases y : p.length < 100
    · rw [if_pos y] at e
      injection e with e
      by_cases u : r < 1000
      · have ec : ccd r = 100 + r := if_pos u
        obtain ⟨h', e1, f1, c1⟩ := cc_push F c y (r : Int)
        rw [ec, if_neg (show ¬ nI (100 + r) < 100 from fun w => absurd ((nI_ltI (b := 100) (by omega) (by decide)).mp w) (by omega)), show nI (100 + r) - 100 = nI (100 + r - 100) from pk_sub (b := 100) (by omega), show 100 + r - 100 = r by omega, ← zI_n u, cV_n c.tg e1, ← e, if_pos u]
        exact ⟨h', rfl, f1, c1⟩
      · have ec : ccd r = r - 1000 := by unfold ccd; rw [if_neg u, if_pos z]
        obtain ⟨h', e1, f1, c1⟩ := cc_push F c y (W (r - 1000))
        rw [ec, if_pos (show nI (r - 1000) < 100 from nI_lt (b := 100) (by omega) (by decide)), if_neg (nI_pos (by omega)), c.1.g 4 11 6 13 (by decide), al_n (c.1.t 13 20 (by decide)) (c.1.l 13 6 (by decide)), if_neg (nI_ge (show r - 1000 < 6 by omega) (by decide)), c.1.g 4 11 6 13 (by decide), aI_n (c.1.t 13 20 (by decide)) (c.1.l 13 6 (by decide)) rfl (show r - 1000 < 6 by omega) (by decide), hw _ (by omega), cV_n c.tg e1, ← e, if_neg u]
        exact ⟨h', rfl, f1, c1⟩
    · rw [if_neg y] at e; injection e
  · obtain ⟨o, ho, rfl⟩ : ∃ o, o < 10 ∧ r = 3000 + o := ⟨r - 3000, by omega, by omega⟩
    obtain ⟨-, v2, v3, v4, v5⟩ := ccd_v o ho
    rw [if_pos (show nI (ccd (3000 + o)) < 100 from nI_lt (b := 100) (by omega) (by decide)), if_neg (nI_pos (by omega)), c.1.g 4 11 6 13 (by decide), al_n (c.1.t 13 20 (by decide)) (c.1.l 13 6 (by decide)), if_pos (nI_le v2 (by omega))]
    unfold f_X3_step_43 f_X3_step_62 f_X3_step_97
    unfold sv at e
    rw [if_neg z] at e
    by_cases y : o = 6
    · subst y
      rw [if_pos rfl] at e
      rw [if_pos (show nI (ccd (3000 + 6)) = 14 from rfl)]
      match p with
      | [] => injection e
      | a :: t =>
        have e : (if bitI a = true then some ((1 - a) :: t) else none) = some q := e
        by_cases u : bitI a = true
        · rw [if_pos u] at e
          injection e with e
          obtain ⟨h1, e1, f1, c1⟩ := cc_pop F c
          have hp : t.length + 1 ≤ 100 := c.2.1.2
          obtain ⟨h2, e2, f2, c2⟩ := cc_push F c1 (show t.length < 100 by omega) (1 - a)
          rw [cV_n c.tg e1, ← e]
          rcases bitI_c u with rfl | rfl
          · rw [if_pos (show zI 0 = 0 from rfl), cV_n c1.tg (show f_X3_push F (x + 11) 1 h1 = _ from e2)]
            exact ⟨h2, rfl, f1.tr f2, c2⟩
          · rw [if_neg (show ¬ zI 1 = 0 by decide), cV_n c1.tg (show f_X3_push F (x + 11) 0 h1 = _ from e2)]
            exact ⟨h2, rfl, f1.tr f2, c2⟩
        · rw [if_neg u] at e; injection e
    · rw [if_neg (by omega)] at e
      rw [if_neg (show ¬ nI (ccd (3000 + o)) = 14 from fun w => y (v4.mp (nI_inj (b := 14) (by omega) (by decide) w)))]
      by_cases y9 : o = 9
      · subst y9
        rw [if_pos rfl] at e
        rw [if_pos (show nI (ccd (3000 + 9)) = 15 from rfl)]
        match p with
        | [] => injection e
        | [_] => injection e
        | [_, _] => injection e
        | b :: a :: t :: s =>
          have e : (if bitI t = true then some ((if t = 1 then a else b) :: s) else none) = some q := e
          by_cases u : bitI t = true
          · rw [if_pos u] at e
            injection e with e
            obtain ⟨h1, e1, f1, c1⟩ := cc_pop F c
            obtain ⟨h2, e2, f2, c2⟩ := cc_pop F c1
            obtain ⟨h3, e3, f3, c3⟩ := cc_pop F c2
            have hp : s.length + 3 ≤ 100 := c.2.1.2
            obtain ⟨h4, e4, f4, c4⟩ := cc_push F c3 (show s.length < 100 by omega) (if t = 1 then a else b)
            rw [cV_n c.tg e1, cV_n c1.tg e2, cV_n c2.tg e3, ← e]
            rcases bitI_c u with rfl | rfl
            · rw [if_pos (show zI 0 = 0 from rfl), cV_n c3.tg (show f_X3_push F (x + 11) (zI b) h3 = _ from e4)]
              exact ⟨h4, rfl, ((f1.tr f2).tr f3).tr f4, c4⟩
            · rw [if_neg (show ¬ zI 1 = 0 by decide), cV_n c3.tg (show f_X3_push F (x + 11) (zI a) h3 = _ from e4)]
              exact ⟨h4, rfl, ((f1.tr f2).tr f3).tr f4, c4⟩
          · rw [if_neg u] at e; injection e
      · rw [if_neg (by omega)] at e
        rw [if_neg (show ¬ nI (ccd (3000 + o)) = 15 from fun w => y9 (v5.mp (nI_inj (b := 15) (by omega) (by decide) w)))]
        match p with
        | [] => injection e
        | [_] => injection e
        | b :: a :: s =>
          have e : (if (3000 + o = 3007 ∨ 3000 + o = 3008) ∧ ¬ (bitI a = true ∧ bitI b = true) then none else some (bet (3000 + o) a b :: s)) = some q := e
          by_cases u : (3000 + o = 3007 ∨ 3000 + o = 3008) ∧ ¬ (bitI a = true ∧ bitI b = true)
          · rw [if_pos u] at e; injection e
          · rw [if_neg u] at e
            injection e with e
            obtain ⟨h1, e1, f1, c1⟩ := cc_pop F c
            obtain ⟨h2, e2, f2, c2⟩ := cc_pop F c1
            have hp : s.length + 2 ≤ 100 := c.2.1.2
            obtain ⟨w, e3, e4⟩ := cc_joined F (show 3000 ≤ 3000 + o ∧ 3000 + o < 3009 ∧ 3000 + o ≠ 3006 by omega) bp.t.2.t.1 bp.t.1 (fun v => by
              by_cases w : bitI a = true ∧ bitI b = true
              · exact ⟨bitI_c w.1, bitI_c w.2⟩
              · exact absurd ⟨v, w⟩ u) h2
            obtain ⟨h3, e5, f3, c3⟩ := cc_push F c2 (show s.length < 100 by omega) (bet (3000 + o) a b)
            rw [cV_n c.tg e1, cV_n c1.tg e2, bd_n e3, bd_n (cc_kept F w h2), e4, cV_n c2.tg e5, ← e]
            exact ⟨h3, rfl, (f1.tr f2).tr f3, c3⟩
