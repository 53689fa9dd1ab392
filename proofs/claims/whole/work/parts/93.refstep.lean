/-! L3, the reference: one code on its pile -/
theorem nI_am1 (a : Nat) : nI (a + 1) + (-1) = nI a := by
  rw [← nI_1 a, Int32.add_assoc]
  show nI a + (1 + -1) = nI a
  rw [show (1 : Int32) + -1 = 0 by decide, Int32.add_zero]
theorem nI_am2 (a : Nat) : nI (a + 2) + (-2) = nI a := by
  rw [show (-2 : Int32) = -1 + -1 by decide, ← Int32.add_assoc, show a + 2 = (a + 1) + 1 from rfl, nI_am1, nI_am1]
theorem nI_as1 (a : Nat) : nI (a + 1) - 1 = nI a := by
  rw [Int32.sub_eq_add_neg]; exact nI_am1 a
theorem zI_n {r : Nat} (h : r < 1000) : zI (r : Int) = nI r := i32_eq (by rw [zI_t ⟨by omega, by omega⟩, nI_toInt (by omega)])
theorem bitI_c {v : Int} (h : bitI v = true) : v = 0 ∨ v = 1 := by
  unfold bitI at h
  rw [Bool.or_eq_true, decide_eq_true_iff, decide_eq_true_iff] at h
  exact h
theorem rk_s (F k : Nat) {h : Hp} {m law i r fr len : Nat} {p q : List Int} {W : Nat → Int} (S : SR h m) (hl : law < 2) (c1 : hp_I h (m + 1) (7 + law) = nI len) (c2 : hp_I h (m + 1) (5 + law) = nI fr) (hi : i < len) (hb : fr + len ≤ 900) (c3 : hp_I h (m + 1) (144 + fr + i) = nI r) (hr : r < 1006 ∨ (3000 ≤ r ∧ r < 3010)) (hw : ∀ j, j < 6 → hp_I h (m + 6) j = zI (W j)) (pl : PL h (m + 5) p) (bp : ∀ v ∈ p, BD v) (hp : p.length ≤ 100) (e : sv W r p = some q) : ∃ h', f_X12_reckons_4 F (k + 1) m (nI law) (nI p.length) (nI i) h = f_X12_reckons_4 F k m (nI law) (nI q.length) (nI (i + 1)) h' ∧ FQ (m + 5) h h' ∧ PL h' (m + 5) q := by
  have r31 : r < 2 ^ 31 := by omega
  show ∃ h', f_X12_reckons_4_b F (f_X12_reckons_4 F k) m (nI law) (nI p.length) (nI i) h = _ ∧ _
  unfold f_X12_reckons_4_b f_X12_reckons_158 f_X12_reckons_75 f_X12_reckons_192
  rw [S.g 1 1 (by decide) rfl, S.a 1 (7 + law) (i := 7 + nI law) (nI_add 7 law) (by decide) (show 7 + law < 3132 by omega), c1, if_neg (nI_ge hi (by omega)), S.g 1 1 (by decide) rfl, S.g 1 1 (by decide) rfl, S.a 1 (5 + law) (i := 5 + nI law) (nI_add 5 law) (by decide) (show 5 + law < 3132 by omega), c2, S.a 1 (144 + fr + i) (i := 144 + nI fr + nI i) (by rw [show (144 : Int32) + nI fr = nI (144 + fr) from nI_add 144 fr, nI_add]) (by decide) (show 144 + fr + i < 3132 by omega), c3, nI_1]
  unfold sv at e
  by_cases z : r < 3000
  · rw [if_pos z] at e
    rw [if_neg (show ¬ (3000 : Int32) ≤ nI r from nI_ge (b := 3000) z (by decide)), S.g 5 16 (by decide) rfl]
    by_cases y : p.length < 100
    · rw [if_pos y] at e
      injection e with e
      have put : ∀ v : Int, v = (if r < 1000 then (r : Int) else W (r - 1000)) → ∃ h', (wI h (m + 5) (nI p.length) (zI v) fun h38 => f_X12_reckons_4 F k m (nI law) (nI p.length + 1) (nI (i + 1)) h38) = f_X12_reckons_4 F k m (nI law) (nI q.length) (nI (i + 1)) h' ∧ FQ (m + 5) h h' ∧ PL h' (m + 5) q := fun v hv => by
        rw [S.w 5 p.length rfl (by decide) (show p.length < 900 by omega), nI_1, ← e, ← hv]
        exact ⟨_, rfl, FQ.sI, pl.put⟩
      by_cases u : r < 1000
      · rw [if_neg (show ¬ (1000 : Int32) ≤ nI r from nI_ge (b := 1000) u (by decide)), ← zI_n u]
        exact put _ (by rw [if_pos u])
      · have s1 : nI r - 1000 = nI (r - 1000) := pk_sub (b := 1000) (by omega)
        rw [if_pos (show (1000 : Int32) ≤ nI r from nI_le (a := 1000) (by omega) (by omega)), S.g 6 17 (by decide) rfl, S.a 6 (r - 1000) s1 (by decide) (show r - 1000 < 6 by omega), hw (r - 1000) (by omega)]
        exact put _ (by rw [if_neg u])
    · rw [if_neg y] at e; injection e
  · rw [if_neg z] at e
    rw [if_pos (show (3000 : Int32) ≤ nI r from nI_le (a := 3000) (by omega) (by omega))]
    by_cases y : r = 3006
    · rw [if_pos y] at e
      rw [if_pos (show nI r = 3006 by rw [y]; rfl), S.g 5 16 (by decide) rfl, S.g 5 16 (by decide) rfl]
      match p with
      | [] => injection e
      | a :: t =>
        have e : (if bitI a = true then some ((1 - a) :: t) else none) = some q := e
        by_cases u : bitI a = true
        · rw [if_pos u] at e
          injection e with e
          have hp : t.length + 1 ≤ 100 := hp
          have ev1 : (1 : Int32) - zI a = zI (1 - a) := by rcases bitI_c u with rfl | rfl <;> rfl
          show ∃ h', (aI 20 h (m + 5) (nI (t.length + 1) - 1) fun v14 => wI h (m + 5) (nI (t.length + 1) - 1) (1 - v14) fun h15 => f_X12_reckons_4 F k m (nI law) (nI (t.length + 1)) (nI (i + 1)) h15) = _ ∧ _
          rw [nI_as1, S.a 5 t.length rfl (by decide) (show t.length < 900 by omega), pl.1, ev1, S.w 5 t.length rfl (by decide) (show t.length < 900 by omega), ← e]
          exact ⟨_, rfl, FQ.sI, pl.2.put⟩
        · rw [if_neg u] at e; injection e
    · rw [if_neg y] at e
      rw [if_neg (show ¬ nI r = 3006 from fun u => y (nI_inj (b := 3006) r31 (by decide) u))]
      by_cases y9 : r = 3009
      · rw [if_pos y9] at e
        rw [if_pos (show nI r = 3009 by rw [y9]; rfl), S.g 5 16 (by decide) rfl, S.g 5 16 (by decide) rfl]
        match p with
        | [] => injection e
        | [_] => injection e
        | [_, _] => injection e
        | b :: a :: t :: s =>
          have e : (if bitI t = true then some ((if t = 1 then a else b) :: s) else none) = some q := e
          by_cases u : bitI t = true
          · rw [if_pos u] at e
            injection e with e
            have hp : s.length + 3 ≤ 100 := hp
            have pb : hp_I h (m + 5) (s.length + 2) = zI b := pl.1
            have pa : hp_I h (m + 5) (s.length + 1) = zI a := pl.2.1
            have pt : hp_I h (m + 5) s.length = zI t := pl.2.2.1
            show ∃ h', (aI 20 h (m + 5) ((nI (s.length + 1 + 2) + (-2)) - 1) fun v19 => if v19 = 1 then (gR 13 h m 16 fun v21 => aI 20 h v21 (nI (s.length + 1 + 2) + (-2)) fun v22 => wI h (m + 5) ((nI (s.length + 1 + 2) + (-2)) - 1) v22 fun h23 => f_X12_reckons_4 F k m (nI law) (nI (s.length + 1 + 2) + (-2)) (nI (i + 1)) h23) else (gR 13 h m 16 fun v24 => aI 20 h v24 ((nI (s.length + 1 + 2) + (-2)) + 1) fun v25 => wI h (m + 5) ((nI (s.length + 1 + 2) + (-2)) - 1) v25 fun h23 => f_X12_reckons_4 F k m (nI law) (nI (s.length + 1 + 2) + (-2)) (nI (i + 1)) h23)) = _ ∧ _
            rw [nI_am2, nI_as1, S.a 5 s.length rfl (by decide) (show s.length < 900 by omega), pt, S.g 5 16 (by decide) rfl, S.g 5 16 (by decide) rfl, S.a 5 (s.length + 1) rfl (by decide) (show s.length + 1 < 900 by omega), pa, nI_1, S.a 5 (s.length + 1 + 1) rfl (by decide) (show s.length + 1 + 1 < 900 by omega), pb, S.w 5 s.length rfl (by decide) (show s.length < 900 by omega), S.w 5 s.length rfl (by decide) (show s.length < 900 by omega), ← e]
            rcases bitI_c u with rfl | rfl
            · rw [if_neg (show ¬ zI 0 = 1 by decide), if_neg (by decide)]
              exact ⟨_, rfl, FQ.sI, pl.2.2.2.put⟩
            · rw [if_pos (show zI 1 = 1 by decide), if_pos rfl]
              exact ⟨_, rfl, FQ.sI, pl.2.2.2.put⟩
          · rw [if_neg u] at e; injection e
      · rw [if_neg y9] at e
        rw [if_neg (show ¬ nI r = 3009 from fun u => y9 (nI_inj (b := 3009) r31 (by decide) u)), S.g 5 16 (by decide) rfl, S.g 5 16 (by decide) rfl]
        match p with
        | [] => injection e
        | [_] => injection e
        | b :: a :: s =>
          have e : (if (r = 3007 ∨ r = 3008) ∧ ¬ (bitI a = true ∧ bitI b = true) then none else some (bet r a b :: s)) = some q := e
          by_cases u : (r = 3007 ∨ r = 3008) ∧ ¬ (bitI a = true ∧ bitI b = true)
          · rw [if_pos u] at e; injection e
          · rw [if_neg u] at e
            injection e with e
            have hp : s.length + 2 ≤ 100 := hp
            have pb : hp_I h (m + 5) (s.length + 1) = zI b := pl.1
            have pa : hp_I h (m + 5) s.length = zI a := pl.2.1
            have bw := rc_between F (show 3000 ≤ r ∧ r < 3009 ∧ r ≠ 3006 by omega) (bp a (List.mem_cons_of_mem _ List.mem_cons_self)) (bp b List.mem_cons_self) (fun v => by
              by_cases w : bitI a = true ∧ bitI b = true
              · exact ⟨bitI_c w.1, bitI_c w.2⟩
              · exact absurd ⟨v, w⟩ u) h
            show ∃ h', (aI 20 h (m + 5) ((nI (s.length + 1 + 1) + (-1)) - 1) fun v28 => gR 13 h m 16 fun v29 => aI 20 h v29 (nI (s.length + 1 + 1) + (-1)) fun v30 => bd (f_X12_between F (nI r) v28 v30 h) fun v31 h32 => wI h32 (m + 5) ((nI (s.length + 1 + 1) + (-1)) - 1) v31 fun h33 => f_X12_reckons_4 F k m (nI law) (nI (s.length + 1 + 1) + (-1)) (nI (i + 1)) h33) = _ ∧ _
            rw [nI_am1, nI_as1, S.a 5 s.length rfl (by decide) (show s.length < 900 by omega), pa, S.g 5 16 (by decide) rfl, S.a 5 (s.length + 1) rfl (by decide) (show s.length + 1 < 900 by omega), pb, bd_n bw, S.w 5 s.length rfl (by decide) (show s.length < 900 by omega), ← e]
            exact ⟨_, rfl, FQ.sI, pl.2.2.put⟩
