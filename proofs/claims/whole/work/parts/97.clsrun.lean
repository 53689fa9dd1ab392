/-! L3, the class: a law runs -/
theorem cv_run (F : Nat) {x hi' : Nat} {W : Nat → Int} {v : Int} (wb : WB W) (hb : hi' ≤ 900) : ∀ (l : List Nat) (i k : Nat) (p : List Int) (h : Hp), i + l.length = hi' → l.length < k → CPl h x p → (∀ j, j < l.length → hp_I h (x + 12) (i + j) = nI (ccd (l.getD j 0))) → Val l → (∀ j, j < 6 → hp_I h (x + 13) j = zI (W j)) → BDs p → ev W l p = some [v] → ∃ h', f_X3_value_7 F k (x + 11) (nI hi') (nI i) h = some (zI v, h') ∧ FG x h h' ∧ CSH h' x := by
  intro l
  induction l with
  | nil =>
    intro i k p h hi hk c c3 vl hw bp e
    obtain ⟨k, rfl⟩ : ∃ j, k = j + 1 := ⟨k - 1, by omega⟩
    have hi : i + 0 = hi' := hi
    have e : some p = some [v] := e
    injection e with e
    rw [e] at c
    obtain ⟨h1, e1, f1, c1⟩ := cc_pop F c
    refine ⟨h1, ?_, f1, c1.1⟩
    show f_X3_value_7_b F (f_X3_value_7 F k) (x + 11) (nI hi') (nI i) h = _
    unfold f_X3_value_7_b f_X3_value_37
    rw [if_pos (nI_le (by omega) (by omega)), cV_n c.tg e1]
  | cons r l ih =>
    intro i k p h hi hk c c3 vl hw bp e
    obtain ⟨k, rfl⟩ : ∃ j, k = j + 1 := ⟨k - 1, by omega⟩
    have hi : i + (l.length + 1) = hi' := hi
    have hk : l.length + 1 < k + 1 := hk
    have e : (sv W r p).bind (ev W l) = some [v] := e
    cases z : sv W r p with
    | none => rw [z] at e; injection e
    | some q =>
      rw [z] at e
      have e : ev W l q = some [v] := e
      obtain ⟨bq, lq⟩ := sv_b wb bp c.2.1.2 z
      obtain ⟨h1, e1, f1, c1⟩ := cc_step F c (vl r List.mem_cons_self) hw bp z
      have i12 : hp_I h1 (x + 12) = hp_I h (x + 12) := f1.1.at (by decide)
      have i13 : hp_I h1 (x + 13) = hp_I h (x + 13) := f1.1.at (by decide)
      obtain ⟨h2, e2, f2, s2⟩ := ih (i + 1) k q h1 (by omega) (by omega) c1 (fun j hj => by
        rw [i12]
        have := c3 (j + 1) (Nat.succ_lt_succ hj)
        rw [show i + 1 + j = i + (j + 1) by omega]
        exact this) (fun u hu => vl u (List.mem_cons_of_mem _ hu)) (by rw [i13]; exact hw) bq e
      refine ⟨h2, ?_, f1.tr f2, s2⟩
      show f_X3_value_7_b F (f_X3_value_7 F k) (x + 11) (nI hi') (nI i) h = _
      unfold f_X3_value_7_b
      have c0 : hp_I h (x + 12) i = nI (ccd r) := c3 0 (Nat.succ_pos _)
      rw [if_neg (nI_ge (show i < hi' by omega) (by omega)), c.1.g 4 11 0 12 (by decide), al_n (c.1.t 12 20 (by decide)) (c.1.l 12 900 (by decide)), if_neg (nI_ge (show i < 900 by omega) (by decide)), c.1.g 4 11 0 12 (by decide), aI_n (c.1.t 12 20 (by decide)) (c.1.l 12 900 (by decide)) rfl (show i < 900 by omega) (by decide), c0, cV_n c.tg e1, nI_1]
      exact e2
theorem cc_value (F : Nat) (hF : 2000 ≤ F) {h : Hp} {x fr : Nat} {l : List Nat} {W : Nat → Int} {v : Int} (wb : WB W) (hb : fr + l.length ≤ 900) (s : CSH h x) (c3 : ∀ j, j < l.length → hp_I h (x + 12) (fr + j) = nI (ccd (l.getD j 0))) (vl : Val l) (hw : ∀ j, j < 6 → hp_I h (x + 13) j = zI (W j)) (e : ev W l [] = some [v]) : ∃ h', f_X3_value F (x + 11) (nI fr) (nI (fr + l.length)) h = some (zI v, h') ∧ FG x h h' ∧ CSH h' x := by
  have t11 : hp_t h (x + 11) = 4 := s.t 11 4 (by decide)
  have f0 : FA x [11, 14] h (hp_sI h (x + 11) 8 0) := FA.sI (by decide)
  obtain ⟨h', e1, f1, s1⟩ := cv_run F wb hb l fr F [] (hp_sI h (x + 11) 8 0) rfl (by omega) ⟨s.sh f0.1, ⟨by rw [sI_at, if_pos rfl]; rfl, by decide⟩, trivial⟩ (by rw [f0.at (by decide)]; exact c3) vl (by rw [f0.at (by decide)]; exact hw) (fun _ hu => absurd hu List.not_mem_nil) e
  refine ⟨h', ?_, FG.tr ⟨f0, fun k hk => by rw [sI_at, if_neg hk]⟩ f1, s1⟩
  unfold f_X3_value
  rw [pI_n t11]
  exact e1
