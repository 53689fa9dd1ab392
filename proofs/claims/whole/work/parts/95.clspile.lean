/-! L3, the class: its pile -/
def FG (x : Nat) (h h' : Hp) : Prop := FA x [11, 14] h h' ∧ ∀ k, k ≠ 8 → hp_I h' (x + 11) k = hp_I h (x + 11) k
theorem FG.rf (x : Nat) (h : Hp) : FG x h h := ⟨FA.rf _ _ _, fun _ _ => rfl⟩
theorem FG.tr {x : Nat} {h h1 h2 : Hp} (a : FG x h h1) (b : FG x h1 h2) : FG x h h2 := ⟨a.1.tr b.1, fun k hk => (b.2 k hk).trans (a.2 k hk)⟩
/-- the class's pile is p -/
def CPl (h : Hp) (x : Nat) (p : List Int) : Prop := CSH h x ∧ (hp_I h (x + 11) 8 = nI p.length ∧ p.length ≤ 100) ∧ PL h (x + 14) p
theorem cc_push (F : Nat) {h : Hp} {x : Nat} {p : List Int} (c : CPl h x p) (hp : p.length < 100) (v : Int) : ∃ h', f_X3_push F (x + 11) (zI v) h = some ((), h') ∧ FG x h h' ∧ CPl h' x (v :: p) := by
  obtain ⟨s, ⟨t, l⟩, pl⟩ := c
  have t11 : hp_t h (x + 11) = 4 := s.t 11 4 (by decide)
  have f1 : FA x [11, 14] h (hp_sI h (x + 14) p.length (zI v)) := FA.sI (by decide)
  have t11' : hp_t (hp_sI h (x + 14) p.length (zI v)) (x + 11) = 4 := t11
  have f2 : FA x [11, 14] (hp_sI h (x + 14) p.length (zI v)) (hp_sI (hp_sI h (x + 14) p.length (zI v)) (x + 11) 8 (nI (p.length + 1))) := FA.sI (by decide)
  refine ⟨hp_sI (hp_sI h (x + 14) p.length (zI v)) (x + 11) 8 (nI (p.length + 1)), ?_, ⟨f1.tr f2, fun k hk => ?_⟩, s.sh (f1.tr f2).1, ⟨by rw [sI_at, if_pos rfl]; rfl, hp⟩, ?_⟩
  · unfold f_X3_push
    rw [gI_n t11, t, s.g 4 11 7 14 (by decide), al_n (s.t 14 20 (by decide)) (s.l 14 100 (by decide)), if_neg (nI_ge hp (by decide)), s.g 4 11 7 14 (by decide), gI_n t11, t, wI_n (s.t 14 20 (by decide)) (s.l 14 100 (by decide)) rfl hp (by decide), gI_n t11', sI_ne _ _ _ (by omega), t, pI_n t11', nI_1]
  · rw [sI_at, if_neg hk, sI_ne _ _ _ (by omega)]
  · exact PL.cg (sI_ne _ _ _ (by omega)) pl.put
theorem cc_pop (F : Nat) {h : Hp} {x : Nat} {v : Int} {p : List Int} (c : CPl h x (v :: p)) : ∃ h', f_X3_pop F (x + 11) h = some (zI v, h') ∧ FG x h h' ∧ CPl h' x p := by
  obtain ⟨s, ⟨t, l⟩, pl⟩ := c
  have t : hp_I h (x + 11) 8 = nI (p.length + 1) := t
  have l : p.length + 1 ≤ 100 := l
  have t11 : hp_t h (x + 11) = 4 := s.t 11 4 (by decide)
  have f1 : FA x [11, 14] h (hp_sI h (x + 11) 8 (nI p.length)) := FA.sI (by decide)
  have s1 := s.sh f1.1
  have t11' : hp_t (hp_sI h (x + 11) 8 (nI p.length)) (x + 11) = 4 := t11
  have e14 : hp_I (hp_sI h (x + 11) 8 (nI p.length)) (x + 14) = hp_I h (x + 14) := sI_ne _ _ _ (by omega)
  refine ⟨hp_sI h (x + 11) 8 (nI p.length), ?_, ⟨f1, fun k hk => by rw [sI_at, if_neg hk]⟩, s1, ⟨by rw [sI_at, if_pos rfl], by omega⟩, PL.cg e14 pl.2⟩
  unfold f_X3_pop
  rw [gI_n t11, t, if_pos (show (0 : Int32) < nI (p.length + 1) from nI_lt (a := 0) (by omega) (by omega)), gI_n t11, t, nI_as1, pI_n t11, s1.g 4 11 7 14 (by decide), gI_n t11', sI_at, if_pos rfl, aI_n (s1.t 14 20 (by decide)) (s1.l 14 100 (by decide)) rfl (show p.length < 100 by omega) (by decide), e14, pl.1]
