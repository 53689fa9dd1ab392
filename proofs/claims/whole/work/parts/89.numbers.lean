/-! L3, the two readers: a number -/
section numbers
variable {F x m n : Nat} {tp : Nat → Nat}
/-- a number is in its limits -/
def inl' (lo hi : Int32) (v : Nat) : Prop := lo.toInt ≤ (v : Int) ∧ (v : Int) ≤ hi.toInt
noncomputable def tkm (tp : Nat → Nat) (n : Nat) (lo hi : Int32) : PS → PS
  | .inl (A, ls) => if tK tp n A = 23 then @ite PS (inl' lo hi (tN tp n A)) (Classical.propDecidable _) (nx tp n A ls) (.inr (3, A, ls.length)) else .inr (2, A, ls.length)
  | .inr b => .inr b
/-- the number that is taken -/
noncomputable def vkm (tp : Nat → Nat) (n : Nat) (lo hi : Int32) : PS → Nat
  | .inl (A, _) => if tK tp n A = 23 then @ite Nat (inl' lo hi (tN tp n A)) (Classical.propDecidable _) (tN tp n A) 0 else 0
  | .inr _ => 0
theorem tkm_ok {lo hi : Int32} : ∀ {σ : PS}, Pok n tp σ → Pok n tp (tkm tp n lo hi σ) ∧ Le σ (tkm tp n lo hi σ) ∧ cnt (tkm tp n lo hi σ) = cnt σ
  | .inl (A, ls), h => by
    show Pok n tp (if tK tp n A = 23 then @ite PS (inl' lo hi (tN tp n A)) (Classical.propDecidable _) (nx tp n A ls) (.inr (3, A, ls.length)) else .inr (2, A, ls.length)) ∧ Le _ (if tK tp n A = 23 then @ite PS (inl' lo hi (tN tp n A)) (Classical.propDecidable _) (nx tp n A ls) (.inr (3, A, ls.length)) else .inr (2, A, ls.length)) ∧ cnt (if tK tp n A = 23 then @ite PS (inl' lo hi (tN tp n A)) (Classical.propDecidable _) (nx tp n A ls) (.inr (3, A, ls.length)) else .inr (2, A, ls.length)) = ls.length
    by_cases z : tK tp n A = 23
    · rw [if_pos z]
      by_cases y : inl' lo hi (tN tp n A)
      · rw [if_pos y]
        have := nx_ok h
        exact ⟨this.1, this.2.1, this.2.2.1⟩
      · rw [if_neg y]
        exact ⟨⟨h.1, show 0 < 3 ∧ 3 < 5 by decide⟩, ⟨Nat.le_refl _, Nat.le_refl _⟩, rfl⟩
    · rw [if_neg z]
      exact ⟨⟨h.1, show 0 < 2 ∧ 2 < 5 by decide⟩, ⟨Nat.le_refl _, Nat.le_refl _⟩, rfl⟩
  | .inr b, h => ⟨h, Le.rf _, rfl⟩
/-- taken: it was a number in its limits; else there is a failure -/
theorem tkm_v {lo hi : Int32} : ∀ {σ : PS}, (∃ b, tkm tp n lo hi σ = .inr b ∧ (vkm tp n lo hi σ = 0 ∨ inl' lo hi (vkm tp n lo hi σ))) ∨ ∃ A ls, σ = .inl (A, ls) ∧ tkm tp n lo hi σ = nx tp n A ls ∧ vkm tp n lo hi σ = tN tp n A ∧ inl' lo hi (tN tp n A) ∧ tK tp n A = 23
  | .inl (A, ls) => by
    by_cases z : tK tp n A = 23
    · by_cases y : inl' lo hi (tN tp n A)
      · exact Or.inr ⟨A, ls, rfl, (if_pos z).trans (if_pos y), (if_pos z).trans (if_pos y), y, z⟩
      · exact Or.inl ⟨_, (if_pos z).trans (if_neg y), Or.inl ((if_pos z).trans (if_neg y))⟩
    · exact Or.inl ⟨_, if_neg z, Or.inl (if_neg z)⟩
  | .inr b => Or.inl ⟨b, rfl, Or.inl rfl⟩
theorem C_is2 {h0 h : Hp} {σ : PS} (c : CC x n tp h0 h σ) : hp_I h (x + 9) 6 = 2 ↔ kin tp n σ = 23 := by
  have := C_is c (K := 23) rfl
  rw [show ctk 23 = 2 by decide +kernel] at this
  exact this
theorem C_num (F : Nat) (hF : 2000 ≤ F) {h0 h : Hp} {lo hi : Int32} : ∀ {σ : PS}, CC x n tp h0 h σ → Pok n tp σ → ∃ h', f_X5_takeNumber F (x + 9) lo hi h = some (nI (vkm tp n lo hi σ), h') ∧ CC x n tp h0 h' (tkm tp n lo hi σ)
  | .inl (A, ls), c, pk => by
    have ht := fun j hj => c.2.1.lt (j := j) hj
    unfold f_X5_takeNumber f_X5_takeNumber_31
    show ∃ h', _ = some (nI (if tK tp n A = 23 then @ite Nat (inl' lo hi (tN tp n A)) (Classical.propDecidable _) (tN tp n A) 0 else 0), h') ∧ CC x n tp h0 h' (if tK tp n A = 23 then @ite PS (inl' lo hi (tN tp n A)) (Classical.propDecidable _) (nx tp n A ls) (.inr (3, A, ls.length)) else .inr (2, A, ls.length))
    rw [gI_n c.tg]
    by_cases z : tK tp n A = 23
    · have lt := tN_lt z ht
      have e7 := c.2.2.2.1.2.2.2.2.1 z
      have ti : (nI (tN tp n A)).toInt = (tN tp n A : Int) := nI_toInt (by omega)
      obtain ⟨h3, e3, c3⟩ := C_fail F (k := 3) c pk
      have e3 : f_X5_fail F (x + 9) 3 h = some ((), h3) := e3
      rw [if_pos ((C_is2 c).mpr z), if_pos z, if_pos z, gI_n c.tg, e7]
      by_cases y1 : nI (tN tp n A) < lo
      · have ny : ¬ inl' lo hi (tN tp n A) := fun y => by
          have := Int32.lt_iff_toInt_lt.mp y1
          have := y.1
          omega
        rw [if_pos y1, if_neg ny, if_neg ny, cV_n c.tg e3]
        exact ⟨h3, rfl, c3⟩
      · have g1 : ¬ (nI (tN tp n A)).toInt < lo.toInt := fun w => y1 (Int32.lt_iff_toInt_lt.mpr w)
        rw [if_neg y1, gI_n c.tg, e7]
        by_cases y2 : nI (tN tp n A) ≤ hi
        · have g2 := Int32.le_iff_toInt_le.mp y2
          have yy : inl' lo hi (tN tp n A) := ⟨by omega, by omega⟩
          obtain ⟨h', e, c'⟩ := C_adv F hF c pk
          rw [if_pos y2, if_pos yy, if_pos yy, gI_n c.tg, e7, cV_n c.tg e]
          exact ⟨h', rfl, c'⟩
        · have g2 : ¬ (nI (tN tp n A)).toInt ≤ hi.toInt := fun w => y2 (Int32.le_iff_toInt_le.mpr w)
          have ny : ¬ inl' lo hi (tN tp n A) := fun y => by
            have := y.2
            omega
          rw [if_neg y2, if_neg ny, if_neg ny, cV_n c.tg e3]
          exact ⟨h3, rfl, c3⟩
    · obtain ⟨h2, e2, c2⟩ := C_fail F (k := 2) c pk
      have e2 : f_X5_fail F (x + 9) 2 h = some ((), h2) := e2
      rw [if_neg (fun e => z ((C_is2 c).mp e)), if_neg z, if_neg z, cV_n c.tg e2]
      exact ⟨h2, rfl, c2⟩
  | .inr b, c, pk => by
    obtain ⟨h2, e2, c2⟩ := C_fail F (k := 2) c pk
    have e2 : f_X5_fail F (x + 9) 2 h = some ((), h2) := e2
    unfold f_X5_takeNumber
    rw [gI_n c.tg, if_neg (fun e => absurd ((C_is2 c).mp e) (show ¬ 25 = 23 by decide)), cV_n c.tg e2]
    exact ⟨h2, rfl, c2⟩
theorem M_failk (F k : Nat) (hk : 0 < k ∧ k < 5) {g0 g : Hp} {σ : PS} (c : MM m n tp g0 g σ) (pk : Pok n tp σ) : ∃ g', f_X12_fails F m (nI k) g = some ((), g') ∧ MM m n tp g0 g' (flt k σ) ∧ hp_I g' m 11 ≠ 0 := by
  obtain ⟨g', e, c'⟩ := M_fail F hk c pk
  refine ⟨g', e, c', ?_⟩
  have wr : ∀ w : Int32, w ≠ 0 → f_X12_fails_23 F m w m g = some ((), g') → hp_I g' m 11 ≠ 0 := fun w hw e => by
    unfold f_X12_fails_23 at e
    have t1 : hp_t (hp_sI g m 11 w) m = 13 := c.tg
    rw [pI_n c.tg, gI_n t1, pI_n t1] at e
    injection e with e
    injection e with _ e
    rw [← e, sI_at, if_neg (by decide), sI_at, if_pos rfl]
    exact hw
  unfold f_X12_fails at e
  rw [gI_n c.tg] at e
  by_cases z : hp_I g m 11 = 0
  · rw [if_pos z, gI_n c.tg] at e
    by_cases y : hp_I g m 9 = 25
    · rw [if_pos y] at e; exact wr 1 (by decide) e
    · rw [if_neg y] at e; exact wr (nI k) (nI_n0 k hk) e
  · rw [if_neg z] at e
    injection e with e
    injection e with _ e
    rw [← e]; exact z
theorem M_num (F : Nat) (hF : 2000 ≤ F) {g0 g : Hp} {lo hi : Int32} {σ : PS} (c : MM m n tp g0 g σ) (pk : Pok n tp σ) : ∃ g' w, f_X12_takes F m lo hi g = some (w, g') ∧ MM m n tp g0 g' (tkm tp n lo hi σ) ∧ ((∀ b, tkm tp n lo hi σ ≠ .inr b) → w = nI (vkm tp n lo hi σ)) := by
  have bad : ∀ k, (0 < k ∧ k < 5) → ∃ g' w, (cV 13 g m (f_X12_fails F m (nI k) g) fun _ h5 => f_X12_takes_37 F m h5) = some (w, g') ∧ MM m n tp g0 g' (flt k σ) := fun k hk => by
    obtain ⟨g', e, c', ne⟩ := M_failk F k hk c pk
    refine ⟨g', hp_I g' m 10, ?_, c'⟩
    rw [cV_n c.tg e]
    unfold f_X12_takes_37
    rw [gI_n c'.tg, gI_n c'.tg, if_neg ne]
  unfold f_X12_takes
  rw [cV_n c.tg (show f_X12_is F m 23 g = _ from M_is F (K := 23) (by decide) c pk)]
  match σ with
  | .inr b =>
    obtain ⟨g', w, e, c'⟩ := bad 2 (by decide)
    rw [if_neg (show ¬ kin tp n (.inr b) = 23 from (by decide : ¬ 25 = 23)), if_pos rfl]
    exact ⟨g', w, e, c', fun y => absurd rfl (y b)⟩
  | .inl (A, ls) =>
    show ∃ g' w, _ ∧ MM m n tp g0 g' (if tK tp n A = 23 then @ite PS (inl' lo hi (tN tp n A)) (Classical.propDecidable _) (nx tp n A ls) (.inr (3, A, ls.length)) else .inr (2, A, ls.length)) ∧ ((∀ b, (if tK tp n A = 23 then @ite PS (inl' lo hi (tN tp n A)) (Classical.propDecidable _) (nx tp n A ls) (.inr (3, A, ls.length)) else .inr (2, A, ls.length)) ≠ .inr b) → w = nI (if tK tp n A = 23 then @ite Nat (inl' lo hi (tN tp n A)) (Classical.propDecidable _) (tN tp n A) 0 else 0))
    by_cases z : tK tp n A = 23
    · have lt := tN_lt z (fun j hj => (c.1.2.2.1 j hj).2)
      have e10 := c.2.2.1.2.2.2 z
      have ti : (nI (tN tp n A)).toInt = (tN tp n A : Int) := nI_toInt (by omega)
      rw [if_pos (show kin tp n (.inl (A, ls)) = 23 from z), if_neg (show ¬ (1 : Int32) = 0 by decide), if_pos z, if_pos z, gI_n c.tg, e10, bd_n (rc_wi F _ _ _ g), i64_toInt, i64_toInt, i64_toInt, ti]
      by_cases y : inl' lo hi (tN tp n A)
      · obtain ⟨g', e, c'⟩ := M_adv F hF c pk
        rw [show b1 (lo.toInt ≤ (tN tp n A : Int) ∧ (tN tp n A : Int) ≤ hi.toInt) = 1 from if_pos y, if_neg (show ¬ nI 1 = 0 by decide), if_pos y, if_pos y]
        unfold f_X12_takes_37
        rw [gI_n c.tg, gI_n c.tg, c.2.2.2.1, if_pos rfl, cV_n c.tg e, e10]
        exact ⟨g', _, rfl, c', fun _ => rfl⟩
      · obtain ⟨g', w, e, c'⟩ := bad 3 (by decide)
        rw [show b1 (lo.toInt ≤ (tN tp n A : Int) ∧ (tN tp n A : Int) ≤ hi.toInt) = 0 from if_neg y, if_pos (show nI 0 = 0 from rfl), if_neg y, if_neg y]
        exact ⟨g', w, e, c', fun u => absurd rfl (u _)⟩
    · obtain ⟨g', w, e, c'⟩ := bad 2 (by decide)
      rw [if_neg (show ¬ kin tp n (.inl (A, ls)) = 23 from z), if_pos rfl, if_neg z, if_neg z]
      exact ⟨g', w, e, c', fun u => absurd rfl (u _)⟩
end numbers
