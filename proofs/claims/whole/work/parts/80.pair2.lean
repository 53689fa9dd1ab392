/-! L3, the two readers: the token ahead; taking; codes; opening -/
noncomputable def kin (tp : Nat → Nat) (n : Nat) : PS → Nat
  | .inl (A, _) => tK tp n A
  | .inr _ => 25
theorem C_tok {x n : Nat} {tp : Nat → Nat} {h0 h : Hp} : ∀ {σ : PS}, CC x n tp h0 h σ → hp_I h (x + 9) 6 = ctk (kin tp n σ)
  | .inl (A, ls), c => c.2.2.2.1.2.2.2.1
  | .inr (k, p, b), c => c.2.2.2.2.2.1
theorem kin_ok {x n : Nat} {tp : Nat → Nat} {h0 h : Hp} : ∀ {σ : PS}, CC x n tp h0 h σ → kok (kin tp n σ) = true
  | .inl (A, ls), c => tK_ok (fun j hj => c.2.1.lt hj)
  | .inr b, c => by show kok 25 = true; decide
theorem kin_okm {m n : Nat} {tp : Nat → Nat} {g0 g : Hp} : ∀ {σ : PS}, MM m n tp g0 g σ → kok (kin tp n σ) = true
  | .inl (A, ls), c => tK_ok (fun j hj => (c.1.2.2.1 j hj).2)
  | .inr b, c => by show kok 25 = true; decide
theorem C_is {x n K : Nat} {tp : Nat → Nat} {h0 h : Hp} {σ : PS} (c : CC x n tp h0 h σ) (hK : kok K = true) : hp_I h (x + 9) 6 = ctk K ↔ kin tp n σ = K := by
  rw [C_tok c]
  exact ctk_e (kin_ok c) hK
theorem M_is (F : Nat) {m n K : Nat} {tp : Nat → Nat} {g0 g : Hp} (hK : kok K = true ∧ K ≠ 25) : ∀ {σ : PS}, MM m n tp g0 g σ → Pok n tp σ → f_X12_is F m (nI K) g = some (if kin tp n σ = K then 1 else 0, g)
  | .inl (A, ls), c, pk => by
    obtain ⟨⟨b1, b2, b3, b4⟩, a1, a2⟩ := c.2.2
    have l1 := kok_lt _ (kin_okm c)
    have l2 := kok_lt _ hK.1
    have l1 : tK tp n A < 42 := l1
    unfold f_X12_is
    rw [gI_n c.tg, a1, if_pos rfl, gI_n c.tg, b3]
    show (if nI (tK tp n A) = nI K then _ else _) = some (if tK tp n A = K then (1 : Int32) else 0, g)
    by_cases z : tK tp n A = K
    · rw [if_pos (by rw [z]), if_pos z]
    · rw [if_neg (fun e => z (nI_inj (by omega) (by omega) e)), if_neg z]
  | .inr (k, p, b), c, pk => by
    have l2 := kok_lt _ hK.1
    unfold f_X12_is
    rw [gI_n c.tg]
    show _ = some (if 25 = K then (1 : Int32) else 0, g)
    rw [show (if 25 = K then (1 : Int32) else 0) = 0 from if_neg (fun e => hK.2 e.symm)]
    rcases c.2.2 with ⟨a1, a2⟩ | ⟨a1, a2, a3, ⟨b1, b2, b3, b4⟩, a5⟩
    · rw [a1, if_neg (nI_n0 k pk.2)]
    · rw [a1, if_pos rfl, gI_n c.tg, b3, a3, if_neg (fun e => hK.2 (nI_inj (a := 25) (by decide) (by omega) e).symm)]
/-! taking a token -/
noncomputable def tkn (tp : Nat → Nat) (n K : Nat) : PS → PS
  | .inl (A, ls) => if tK tp n A = K then nx tp n A ls else .inr (2, A, ls.length)
  | .inr b => .inr b
theorem tK_lt {tp : Nat → Nat} {n A : Nat} (h : tK tp n A ≠ 24) : A < n := by
  by_cases z : n ≤ A
  · exact absurd (by unfold tK; rw [if_pos z]) h
  · omega
theorem tkn_ok {n K : Nat} {tp : Nat → Nat} : ∀ {σ : PS}, Pok n tp σ → Pok n tp (tkn tp n K σ) ∧ Le σ (tkn tp n K σ) ∧ cnt (tkn tp n K σ) = cnt σ
  | .inl (A, ls), h => by
    show Pok n tp (if tK tp n A = K then nx tp n A ls else .inr (2, A, ls.length)) ∧ Le _ (if tK tp n A = K then nx tp n A ls else .inr (2, A, ls.length)) ∧ cnt (if tK tp n A = K then nx tp n A ls else .inr (2, A, ls.length)) = ls.length
    by_cases z : tK tp n A = K
    · rw [if_pos z]
      have := nx_ok h
      exact ⟨this.1, this.2.1, this.2.2.1⟩
    · rw [if_neg z]
      exact ⟨⟨h.1, show 0 < 2 ∧ 2 < 5 by decide⟩, ⟨Nat.le_refl _, Nat.le_refl _⟩, rfl⟩
  | .inr b, h => ⟨h, Le.rf _, rfl⟩
theorem C_take (F : Nat) (hF : 2000 ≤ F) {x n K : Nat} {tp : Nat → Nat} {h0 h : Hp} (hK : kok K = true ∧ K ≠ 25) : ∀ {σ : PS}, CC x n tp h0 h σ → Pok n tp σ → ∃ h', f_X5_take F (x + 9) (ctk K) h = some ((), h') ∧ CC x n tp h0 h' (tkn tp n K σ)
  | .inl (A, ls), c, pk => by
    unfold f_X5_take
    rw [gI_n c.tg]
    show ∃ h', _ ∧ CC x n tp h0 h' (if tK tp n A = K then nx tp n A ls else .inr (2, A, ls.length))
    by_cases z : tK tp n A = K
    · rw [if_pos ((C_is c hK.1).mpr z), if_pos z]
      obtain ⟨h', e, c'⟩ := C_adv F hF c pk
      rw [cV_n c.tg e]
      exact ⟨h', rfl, c'⟩
    · rw [if_neg (fun e => z ((C_is c hK.1).mp e)), if_neg z]
      obtain ⟨h', e, c'⟩ := C_fail F (k := 2) c pk
      rw [cV_n c.tg (show f_X5_fail F (x + 9) 2 h = _ from e)]
      exact ⟨h', rfl, c'⟩
  | .inr b, c, pk => by
    unfold f_X5_take
    rw [gI_n c.tg, if_neg (fun e => hK.2 ((C_is c hK.1).mp e).symm)]
    obtain ⟨h', e, c'⟩ := C_fail F (k := 2) c pk
    rw [cV_n c.tg (show f_X5_fail F (x + 9) 2 h = _ from e)]
    exact ⟨h', rfl, c'⟩
theorem M_eats (F : Nat) (hF : 2000 ≤ F) {m n K : Nat} {tp : Nat → Nat} {g0 g : Hp} (hK : kok K = true ∧ K ≠ 25) {σ : PS} (c : MM m n tp g0 g σ) (pk : Pok n tp σ) : (kin tp n σ = K ∧ ∃ g', f_X12_eats F m (nI K) g = some (1, g') ∧ MM m n tp g0 g' (tkn tp n K σ)) ∨ (kin tp n σ ≠ K ∧ f_X12_eats F m (nI K) g = some (0, g)) := by
  unfold f_X12_eats
  rw [cV_n c.tg (M_is F hK c pk)]
  by_cases z : kin tp n σ = K
  · left
    refine ⟨z, ?_⟩
    rw [if_pos z, if_neg (show ¬ (1 : Int32) = 0 by decide)]
    match σ with
    | .inl (A, ls) =>
      obtain ⟨g', e, c'⟩ := M_adv F hF c pk
      rw [cV_n c.tg e]
      refine ⟨g', rfl, ?_⟩
      show MM m n tp g0 g' (if tK tp n A = K then nx tp n A ls else .inr (2, A, ls.length))
      rw [if_pos (show tK tp n A = K from z)]
      exact c'
    | .inr b => exact absurd z.symm hK.2
  · right
    refine ⟨z, ?_⟩
    rw [if_neg z, if_pos rfl]
theorem M_take (F : Nat) (hF : 2000 ≤ F) {m n K : Nat} {tp : Nat → Nat} {g0 g : Hp} (hK : kok K = true ∧ K ≠ 25) {σ : PS} (c : MM m n tp g0 g σ) (pk : Pok n tp σ) : ∃ g', MM m n tp g0 g' (tkn tp n K σ) ∧ ∀ KK : Hp → Option (Unit × Hp), (cV 13 g m (f_X12_eats F m (nI K) g) fun v h2 => if v = 0 then (cV 13 h2 m (f_X12_fails F m 2 h2) fun _ h5 => KK h5) else KK h2) = KK g' := by
  rcases M_eats F hF hK c pk with ⟨z, g', e, c'⟩ | ⟨z, e⟩
  · refine ⟨g', c', fun KK => ?_⟩
    rw [cV_n c.tg e, if_neg (show ¬ (1 : Int32) = 0 by decide)]
  · obtain ⟨g', e', c'⟩ := M_fail F (k := 2) (by decide) c pk
    refine ⟨g', ?_, fun KK => ?_⟩
    · match σ with
      | .inl (A, ls) =>
        show MM m n tp g0 g' (if tK tp n A = K then nx tp n A ls else .inr (2, A, ls.length))
        rw [if_neg (show ¬ tK tp n A = K from z)]
        exact c'
      | .inr b => exact c'
    · rw [cV_n c.tg e, if_pos rfl, cV_n c.tg (show f_X12_fails F m 2 g = _ from e')]
/-! a code -/
def addp (r : Nat) : PS → PS
  | .inl (A, ls) => .inl (A, ls ++ [r])
  | .inr (k, p, c) => .inr (k, p, c + 1)
theorem addp_ok {n r : Nat} {tp : Nat → Nat} : ∀ {σ : PS}, Pok n tp σ → Pok n tp (addp r σ) ∧ plc (addp r σ) = plc σ ∧ cnt (addp r σ) = cnt σ + 1 ∧ kin tp n (addp r σ) = kin tp n σ
  | .inl (A, ls), h => ⟨h, rfl, by show (ls ++ [r]).length = _; rw [List.length_append]; rfl, rfl⟩
  | .inr (k, p, c), h => ⟨h, rfl, rfl, rfl⟩
theorem gd_app (ls : List Nat) (r i : Nat) : (ls ++ [r]).getD i 0 = if i < ls.length then ls.getD i 0 else if i = ls.length then r else 0 := by
  by_cases z : i < ls.length
  · rw [if_pos z]
    simp only [List.getD_eq_getElem?_getD, List.getElem?_append_left z]
  · rw [if_neg z]
    by_cases y : i = ls.length
    · rw [if_pos y, y]
      simp only [List.getD_eq_getElem?_getD, List.getElem?_append_right (Nat.le_refl _), Nat.sub_self]
      rfl
    · rw [if_neg y]
      simp only [List.getD_eq_getElem?_getD]
      rw [List.getElem?_eq_none (by rw [List.length_append]; show ls.length + 1 ≤ i; omega)]
      rfl
/-- a store at x + 12, then the count at x + 11 -/
theorem CC.put {x n i : Nat} {tp : Nat → Nat} {h0 h : Hp} {σ σ' : PS} (c : CC x n tp h0 h σ) (v w : Int32) (e : CSs x n tp (hp_sI (hp_sI h (x + 12) i v) (x + 11) 1 w) σ') : CC x n tp h0 (hp_sI (hp_sI h (x + 12) i v) (x + 11) 1 w) σ' := by
  have f1 : FQ (x + 12) h (hp_sI h (x + 12) i v) := FQ.sI
  have f2 : FQ (x + 11) (hp_sI h (x + 12) i v) (hp_sI (hp_sI h (x + 12) i v) (x + 11) 1 w) := FQ.sI
  have t12 : hp_t h (x + 12) = 20 := c.1.t 12 20 (by decide)
  have t11 : hp_t h (x + 11) = 4 := c.1.t 11 4 (by decide)
  obtain ⟨⟨a1, a2⟩, ⟨a3, a4⟩, ⟨a5, a6⟩, a7, a8⟩ := c.2.1
  have i9 : hp_I (hp_sI (hp_sI h (x + 12) i v) (x + 11) 1 w) (x + 9) = hp_I h (x + 9) := by rw [f2.2.2 _ (by omega), f1.2.2 _ (by omega)]
  have i1 : hp_I (hp_sI (hp_sI h (x + 12) i v) (x + 11) 1 w) (x + 1) = hp_I h (x + 1) := by rw [f2.2.2 _ (by omega), f1.2.2 _ (by omega)]
  refine ⟨(c.1.sh f1.1).sh f2.1, ⟨⟨a1, a2⟩, ⟨a3, a4⟩, ⟨by rw [i9]; exact a5, a6⟩, by rw [i1]; exact a7, (a8.fq f1 (by rw [t12]; decide)).fq f2 (show hp_t h (x + 11) ≠ 14 ∧ hp_t h (x + 11) ≠ 27 by rw [t11]; decide)⟩, c.2.2.1.tr ⟨(f1.fa (by decide)).tr (f2.fa (by decide)), fun k _ => by rw [i9], fun k hk => ?_⟩, e⟩
  rw [sI_at, if_neg hk, sI_ne _ _ _ (by omega)]
theorem C_add (F : Nat) {x n r : Nat} {tp : Nat → Nat} {h0 h : Hp} : ∀ {σ : PS}, CC x n tp h0 h σ → cnt σ < 900 → ∃ h', f_X3_add F (x + 11) (nI (ccd r)) h = some ((), h') ∧ CC x n tp h0 h' (addp r σ) := by
  have key : ∀ (σ : PS) (k : Nat), CC x n tp h0 h σ → k < 900 → hp_I h (x + 11) 1 = nI k → f_X3_add F (x + 11) (nI (ccd r)) h = some ((), hp_sI (hp_sI h (x + 12) k (nI (ccd r))) (x + 11) 1 (nI (k + 1))) := fun σ k c hk e => by
    have t11 : hp_t h (x + 11) = 4 := c.1.t 11 4 (by decide)
    have t11' : hp_t (hp_sI h (x + 12) k (nI (ccd r))) (x + 11) = 4 := t11
    unfold f_X3_add
    rw [gI_n t11, e, c.1.g 4 11 0 12 (by decide), al_n (c.1.t 12 20 (by decide)) (c.1.l 12 900 (by decide)), if_neg (nI_ge hk (by decide)), c.1.g 4 11 0 12 (by decide), gI_n t11, e, wI_n (c.1.t 12 20 (by decide)) (c.1.l 12 900 (by decide)) rfl hk (by decide), gI_n t11', sI_ne _ _ _ (by omega), e, pI_n t11', nI_1]
  intro σ
  match σ with
  | .inl (A, ls) =>
    intro c hc
    obtain ⟨a, b1, b2⟩ := c.2.2.2
    refine ⟨_, key _ ls.length c hc b1, c.put _ _ ⟨?_, ?_, ?_⟩⟩
    · unfold TKo
      rw [sI_ne _ _ _ (by omega), sI_ne _ _ _ (by omega)]
      exact a
    · rw [sI_at, if_pos rfl, List.length_append]; rfl
    · intro i hi
      rw [List.length_append] at hi
      have hi : i < ls.length + 1 := hi
      rw [sI_ne _ _ _ (by omega), sI_at, gd_app]
      by_cases z : i = ls.length
      · rw [if_pos z, if_neg (by omega), if_pos z]
      · rw [if_neg z, if_pos (by omega)]
        exact b2 i (by omega)
  | .inr (k, p, b) =>
    intro c hc
    obtain ⟨a1, a2, a3, c', a4, a5⟩ := c.2.2.2
    have hc : b < 900 := hc
    refine ⟨_, key _ c' c (by omega) a5, c.put _ _ ⟨?_, ?_, ?_, c' + 1, by omega, by rw [sI_at, if_pos rfl]⟩⟩
    · rw [sI_ne _ _ _ (by omega), sI_ne _ _ _ (by omega)]; exact a1
    · rw [sI_ne _ _ _ (by omega), sI_ne _ _ _ (by omega)]; exact a2
    · rw [sI_ne _ _ _ (by omega), sI_ne _ _ _ (by omega)]; exact a3
theorem MM.put {m n i : Nat} {tp : Nat → Nat} {g0 g : Hp} {σ σ' : PS} (c : MM m n tp g0 g σ) (hi : 143 < i) (v w : Int32) (e : MSs m n tp (hp_sI (hp_sI g (m + 4) i v) (m + 4) 143 w) σ') : MM m n tp g0 (hp_sI (hp_sI g (m + 4) i v) (m + 4) 143 w) σ' := by
  have f1 : FQ (m + 4) g (hp_sI g (m + 4) i v) := FQ.sI
  have f2 : FQ (m + 4) (hp_sI g (m + 4) i v) (hp_sI (hp_sI g (m + 4) i v) (m + 4) 143 w) := FQ.sI
  have f3 := f1.tr f2
  have t4 : hp_t g (m + 4) = 20 := (c.1.1.2 4 (by decide) (by decide)).2.1
  obtain ⟨a1, ⟨a2, a3⟩, a4, a5⟩ := c.1
  refine ⟨⟨a1.sh f3.1, ⟨by rw [f3.2.2 _ (by omega)]; exact a2, a3⟩, by rw [f3.2.2 _ (by omega)]; exact a4, a5.fq f3 (by rw [t4]; decide)⟩, c.2.1.tr ⟨f3.1, f3.2.1, fun a _ h2 => f3.2.2 a h2, fun k _ => by rw [f3.2.2 _ (by omega)], fun k hk => ?_, fun z => by rw [f3.2.2 _ (by omega)]; exact z⟩, e⟩
  rw [sI_at, if_neg (by omega), sI_at, if_neg (by omega)]
theorem M_codes (F : Nat) {m n r : Nat} {tp : Nat → Nat} {g0 g : Hp} : ∀ {σ : PS}, MM m n tp g0 g σ → Pok n tp σ → cnt σ < 900 → ∃ g', f_X12_codes F m (nI r) g = some ((), g') ∧ MM m n tp g0 g' (addp r σ) := by
  have key : ∀ (σ : PS) (k : Nat), MM m n tp g0 g σ → k < 900 → hp_I g m 11 = 0 → hp_I g (m + 4) 143 = nI k → f_X12_codes F m (nI r) g = some ((), hp_sI (hp_sI g (m + 4) (144 + k) (nI r)) (m + 4) 143 (nI (k + 1))) := fun σ k c hk e0 e => by
    have s := c.1.1
    have s1 : SR (hp_sI g (m + 4) (144 + k) (nI r)) m := s
    unfold f_X12_codes
    rw [gI_n s.t, e0, if_pos rfl, s.g 4 4 (by decide) rfl, s.g 4 4 (by decide) rfl, s.a 4 143 (i := 143) rfl (by decide) (by decide), e, s.w 4 (144 + k) (i := 144 + nI k) (nI_add 144 k) (by decide) (show 144 + k < 1044 by omega), s1.g 4 4 (by decide) rfl, s1.a 4 143 (i := 143) rfl (by decide) (by decide), sI_at, if_neg (by omega), e, s1.w 4 143 (i := 143) rfl (by decide) (by decide), nI_1]
  intro σ
  match σ with
  | .inl (A, ls) =>
    intro c pk hc
    obtain ⟨a, a0, b1, b2⟩ := c.2.2
    have hc : ls.length < 900 := hc
    refine ⟨_, key _ ls.length c hc a0 b1, c.put (by omega) _ _ ⟨?_, ?_, ?_, ?_⟩⟩
    · unfold TKr
      rw [sI_ne _ _ _ (by omega), sI_ne _ _ _ (by omega)]
      exact a
    · rw [sI_ne _ _ _ (by omega), sI_ne _ _ _ (by omega)]; exact a0
    · rw [sI_at, if_pos rfl, List.length_append]; rfl
    · intro i hi
      rw [List.length_append] at hi
      have hi : i < ls.length + 1 := hi
      rw [sI_at, if_neg (by omega), sI_at, gd_app]
      by_cases z : i = ls.length
      · rw [if_pos (by omega), if_neg (by omega), if_pos z]
      · rw [if_neg (by omega), if_pos (by omega)]
        exact b2 i (by omega)
  | .inr (k, p, b) =>
    intro c pk hc
    have hc : b < 900 := hc
    rcases c.2.2 with ⟨a1, a2⟩ | ⟨a1, a2, a3, a4, c', a5, a6⟩
    · refine ⟨g, ?_, c.1, c.2.1, Or.inl ⟨a1, a2⟩⟩
      unfold f_X12_codes
      rw [gI_n c.tg, a1, if_neg (nI_n0 k pk.2)]
    · refine ⟨_, key _ c' c (by omega) a1 a6, c.put (by omega) _ _ (Or.inr ⟨?_, a2, a3, ?_, c' + 1, by omega, by rw [sI_at, if_pos rfl]⟩)⟩
      · rw [sI_ne _ _ _ (by omega), sI_ne _ _ _ (by omega)]; exact a1
      · unfold TKr
        rw [sI_ne _ _ _ (by omega), sI_ne _ _ _ (by omega)]
        exact a4
/-! opening -/
theorem C_opens (F : Nat) (hF : 2000 ≤ F) {x n A d : Nat} {tp : Nat → Nat} {ls : List Nat} {h0 h : Hp} (hd : d ≤ 6) (c : CC x n tp h0 h (.inl (A, ls))) (pk : Pok n tp (.inl (A, ls))) : ∃ h', f_X5_opens F (x + 9) (nI d) h = some (if d < 6 then 1 else 0, h') ∧ CC x n tp h0 h' (if d < 6 then nx tp n A ls else .inr (4, A, ls.length)) := by
  unfold f_X5_opens
  by_cases z : d < 6
  · rw [if_pos (show nI d < 6 from nI_lt (b := 6) z (by decide)), if_pos z, if_pos z]
    obtain ⟨h', e, c'⟩ := C_adv F hF c pk
    rw [cV_n c.tg e]
    exact ⟨h', rfl, c'⟩
  · rw [show d = 6 by omega, if_neg (show ¬ nI 6 < 6 by decide), if_neg (by decide), if_neg (by decide)]
    obtain ⟨h', e, c'⟩ := C_fail F (k := 4) c pk
    rw [cV_n c.tg (show f_X5_fail F (x + 9) 4 h = _ from e)]
    exact ⟨h', rfl, c'⟩
theorem M_goesIn (F : Nat) (hF : 2000 ≤ F) {m n A d : Nat} {tp : Nat → Nat} {ls : List Nat} {g0 g : Hp} (hd : d ≤ 6) (c : MM m n tp g0 g (.inl (A, ls))) (pk : Pok n tp (.inl (A, ls))) : ∃ g', f_X12_goesIn F m (nI d) g = some (if d < 6 then 1 else 0, g') ∧ MM m n tp g0 g' (if d < 6 then nx tp n A ls else .inr (4, A, ls.length)) := by
  unfold f_X12_goesIn
  by_cases z : d < 6
  · rw [if_neg (show ¬ nI d = 6 from fun e => by have := nI_inj (b := 6) (by omega) (by decide) e; omega), if_pos z, if_pos z]
    unfold f_X12_goesIn_11 f_X12_goesIn_22
    have f0 : hp_I g m 11 = 0 := c.2.2.2.1
    rw [gI_n c.tg, f0, if_pos rfl]
    obtain ⟨⟨b1, b2, b3, b4⟩, a1, a2⟩ := c.2.2
    obtain ⟨g', e, f, t⟩ := rc_next F hF c.1 b2 (tE_le (tp := tp) (show A ≤ n from pk.1)).2.1
    obtain ⟨g'', e'', c'⟩ := M_adv F hF c pk
    rw [e] at e''
    have eg : g' = g'' := by injection e'' with e''; injection e''
    rw [cV_n c.tg e, gI_n (show hp_t g' m = 13 by rw [f.1.1.1]; exact c.tg), f.2 11 (by decide), a1, if_pos rfl]
    exact ⟨g', rfl, by rw [eg]; exact c'⟩
  · rw [show d = 6 by omega, if_pos (show nI 6 = 6 from rfl), if_neg (by decide), if_neg (by decide)]
    obtain ⟨g', e, c'⟩ := M_fail F (k := 4) (by decide) c pk
    rw [cV_n c.tg (show f_X12_fails F m 4 g = _ from e)]
    unfold f_X12_goesIn_11 f_X12_goesIn_22
    have w : hp_I g' m 11 ≠ 0 := by
      rcases c'.2.2 with ⟨a1, -⟩ | ⟨-, a2, -⟩
      · rw [a1]; exact nI_n0 4 (by decide)
      · exact absurd a2 (by decide)
    rw [gI_n c'.tg, if_neg w, gI_n c'.tg, if_neg w]
    exact ⟨g', rfl, c'⟩
