/-! L3, the two readers: a chain of operands -/
section chains
variable {F x m n may : Nat} {tp : Nat → Nat}
/-- what a walk makes of the codes -/
def Out (Q : List Nat → Prop) (σ σ' : PS) : Prop := (∀ b, σ = .inr b → σ' = .inr b) ∧ ∀ A ls, σ = .inl (A, ls) → (∃ A' l, σ' = .inl (A', ls ++ l) ∧ A < A' ∧ Q l) ∨ ∃ b, σ' = .inr b
/-- both walk alike -/
def RG (x m n may : Nat) (tp : Nat → Nat) (fc fm : Hp → Option (Unit × Hp)) (Q : List Nat → Prop) : Prop := ∀ σ, Pok n tp σ → cnt σ ≤ plc σ → ∃ σ', Pok n tp σ' ∧ Le σ σ' ∧ Out Q σ σ' ∧ CW x n may tp fc σ σ' ∧ MW m n may tp fm σ σ'
theorem Le.cb {σ σ' : PS} (l : Le σ σ') (h : cnt σ ≤ plc σ) : cnt σ' ≤ plc σ' := by
  obtain ⟨a, b⟩ := l
  omega
theorem kin_inl {tp : Nat → Nat} {n : Nat} : ∀ {σ : PS}, kin tp n σ ≠ 25 → ∃ A ls, σ = .inl (A, ls) ∧ kin tp n σ = tK tp n A
  | .inl (A, ls), _ => ⟨A, ls, rfl, rfl⟩
  | .inr _, h => absurd rfl h
theorem nx_inl {tp : Nat → Nat} {n A : Nat} {ls : List Nat} : (∃ A', nx tp n A ls = .inl (A', ls)) ∨ ∃ b, nx tp n A ls = .inr b := by
  unfold nx
  by_cases z : tK tp n (tA tp n (tE tp n A)) = 25
  · rw [if_pos z]; exact Or.inr ⟨_, rfl⟩
  · rw [if_neg z]; exact Or.inl ⟨_, rfl⟩
theorem lp {op : Nat → Option Nat} (n9 : n ≤ 900) (hop : ∀ K r, op K = some r → K ≠ 24 ∧ K ≠ 25) {Q Q' : List Nat → Prop} {L : Nat → Int32 → Hp → Option (Unit × Hp)} {LM : Nat → Hp → Option (Unit × Hp)} {sc sm : Hp → Option (Unit × Hp)}
    (rg : RG x m n may tp sc sm Q') (hQ : ∀ K r, op K = some r → ∀ l l', Q l → Q' l' → Q (l ++ l' ++ [r]))
    (cn : ∀ σ, Pok n tp σ → op (kin tp n σ) = none → ∀ k l2, CW x n may tp (L (k + 1) l2) σ σ)
    (mn : ∀ σ, Pok n tp σ → op (kin tp n σ) = none → ∀ k, MW m n may tp (LM (k + 1)) σ σ)
    (cy : ∀ A ls r, Pok n tp (.inl (A, ls)) → op (tK tp n A) = some r → ∀ k l2, l2 ≤ A → A < n → ∀ σ2 σ3, CW x n may tp sc (nx tp n A ls) σ2 → cnt σ2 < 900 → CW x n may tp (L k (nI (l2 + 1))) (addp r σ2) σ3 → CW x n may tp (L (k + 1) (nI l2)) (.inl (A, ls)) σ3)
    (my : ∀ A ls r, Pok n tp (.inl (A, ls)) → op (tK tp n A) = some r → ∀ k, ∀ σ2 σ3, MW m n may tp sm (nx tp n A ls) σ2 → Pok n tp σ2 → cnt σ2 < 900 → MW m n may tp (LM k) (addp r σ2) σ3 → MW m n may tp (LM (k + 1)) (.inl (A, ls)) σ3) :
    ∀ e (σ : PS) kc km l2, n - plc σ ≤ e → e < kc → e < km → l2 ≤ plc σ → Pok n tp σ → cnt σ ≤ plc σ → ∃ σ', Pok n tp σ' ∧ Le σ σ' ∧ (∀ b, σ = .inr b → σ' = .inr b) ∧ (∀ A l0 l, σ = .inl (A, l0 ++ l) → Q l → (∃ A' l', σ' = .inl (A', l0 ++ l') ∧ A ≤ A' ∧ Q l') ∨ ∃ b, σ' = .inr b) ∧ CW x n may tp (L kc (nI l2)) σ σ' ∧ MW m n may tp (LM km) σ σ' := by
  intro e
  induction e with
  | zero =>
    intro σ kc km l2 he hc hm hl pk cb
    obtain ⟨kc, rfl⟩ : ∃ j, kc = j + 1 := ⟨kc - 1, by omega⟩
    obtain ⟨km, rfl⟩ : ∃ j, km = j + 1 := ⟨km - 1, by omega⟩
    cases z : op (kin tp n σ) with
    | none => exact ⟨σ, pk, Le.rf _, fun b hb => hb, fun A l0 l hA hq => Or.inl ⟨A, l, hA, Nat.le_refl _, hq⟩, cn σ pk z kc _, mn σ pk z km⟩
    | some r =>
      obtain ⟨z1, z2⟩ := hop _ r z
      obtain ⟨A, ls, rfl, hk⟩ := kin_inl z2
      have hA := tK_lt (show tK tp n A ≠ 24 from z1)
      have he : n - A ≤ 0 := he
      omega
  | succ e ih =>
    intro σ kc km l2 he hc hm hl pk cb
    obtain ⟨kc, rfl⟩ : ∃ j, kc = j + 1 := ⟨kc - 1, by omega⟩
    obtain ⟨km, rfl⟩ : ∃ j, km = j + 1 := ⟨km - 1, by omega⟩
    cases z : op (kin tp n σ) with
    | none => exact ⟨σ, pk, Le.rf _, fun b hb => hb, fun A l0 l hA hq => Or.inl ⟨A, l, hA, Nat.le_refl _, hq⟩, cn σ pk z kc _, mn σ pk z km⟩
    | some r =>
      obtain ⟨z1, z2⟩ := hop _ r z
      obtain ⟨A, ls, rfl, hk⟩ := kin_inl z2
      have hA := tK_lt (show tK tp n A ≠ 24 from z1)
      have he : n - A ≤ e + 1 := he
      have hl : l2 ≤ A := hl
      have cb : ls.length ≤ A := cb
      obtain ⟨p1, q1, c1, a1⟩ := nx_ok pk
      have a1 := a1 hA
      obtain ⟨σ2, p2, q2, o2, w2, v2⟩ := rg _ p1 (q1.cb cb)
      have ok := addp_ok (r := r) p2
      obtain ⟨q2a, q2b⟩ := q2
      have p2n := p2.1
      have b2 : cnt σ2 + 1 ≤ plc σ2 := by omega
      obtain ⟨σ3, p3, q3, o3, o4, w3, v3⟩ := ih (addp r σ2) kc km (l2 + 1) (by rw [ok.2.1]; omega) (by omega) (by omega) (by rw [ok.2.1]; omega) ok.1 (by rw [ok.2.1, ok.2.2.1]; exact b2)
      obtain ⟨q3a, q3b⟩ := q3
      rw [ok.2.1] at q3a q3b
      rw [ok.2.2.1] at q3b
      refine ⟨σ3, p3, ⟨show A ≤ plc σ3 by omega, show cnt σ3 + A ≤ ls.length + plc σ3 by omega⟩, fun b hb => absurd hb (fun y => by injection y), fun A0 l0 l hA0 hq => ?_, cy A ls r pk z kc l2 hl hA σ2 σ3 w2 (by omega) w3, my A ls r pk z km σ2 σ3 v2 p2 (by omega) v3⟩
      have eA : A0 = A ∧ ls = l0 ++ l := by
        injection hA0 with hA0
        injection hA0 with y1 y2
        exact ⟨y1.symm, y2⟩
      obtain ⟨rfl, rfl⟩ := eA
      rcases nx_inl (tp := tp) (n := n) (A := A0) (ls := l0 ++ l) with ⟨A1, y⟩ | ⟨b, y⟩
      · rcases o2.2 A1 _ y with ⟨A2, l', y2, y3, y4⟩ | ⟨b, y2⟩
        · rw [y2] at o4
          rcases o4 A2 l0 (l ++ l' ++ [r]) (by show Sum.inl (A2, (l0 ++ l) ++ l' ++ [r]) = _; simp only [List.append_assoc]) (hQ _ r z l l' hq y4) with ⟨A3, l3, u1, u2, u3⟩ | ⟨b, u⟩
          · refine Or.inl ⟨A3, l3, u1, ?_, u3⟩
            rw [u1] at q3a
            have : A0 < plc (nx tp n A0 (l0 ++ l)) := a1
            have q3a : plc σ2 ≤ A3 := q3a
            omega
          · exact Or.inr ⟨b, u⟩
        · exact Or.inr ⟨_, o3 _ (by rw [y2]; rfl)⟩
      · exact Or.inr ⟨_, o3 _ (by rw [o2.1 b y]; rfl)⟩
/-- an operand, then the chain -/
theorem RG.chain {op : Nat → Option Nat} (n9 : n ≤ 900) (hop : ∀ K r, op K = some r → K ≠ 24 ∧ K ≠ 25) {Q Q' : List Nat → Prop} {L : Nat → Int32 → Hp → Option (Unit × Hp)} {LM : Nat → Hp → Option (Unit × Hp)} {sc sm : Hp → Option (Unit × Hp)}
    (rg : RG x m n may tp sc sm Q') (hQ : ∀ K r, op K = some r → ∀ l l', Q l → Q' l' → Q (l ++ l' ++ [r])) (hQ1 : ∀ l, Q' l → Q l)
    (cn : ∀ σ, Pok n tp σ → op (kin tp n σ) = none → ∀ k l2, CW x n may tp (L (k + 1) l2) σ σ)
    (mn : ∀ σ, Pok n tp σ → op (kin tp n σ) = none → ∀ k, MW m n may tp (LM (k + 1)) σ σ)
    (cy : ∀ A ls r, Pok n tp (.inl (A, ls)) → op (tK tp n A) = some r → ∀ k l2, l2 ≤ A → A < n → ∀ σ2 σ3, CW x n may tp sc (nx tp n A ls) σ2 → cnt σ2 < 900 → CW x n may tp (L k (nI (l2 + 1))) (addp r σ2) σ3 → CW x n may tp (L (k + 1) (nI l2)) (.inl (A, ls)) σ3)
    (my : ∀ A ls r, Pok n tp (.inl (A, ls)) → op (tK tp n A) = some r → ∀ k, ∀ σ2 σ3, MW m n may tp sm (nx tp n A ls) σ2 → Pok n tp σ2 → cnt σ2 < 900 → MW m n may tp (LM k) (addp r σ2) σ3 → MW m n may tp (LM (k + 1)) (.inl (A, ls)) σ3) {kc km : Nat} (hk : 900 < kc ∧ 900 < km) : RG x m n may tp (fun h => cV 6 h (x + 9) (sc h) fun _ h' => L kc (nI 0) h') (fun g => cV 13 g m (sm g) fun _ g' => LM km g') Q := fun σ pk cb => by
  obtain ⟨σ1, p1, q1, o1, w1, v1⟩ := rg σ pk cb
  obtain ⟨σ2, p2, q2, o2, o3, w2, v2⟩ := lp n9 hop rg hQ cn mn cy my (n - plc σ1) σ1 kc km 0 (Nat.le_refl _) (by omega) (by omega) (Nat.zero_le _) p1 (q1.cb cb)
  refine ⟨σ2, p2, q1.tr q2, ⟨fun b hb => o2 _ (o1.1 b hb), fun A ls hA => ?_⟩, w1.seq w2, v1.seq v2⟩
  rcases o1.2 A ls hA with ⟨A1, l, y1, y2, y3⟩ | ⟨b, y⟩
  · rcases o3 A1 ls l y1 (hQ1 l y3) with ⟨A2, l', u1, u2, u3⟩ | ⟨b, u⟩
    · exact Or.inl ⟨A2, l', u1, by omega, u3⟩
    · exact Or.inr ⟨b, u⟩
  · exact Or.inr ⟨b, o2 b y⟩
end chains
