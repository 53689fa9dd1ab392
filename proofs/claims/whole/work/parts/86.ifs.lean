/-! L3, the two readers: a choice -/
section ifs
variable {F x m n may d : Nat} {tp : Nat → Nat}
/-- after σ the codes are ls and some more -/
def Lo (ls : List Nat) (A : Nat) (Q : List Nat → Prop) (σ : PS) : Prop := (∃ A' l, σ = .inl (A', ls ++ l) ∧ A < A' ∧ Q l) ∨ ∃ b, σ = .inr b
theorem Lo.mono {ls : List Nat} {A : Nat} {Q Q' : List Nat → Prop} {σ : PS} (h : Lo ls A Q σ) (q : ∀ l, Q l → Q' l) : Lo ls A Q' σ := by
  rcases h with ⟨A', l, y1, y2, y3⟩ | y
  · exact Or.inl ⟨A', l, y1, y2, q l y3⟩
  · exact Or.inr y
theorem Lo.nx {ls : List Nat} {A : Nat} (pk : Pok n tp (.inl (A, ls))) (hA : A < n) : Lo ls A (fun l => l = []) (nx tp n A ls) := by
  have a1 := (nx_ok pk).2.2.2 hA
  rcases nx_inl (tp := tp) (n := n) (A := A) (ls := ls) with ⟨A1, y⟩ | ⟨b, y⟩
  · rw [y] at a1
    exact Or.inl ⟨A1, [], by rw [List.append_nil]; exact y, a1, rfl⟩
  · exact Or.inr ⟨b, y⟩
theorem Lo.seq {ls : List Nat} {A : Nat} {Q1 Q2 : List Nat → Prop} {σ σ' : PS} (h : Lo ls A Q1 σ) (o : Out Q2 σ σ') : Lo ls A (fun l => ∃ a b, l = a ++ b ∧ Q1 a ∧ Q2 b) σ' := by
  rcases h with ⟨A', l, y1, y2, y3⟩ | ⟨b, y⟩
  · rcases o.2 A' _ y1 with ⟨A2, l', u1, u2, u3⟩ | ⟨b, u⟩
    · exact Or.inl ⟨A2, l ++ l', by rw [u1, List.append_assoc], by omega, l, l', rfl, y3, u3⟩
    · exact Or.inr ⟨b, u⟩
  · exact Or.inr ⟨b, o.1 b y⟩
theorem Lo.tkn {ls : List Nat} {A : Nat} {Q : List Nat → Prop} {σ : PS} (h : Lo ls A Q σ) (p : Pok n tp σ) (K : Nat) : Lo ls A Q (tkn tp n K σ) := tkn_out (fun _ q => q) h p
theorem Lo.add {ls : List Nat} {A : Nat} {Q : List Nat → Prop} {σ : PS} (h : Lo ls A Q σ) (r : Nat) : Lo ls A (fun l => ∃ a, l = a ++ [r] ∧ Q a) (addp r σ) := by
  rcases h with ⟨A', l, y1, y2, y3⟩ | ⟨b, y⟩
  · rw [y1]
    exact Or.inl ⟨A', l ++ [r], by show Sum.inl (A', (ls ++ l) ++ [r]) = _; rw [List.append_assoc], y2, l, rfl, y3⟩
  · rw [y]; exact Or.inr ⟨_, rfl⟩
theorem Lo.out {ls : List Nat} {A : Nat} {Q : List Nat → Prop} {σ : PS} (h : Lo ls A Q σ) : Out Q (.inl (A, ls)) σ := ⟨fun b hb => absurd hb (fun y => by injection y), fun A0 l0 h0 => by
  obtain ⟨rfl, rfl⟩ := inl_i h0
  exact h⟩
theorem RG_if (hF : 2000 ≤ F) (n9 : n ≤ 900) (hd : d ≤ 6) {Rc Rm : Nat → Nat → Int32 → Hp → Option (Unit × Hp)} {Q QT QS : List Nat → Prop}
    (rgT : d < 6 → RG x m n may tp (fun h => Rc 6 (x + 9) (nI d + 1) h) (fun g => Rm 5 m (nI d + 1) g) QT)
    (rgS : d < 6 → RG x m n may tp (fun h => Rc 4 (x + 9) (nI d + 1) h) (fun g => Rm 3 m (nI d + 1) g) QS)
    (hQ : d < 6 → ∀ t a b, QT t → QS a → QS b → Q (t ++ a ++ b ++ [3009])) (A : Nat) (ls : List Nat) (pk : Pok n tp (.inl (A, ls))) (cb : ls.length ≤ A) (z : tK tp n A = 11) : ∃ σ', Pok n tp σ' ∧ Le (.inl (A, ls)) σ' ∧ Out Q (.inl (A, ls)) σ' ∧ CW x n may tp (fun h => cV 6 h (x + 9) (f_X5_opens F (x + 9) (nI d) h) fun v h13 => if v = 0 then some ((), h13) else cV 6 h13 (x + 9) (f_X5_choice_w F Rc (x + 9) (nI d + 1) h13) fun _ h16 => some ((), h16)) (.inl (A, ls)) σ' ∧ MW m n may tp (fun g => f_X12_readIf_w F Rm m (nI d) g) (.inl (A, ls)) σ' := by
  have hA := tK_lt (show tK tp n A ≠ 24 by rw [z]; decide)
  by_cases d6 : d < 6
  · obtain ⟨p1, q1, c1, a1⟩ := nx_ok pk
    have a1 := a1 hA
    have b1 := q1.cb (show cnt (.inl (A, ls)) ≤ plc (.inl (A, ls)) from cb)
    obtain ⟨σ2, p2, q2, o2, w2, v2⟩ := rgT d6 _ p1 b1
    have b2 := q2.cb b1
    obtain ⟨p3, q3, c3⟩ := tkn_ok (K := 12) p2
    have b3 := q3.cb b2
    obtain ⟨σ4, p4, q4, o4, w4, v4⟩ := rgS d6 _ p3 b3
    have b4 := q4.cb b3
    obtain ⟨p5, q5, c5⟩ := tkn_ok (K := 13) p4
    have b5 := q5.cb b4
    obtain ⟨σ6, p6, q6, o6, w6, v6⟩ := rgS d6 _ p5 b5
    have b6 := q6.cb b5
    obtain ⟨p7, q7, c7⟩ := tkn_ok (K := 14) p6
    obtain ⟨qa, qb⟩ := ((((q2.tr q3).tr q4).tr q5).tr q6).tr q7
    have p7n := p7.1
    have ok := addp_ok (r := 3009) p7
    have lt : cnt (tkn tp n 14 σ6) < 900 := by omega
    refine ⟨addp 3009 (tkn tp n 14 σ6), ok.1, ⟨?_, ?_⟩, ?_, CW.opens hF d6 pk (CW.seq (f := fun h => f_X5_choice_w F Rc (x + 9) (nI d + 1) h) (w2.seq ((CW.take hF 12 ctk_v.2.2.2.2.2.1 (by decide) p2).seq (w4.seq ((CW.take hF 13 ctk_v.2.2.2.2.2.2.1 (by decide) p4).seq (w6.seq ((CW.take hF 14 ctk_v.2.2.2.2.2.2.2.1 (by decide) p6).seq (CW.add 3009 rfl lt (CW.fin _)))))))) (CW.fin _)), MW.opens hF d6 pk (v2.seq (MW.take hF 12 rfl (by decide) p2 (v4.seq (MW.take hF 13 rfl (by decide) p4 (v6.seq (MW.take hF 14 rfl (by decide) p6 ((MW.codes 3009 rfl p7 lt).seq (MW.fin _))))))))⟩
    · rw [ok.2.1]; show A ≤ _; omega
    · rw [ok.2.1, ok.2.2.1]; show _ + A ≤ ls.length + _; omega
    · refine (Lo.mono ((((((((Lo.nx pk hA).seq o2).tkn p2 12).seq o4).tkn p4 13).seq o6).tkn p6 14).add 3009) ?_).out
      rintro l ⟨a, rfl, u, b, rfl, ⟨u2, b2, rfl, ⟨u3, b3, rfl, rfl, t1⟩, t2⟩, t3⟩
      exact hQ d6 b3 b2 b t1 t2 t3
  · obtain rfl : d = 6 := by omega
    exact ⟨.inr (4, A, ls.length), ⟨pk.1, show 0 < 4 ∧ 4 < 5 by decide⟩, ⟨Nat.le_refl _, Nat.le_refl _⟩, ⟨fun b hb => absurd hb (fun y => by injection y), fun _ _ _ => Or.inr ⟨_, rfl⟩⟩, CW.shut hF pk, MW.shut hF pk⟩
end ifs
