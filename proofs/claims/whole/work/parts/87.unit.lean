/-! L3, the two readers: comparisons, units -/
section units
variable {F x m n may d : Nat} {tp : Nat → Nat}
theorem M_failw (F : Nat) {g0 g : Hp} {σ : PS} (c : MM m n tp g0 g σ) : ∃ g', f_X12_fails F m 2 g = some ((), g') ∧ hp_I g' m 11 ≠ 0 := by
  have wr : ∀ w : Int32, w ≠ 0 → ∃ g', f_X12_fails_23 F m w m g = some ((), g') ∧ hp_I g' m 11 ≠ 0 := fun w hw => by
    unfold f_X12_fails_23
    have t1 : hp_t (hp_sI g m 11 w) m = 13 := c.tg
    rw [pI_n c.tg, gI_n t1, pI_n t1]
    refine ⟨_, rfl, ?_⟩
    rw [sI_at, if_neg (by decide), sI_at, if_pos rfl]
    exact hw
  unfold f_X12_fails
  rw [gI_n c.tg]
  by_cases z : hp_I g m 11 = 0
  · rw [if_pos z, gI_n c.tg]
    by_cases y : hp_I g m 9 = 25
    · rw [if_pos y]; exact wr 1 (by decide)
    · rw [if_neg y]; exact wr 2 (by decide)
  · rw [if_neg z]; exact ⟨g, rfl, z⟩
theorem flt_inr (k : Nat) : ∀ σ : PS, ∃ b, flt k σ = .inr b
  | .inl (A, ls) => ⟨_, rfl⟩
  | .inr b => ⟨b, rfl⟩
/-- a failure; what follows changes nothing -/
theorem MW.dead {Q : List Nat → Prop} {sc sm : Hp → Option (Unit × Hp)} (rg : RG x m n may tp sc sm Q) {σ : PS} (pk : Pok n tp σ) (cb : cnt σ ≤ plc σ) (lit : Int32) : MW m n may tp (fun h => cV 13 h m (f_X12_fails F m 2 h) fun _ h25 => cV 13 h25 m (sm h25) fun _ h27 => cV 13 h27 m (f_X12_codes F m lit h27) fun _ h29 => some ((), h29)) σ (flt 2 σ) := fun g0 g hm c => by
  obtain ⟨g1, e1, n1⟩ := M_failw F c
  obtain ⟨g1', e1', c1⟩ := M_fail F (k := 2) (by decide) c pk
  have eg : g1' = g1 := by
    have : (some ((), g1') : Option (Unit × Hp)) = some ((), g1) := by rw [← e1, ← e1']; rfl
    injection this with this
    injection this
  rw [eg] at c1
  obtain ⟨p1, q1⟩ := flt_ok (k := 2) (by decide) pk
  obtain ⟨σ2, p2, q2, o2, w2, v2⟩ := rg _ p1 (q1.cb cb)
  obtain ⟨b, hb⟩ := flt_inr 2 σ
  have eσ : σ2 = flt 2 σ := by rw [hb]; exact o2.1 b hb
  obtain ⟨g2, e2, c2⟩ := v2 g1 g1 (M_15 hm c1) ⟨c1.1, FZr.rf m g1, c1.2.2⟩
  have n2 := c2.2.1.2.2.2.2.2 n1
  refine ⟨g2, ?_, c2.1, c1.2.1.tr c2.2.1, by rw [← eσ]; exact c2.2.2⟩
  show (cV 13 g m (f_X12_fails F m 2 g) fun _ h25 => cV 13 h25 m (sm h25) fun _ h27 => cV 13 h27 m (f_X12_codes F m lit h27) fun _ h29 => some ((), h29)) = _
  have e3 : f_X12_codes F m lit g2 = some ((), g2) := by
    unfold f_X12_codes
    rw [gI_n c2.tg, if_neg n2]
  rw [cV_n c.tg e1, cV_n c1.tg e2, cV_n c2.tg e3]
theorem RG_cmp (hF : 2000 ≤ F) (n9 : n ≤ 900) {Rc Rm : Nat → Nat → Int32 → Hp → Option (Unit × Hp)} {Q QS : List Nat → Prop}
    (rgS : RG x m n may tp (fun h => Rc 4 (x + 9) (nI d) h) (fun g => Rm 3 m (nI d) g) QS)
    (hQ : ∀ o a b, o < 3 → QS a → QS b → Q (a ++ b ++ [3003 + o])) : RG x m n may tp (fun h => f_X5_comparison_w F Rc (x + 9) (nI d) h) (fun g => cV 13 g m (Rm 3 m (nI d) g) fun _ h8 => cV 13 h8 m (f_X12_is F m 39 h8) fun v9 h10 => if v9 = 0 then (cV 13 h10 m (f_X12_is F m 40 h10) fun v12 h13 => if v12 = 0 then (f_X12_readUnit_111 F Rm m (nI d) 3005 h13) else (f_X12_readUnit_111 F Rm m (nI d) 3004 h13)) else (f_X12_readUnit_111 F Rm m (nI d) 3003 h10)) Q := fun σ pk cb => by
  obtain ⟨σ1, p1, q1, o1, w1, v1⟩ := rgS σ pk cb
  have b1 := q1.cb cb
  have lo1 : ∀ A ls, σ = .inl (A, ls) → Lo ls A QS σ1 := fun A ls h => o1.2 A ls h
  have key : ∀ (o : Nat) (A1 : Nat) (ls1 : List Nat), o < 3 → σ1 = .inl (A1, ls1) → tK tp n A1 = 39 + o →
      (∀ σ', CW x n may tp (fun h => f_X5_comparison_63 F Rc (x + 9) (nI d) (nI (9 + o)) h) σ1 σ' → MW m n may tp (fun g => f_X12_readUnit_139 F Rm m (nI d) (nI (3003 + o)) g) σ1 σ' → CW x n may tp (fun h => f_X5_comparison_w F Rc (x + 9) (nI d) h) σ σ' ∧ MW m n may tp (fun g => cV 13 g m (Rm 3 m (nI d) g) fun _ h8 => cV 13 h8 m (f_X12_is F m 39 h8) fun v9 h10 => if v9 = 0 then (cV 13 h10 m (f_X12_is F m 40 h10) fun v12 h13 => if v12 = 0 then (f_X12_readUnit_111 F Rm m (nI d) 3005 h13) else (f_X12_readUnit_111 F Rm m (nI d) 3004 h13)) else (f_X12_readUnit_111 F Rm m (nI d) 3003 h10)) σ σ') →
      ∃ σ', Pok n tp σ' ∧ Le σ σ' ∧ Out Q σ σ' ∧ CW x n may tp (fun h => f_X5_comparison_w F Rc (x + 9) (nI d) h) σ σ' ∧ MW m n may tp (fun g => cV 13 g m (Rm 3 m (nI d) g) fun _ h8 => cV 13 h8 m (f_X12_is F m 39 h8) fun v9 h10 => if v9 = 0 then (cV 13 h10 m (f_X12_is F m 40 h10) fun v12 h13 => if v12 = 0 then (f_X12_readUnit_111 F Rm m (nI d) 3005 h13) else (f_X12_readUnit_111 F Rm m (nI d) 3004 h13)) else (f_X12_readUnit_111 F Rm m (nI d) 3003 h10)) σ σ' := fun o A1 ls1 ho e1 z fin => by
    subst e1
    have hA := tK_lt (show tK tp n A1 ≠ 24 by omega)
    obtain ⟨p2, q2, c2, a2⟩ := nx_ok p1
    have a2 := a2 hA
    have b2 := q2.cb b1
    obtain ⟨σ3, p3, q3, o3, w3, v3⟩ := rgS _ p2 b2
    obtain ⟨q3a, q3b⟩ := q3
    obtain ⟨q1a, q1b⟩ := q1
    have q1a : plc σ ≤ A1 := q1a
    have q1b : ls1.length + plc σ ≤ cnt σ + A1 := q1b
    have b1 : ls1.length ≤ A1 := b1
    have p3n := p3.1
    have ok := addp_ok (r := 3003 + o) p3
    have lt : cnt σ3 < 900 := by omega
    have cc9 : nI (ccd (3003 + o)) = nI (9 + o) := by
      rcases (show o = 0 ∨ o = 1 ∨ o = 2 by omega) with rfl | rfl | rfl <;> rfl
    obtain ⟨cw, mw⟩ := fin (addp (3003 + o) σ3) ((CW.adv hF p1).seq (w3.seq (CW.add (3003 + o) cc9 lt (CW.fin _)))) ((MW.adv hF p1).seq (v3.seq ((MW.codes (3003 + o) rfl p3 lt).seq (MW.fin _))))
    refine ⟨addp (3003 + o) σ3, ok.1, ⟨by rw [ok.2.1]; omega, by rw [ok.2.1, ok.2.2.1]; omega⟩, ⟨fun b hb => ?_, fun A ls hs => ?_⟩, cw, mw⟩
    · have := o1.1 b hb
      injection this
    · have l1 : Lo ls A QS (.inl (A1, ls1)) := lo1 A ls hs
      rcases l1 with ⟨A', l, y1, y2, y3⟩ | ⟨b, y⟩
      · obtain ⟨rfl, rfl⟩ := inl_i y1
        have l2 : Lo ls A (fun l' => l' = l) (nx tp n A1 (ls ++ l)) := by
          rcases nx_inl (tp := tp) (n := n) (A := A1) (ls := ls ++ l) with ⟨A2, u⟩ | ⟨b, u⟩
          · rw [u] at a2
            have a2 : A1 < A2 := a2
            exact Or.inl ⟨A2, l, u, by omega, rfl⟩
          · exact Or.inr ⟨b, u⟩
        refine Lo.mono ((l2.seq o3).add (3003 + o)) ?_
        rintro l' ⟨a, rfl, u, b, rfl, rfl, t⟩
        exact hQ o _ b ho y3 t
      · injection y
  by_cases z39 : kin tp n σ1 = 39
  · obtain ⟨A1, ls1, e1, ek⟩ := kin_inl (show kin tp n σ1 ≠ 25 by rw [z39]; decide)
    exact key 0 A1 ls1 (by decide) e1 (by rw [← ek]; exact z39) (fun σ' wc vm => ⟨w1.seq (CW.yes 39 ctk_v.1.2.2.2.2.2.2.2.1 rfl z39 (CW.yes 39 ctk_v.1.2.2.2.2.2.2.2.1 rfl z39 wc)), v1.seq (MW.yes 39 rfl (by decide) p1 z39 (MW.yes 39 rfl (by decide) p1 z39 vm))⟩)
  · by_cases z40 : kin tp n σ1 = 40
    · obtain ⟨A1, ls1, e1, ek⟩ := kin_inl (show kin tp n σ1 ≠ 25 by rw [z40]; decide)
      exact key 1 A1 ls1 (by decide) e1 (by rw [← ek]; exact z40) (fun σ' wc vm => ⟨w1.seq (CW.no 39 ctk_v.1.2.2.2.2.2.2.2.1 rfl z39 (CW.yes 40 ctk_v.1.2.2.2.2.2.2.2.2.1 rfl z40 (CW.no 39 ctk_v.1.2.2.2.2.2.2.2.1 rfl z39 (CW.yes 40 ctk_v.1.2.2.2.2.2.2.2.2.1 rfl z40 wc)))), v1.seq (MW.no 39 rfl (by decide) p1 z39 (MW.yes 40 rfl (by decide) p1 z40 (MW.no 39 rfl (by decide) p1 z39 (MW.yes 40 rfl (by decide) p1 z40 vm))))⟩)
    · by_cases z41 : kin tp n σ1 = 41
      · obtain ⟨A1, ls1, e1, ek⟩ := kin_inl (show kin tp n σ1 ≠ 25 by rw [z41]; decide)
        exact key 2 A1 ls1 (by decide) e1 (by rw [← ek]; exact z41) (fun σ' wc vm => ⟨w1.seq (CW.no 39 ctk_v.1.2.2.2.2.2.2.2.1 rfl z39 (CW.no 40 ctk_v.1.2.2.2.2.2.2.2.2.1 rfl z40 (CW.no 39 ctk_v.1.2.2.2.2.2.2.2.1 rfl z39 (CW.no 40 ctk_v.1.2.2.2.2.2.2.2.2.1 rfl z40 (CW.yes 41 ctk_v.1.2.2.2.2.2.2.2.2.2.1 rfl z41 wc))))), v1.seq (MW.no 39 rfl (by decide) p1 z39 (MW.no 40 rfl (by decide) p1 z40 (MW.no 39 rfl (by decide) p1 z39 (MW.no 40 rfl (by decide) p1 z40 (MW.yes 41 rfl (by decide) p1 z41 vm)))))⟩)
      · obtain ⟨p2, q2⟩ := flt_ok (k := 2) (by decide) p1
        refine ⟨flt 2 σ1, p2, q1.tr q2, ⟨fun b hb => by rw [o1.1 b hb]; rfl, fun A ls hs => Or.inr (flt_inr 2 σ1)⟩, w1.seq (CW.no 39 ctk_v.1.2.2.2.2.2.2.2.1 rfl z39 (CW.no 40 ctk_v.1.2.2.2.2.2.2.2.2.1 rfl z40 (CW.no 39 ctk_v.1.2.2.2.2.2.2.2.1 rfl z39 (CW.no 40 ctk_v.1.2.2.2.2.2.2.2.2.1 rfl z40 (CW.no 41 ctk_v.1.2.2.2.2.2.2.2.2.2.1 rfl z41 ((CW.fail 2 rfl p1).seq (CW.fin _))))))), v1.seq (MW.no 39 rfl (by decide) p1 z39 (MW.no 40 rfl (by decide) p1 z40 (MW.no 39 rfl (by decide) p1 z39 (MW.no 40 rfl (by decide) p1 z40 (MW.no 41 rfl (by decide) p1 z41 (MW.dead rgS p1 b1 3005))))))⟩
end units
