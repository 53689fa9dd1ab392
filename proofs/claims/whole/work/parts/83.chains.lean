/-! L3, the two readers: terms, sums, both, truths -/
theorem ctk_v : (ctk 34 = 42 ∧ ctk 32 = 43 ∧ ctk 33 = 45 ∧ ctk 35 = 40 ∧ ctk 36 = 41 ∧ ctk 37 = 91 ∧ ctk 38 = 93 ∧ ctk 39 = 61 ∧ ctk 40 = 60 ∧ ctk 41 = 62 ∧ ctk 30 = 59 ∧ ctk 31 = 58) ∧ (ctk 18 = 219 ∧ ctk 19 = 218 ∧ ctk 20 = 220 ∧ ctk 11 = 211 ∧ ctk 12 = 212 ∧ ctk 13 = 213 ∧ ctk 14 = 214 ∧ ctk 15 = 215 ∧ ctk 16 = 216 ∧ ctk 17 = 217 ∧ ctk 1 = 201 ∧ ctk 2 = 207 ∧ ctk 7 = 203 ∧ ctk 23 = 2 ∧ ctk 24 = 0) := by decide +kernel
section chains2
variable {F x m n may d : Nat} {tp : Nat → Nat}
theorem CW.len {σ : PS} {a : Hp → Option (Unit × Hp)} (l2 : Int32) (w : CW x n may tp a σ σ) : CW x n may tp (fun h => gI 6 h (x + 9) 3 fun v => if v ≤ l2 then some ((), h) else a h) σ σ := fun h0 h hm c => by
  show ∃ h', (gI 6 h (x + 9) 3 fun v => if v ≤ l2 then some ((), h) else a h) = _ ∧ _
  rw [gI_n c.tg]
  by_cases z : hp_I h (x + 9) 3 ≤ l2
  · rw [if_pos z]; exact ⟨h, rfl, c⟩
  · rw [if_neg z]; exact w h0 h hm c
theorem CW.lenk {σ σ' : PS} {a b : Hp → Option (Unit × Hp)} {l2 : Nat} (hl : l2 < n) (w : CW x n may tp a σ σ') : CW x n may tp (fun h => gI 6 h (x + 9) 3 fun v => if v ≤ nI l2 then b h else a h) σ σ' := fun h0 h hm c => by
  obtain ⟨h', e, c'⟩ := w h0 h hm c
  refine ⟨h', ?_, c'⟩
  have := c.2.1.2.2.1.2
  show (gI 6 h (x + 9) 3 fun v => if v ≤ nI l2 then b h else a h) = _
  rw [c.2.1.g3, if_neg (nI_ge hl (by omega))]
  exact e
theorem MW.kdy (K : Nat) {lit : Int32} (hl : nI K = lit) {A : Nat} {ls : List Nat} {σ' : PS} {a b : Hp → Option (Unit × Hp)} (z : tK tp n A = K) (w : MW m n may tp a (.inl (A, ls)) σ') : MW m n may tp (fun h => gI 13 h m 9 fun v => if v = lit then a h else b h) (.inl (A, ls)) σ' := fun h0 h hm c => by
  obtain ⟨h', e, c'⟩ := w h0 h hm c
  refine ⟨h', ?_, c'⟩
  show (gI 13 h m 9 fun v => if v = lit then a h else b h) = _
  rw [gI_n c.tg, c.2.2.1.2.2.1, z, hl, if_pos rfl]
  exact e
theorem MW.kdn (K : Nat) {lit : Int32} (hl : nI K = lit) (hK : K < 42) {A : Nat} {ls : List Nat} {σ' : PS} {a b : Hp → Option (Unit × Hp)} (z : tK tp n A ≠ K) (w : MW m n may tp b (.inl (A, ls)) σ') : MW m n may tp (fun h => gI 13 h m 9 fun v => if v = lit then a h else b h) (.inl (A, ls)) σ' := fun h0 h hm c => by
  obtain ⟨h', e, c'⟩ := w h0 h hm c
  refine ⟨h', ?_, c'⟩
  have l1 : tK tp n A < 42 := kok_lt _ (kin_okm c)
  show (gI 13 h m 9 fun v => if v = lit then a h else b h) = _
  rw [gI_n c.tg, c.2.2.1.2.2.1, ← hl, if_neg (fun y => z (nI_inj (by omega) (by omega) y))]
  exact e
theorem tkn_y {K A : Nat} {ls : List Nat} (z : tK tp n A = K) : tkn tp n K (.inl (A, ls)) = nx tp n A ls := if_pos z
def op1 (K0 r0 : Nat) (K : Nat) : Option Nat := if K = K0 then some r0 else none
theorem op1_s {K0 r0 K r : Nat} (h : op1 K0 r0 K = some r) : K = K0 ∧ r = r0 := by
  unfold op1 at h
  by_cases z : K = K0
  · rw [if_pos z] at h; injection h with h; exact ⟨z, h.symm⟩
  · rw [if_neg z] at h; exact absurd h (by intro y; injection y)
theorem op1_n {K0 r0 K : Nat} (h : op1 K0 r0 K = none) : K ≠ K0 := by
  intro z
  unfold op1 at h
  rw [if_pos z] at h
  injection h
theorem RG_term (hF : 2000 ≤ F) (n9 : n ≤ 900) {Rc Rm : Nat → Nat → Int32 → Hp → Option (Unit × Hp)} {Q Q' : List Nat → Prop} (rg : RG x m n may tp (fun h => Rc 0 (x + 9) (nI d) h) (fun g => Rm 0 m (nI d) g) Q') (hQ : ∀ l l', Q l → Q' l' → Q (l ++ l' ++ [3002])) (hQ1 : ∀ l, Q' l → Q l) : RG x m n may tp (fun h => f_X5_term_w F Rc (x + 9) (nI d) h) (fun g => f_X12_readTerm_w F Rm m (nI d) g) Q :=
  RG.chain (op := op1 34 3002) n9 (fun K r h => by rw [(op1_s h).1]; decide) (L := fun k l2 h => f_X5_term_7 F Rc k (x + 9) (nI d) l2 h) (LM := fun k h => f_X12_readTerm_5 F Rm k m (nI d) h) rg (fun K r h l l' q q' => by rw [(op1_s h).2]; exact hQ l l' q q') hQ1
    (fun σ pk z k l2 => CW.len l2 (CW.no 34 ctk_v.1.1 rfl (op1_n z) (CW.fin σ)))
    (fun σ pk z k => MW.eatn hF 34 rfl (by decide) pk (op1_n z) (MW.fin σ))
    (fun A ls r pk h k l2 hl hA σ2 σ3 w2 hc w3 => by
      obtain ⟨z, rfl⟩ := op1_s h
      rw [← nI_1] at w3
      exact CW.lenk (by omega) (CW.yes 34 ctk_v.1.1 rfl (show kin tp n (.inl (A, ls)) = 34 from z) ((CW.adv hF pk).seq (w2.seq (CW.add 3002 rfl hc w3)))))
    (fun A ls r pk h k σ2 σ3 v2 p2 hc v3 => by
      obtain ⟨z, rfl⟩ := op1_s h
      exact MW.eat hF 34 rfl (by decide) pk z (by rw [tkn_y z]; exact v2.seq ((MW.codes 3002 rfl p2 hc).seq v3)))
    (kc := F) (km := F) ⟨by omega, by omega⟩
theorem RG_both (hF : 2000 ≤ F) (n9 : n ≤ 900) {Rc Rm : Nat → Nat → Int32 → Hp → Option (Unit × Hp)} {Q Q' : List Nat → Prop} (rg : RG x m n may tp (fun h => Rc 7 (x + 9) (nI d) h) (fun g => Rm 6 m (nI d) g) Q') (hQ : ∀ l l', Q l → Q' l' → Q (l ++ l' ++ [3007])) (hQ1 : ∀ l, Q' l → Q l) : RG x m n may tp (fun h => f_X5_both_w F Rc (x + 9) (nI d) h) (fun g => f_X12_readBoth_w F Rm m (nI d) g) Q :=
  RG.chain (op := op1 18 3007) n9 (fun K r h => by rw [(op1_s h).1]; decide) (L := fun k l2 h => f_X5_both_7 F Rc k (x + 9) (nI d) l2 h) (LM := fun k h => f_X12_readBoth_5 F Rm k m (nI d) h) rg (fun K r h l l' q q' => by rw [(op1_s h).2]; exact hQ l l' q q') hQ1
    (fun σ pk z k l2 => CW.len l2 (CW.no 18 ctk_v.2.1 rfl (op1_n z) (CW.fin σ)))
    (fun σ pk z k => MW.eatn hF 18 rfl (by decide) pk (op1_n z) (MW.fin σ))
    (fun A ls r pk h k l2 hl hA σ2 σ3 w2 hc w3 => by
      obtain ⟨z, rfl⟩ := op1_s h
      rw [← nI_1] at w3
      exact CW.lenk (by omega) (CW.yes 18 ctk_v.2.1 rfl (show kin tp n (.inl (A, ls)) = 18 from z) ((CW.adv hF pk).seq (w2.seq (CW.add 3007 rfl hc w3)))))
    (fun A ls r pk h k σ2 σ3 v2 p2 hc v3 => by
      obtain ⟨z, rfl⟩ := op1_s h
      exact MW.eat hF 18 rfl (by decide) pk z (by rw [tkn_y z]; exact v2.seq ((MW.codes 3007 rfl p2 hc).seq v3)))
    (kc := F) (km := F) ⟨by omega, by omega⟩
theorem RG_truth (hF : 2000 ≤ F) (n9 : n ≤ 900) {Rc Rm : Nat → Nat → Int32 → Hp → Option (Unit × Hp)} {Q Q' : List Nat → Prop} (rg : RG x m n may tp (fun h => Rc 1 (x + 9) (nI d) h) (fun g => Rm 1 m (nI d) g) Q') (hQ : ∀ l l', Q l → Q' l' → Q (l ++ l' ++ [3008])) (hQ1 : ∀ l, Q' l → Q l) : RG x m n may tp (fun h => f_X5_truth_w F Rc (x + 9) (nI d) h) (fun g => f_X12_readTruth_w F Rm m (nI d) g) Q :=
  RG.chain (op := op1 19 3008) n9 (fun K r h => by rw [(op1_s h).1]; decide) (L := fun k l2 h => f_X5_truth_7 F Rc k (x + 9) (nI d) l2 h) (LM := fun k h => f_X12_readTruth_5 F Rm k m (nI d) h) rg (fun K r h l l' q q' => by rw [(op1_s h).2]; exact hQ l l' q q') hQ1
    (fun σ pk z k l2 => CW.len l2 (CW.no 19 ctk_v.2.2.1 rfl (op1_n z) (CW.fin σ)))
    (fun σ pk z k => MW.eatn hF 19 rfl (by decide) pk (op1_n z) (MW.fin σ))
    (fun A ls r pk h k l2 hl hA σ2 σ3 w2 hc w3 => by
      obtain ⟨z, rfl⟩ := op1_s h
      rw [← nI_1] at w3
      exact CW.lenk (by omega) (CW.yes 19 ctk_v.2.2.1 rfl (show kin tp n (.inl (A, ls)) = 19 from z) ((CW.adv hF pk).seq (w2.seq (CW.add 3008 rfl hc w3)))))
    (fun A ls r pk h k σ2 σ3 v2 p2 hc v3 => by
      obtain ⟨z, rfl⟩ := op1_s h
      exact MW.eat hF 19 rfl (by decide) pk z (by rw [tkn_y z]; exact v2.seq ((MW.codes 3008 rfl p2 hc).seq v3)))
    (kc := F) (km := F) ⟨by omega, by omega⟩
def op2 (K : Nat) : Option Nat := if K = 32 then some 3000 else if K = 33 then some 3001 else none
theorem op2_s {K r : Nat} (h : op2 K = some r) : (K = 32 ∧ r = 3000) ∨ (K = 33 ∧ r = 3001) := by
  unfold op2 at h
  by_cases z : K = 32
  · rw [if_pos z] at h; injection h with h; exact Or.inl ⟨z, h.symm⟩
  · rw [if_neg z] at h
    by_cases y : K = 33
    · rw [if_pos y] at h; injection h with h; exact Or.inr ⟨y, h.symm⟩
    · rw [if_neg y] at h; exact absurd h (by intro y; injection y)
theorem op2_n {K : Nat} (h : op2 K = none) : K ≠ 32 ∧ K ≠ 33 := by
  unfold op2 at h
  by_cases z : K = 32
  · rw [if_pos z] at h; injection h
  · rw [if_neg z] at h
    by_cases y : K = 33
    · rw [if_pos y] at h; injection h
    · exact ⟨z, y⟩
theorem RG_sum (hF : 2000 ≤ F) (n9 : n ≤ 900) {Rc Rm : Nat → Nat → Int32 → Hp → Option (Unit × Hp)} {Q Q' : List Nat → Prop} (rg : RG x m n may tp (fun h => Rc 5 (x + 9) (nI d) h) (fun g => Rm 4 m (nI d) g) Q') (hQ : ∀ l l', Q l → Q' l' → Q (l ++ l' ++ [3000]) ∧ Q (l ++ l' ++ [3001])) (hQ1 : ∀ l, Q' l → Q l) : RG x m n may tp (fun h => f_X5_sum_w F Rc (x + 9) (nI d) h) (fun g => f_X12_readSum_w F Rm m (nI d) g) Q :=
  RG.chain (op := op2) n9 (fun K r h => by rcases op2_s h with z | z <;> (rw [z.1]; decide)) (L := fun k l2 h => f_X5_sum_7 F Rc k (x + 9) (nI d) l2 h) (LM := fun k h => f_X12_readSum_5 F Rm k m (nI d) h) rg (fun K r h l l' q q' => by
      rcases op2_s h with ⟨-, rfl⟩ | ⟨-, rfl⟩
      · exact (hQ l l' q q').1
      · exact (hQ l l' q q').2) hQ1
    (fun σ pk z k l2 => CW.len l2 (CW.no 32 ctk_v.1.2.1 rfl (op2_n z).1 (CW.no 33 ctk_v.1.2.2.1 rfl (op2_n z).2 (CW.fin σ))))
    (fun σ pk z k => MW.no 32 rfl (by decide) pk (op2_n z).1 (MW.no 33 rfl (by decide) pk (op2_n z).2 (MW.fin σ)))
    (fun A ls r pk h k l2 hl hA σ2 σ3 w2 hc w3 => by
      rw [← nI_1] at w3
      rcases op2_s h with ⟨z, rfl⟩ | ⟨z, rfl⟩
      · exact CW.lenk (by omega) (CW.yes 32 ctk_v.1.2.1 rfl (show kin tp n (.inl (A, ls)) = 32 from z) (CW.yes 32 ctk_v.1.2.1 rfl (show kin tp n (.inl (A, ls)) = 32 from z) ((CW.adv hF pk).seq (w2.seq (CW.add 3000 rfl hc w3)))))
      · have zn : kin tp n (.inl (A, ls)) ≠ 32 := fun y => by have y : tK tp n A = 32 := y; omega
        exact CW.lenk (by omega) (CW.no 32 ctk_v.1.2.1 rfl zn (CW.yes 33 ctk_v.1.2.2.1 rfl (show kin tp n (.inl (A, ls)) = 33 from z) (CW.no 32 ctk_v.1.2.1 rfl zn ((CW.adv hF pk).seq (w2.seq (CW.add 3001 rfl hc w3)))))))
    (fun A ls r pk h k σ2 σ3 v2 p2 hc v3 => by
      rcases op2_s h with ⟨z, rfl⟩ | ⟨z, rfl⟩
      · exact MW.yes 32 rfl (by decide) pk z (MW.kdy 32 rfl z ((MW.adv hF pk).seq (v2.seq ((MW.codes 3000 rfl p2 hc).seq v3))))
      · have zn : tK tp n A ≠ 32 := fun y => by omega
        exact MW.no 32 rfl (by decide) pk zn (MW.yes 33 rfl (by decide) pk z (MW.kdn 32 rfl (by decide) zn ((MW.adv hF pk).seq (v2.seq ((MW.codes 3001 rfl p2 hc).seq v3))))))
    (kc := F) (km := F) ⟨by omega, by omega⟩
end chains2
