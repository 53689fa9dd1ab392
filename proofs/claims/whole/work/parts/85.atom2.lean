/-! L3, the two readers: atoms whole -/
section atoms
variable {F x m n may d : Nat} {tp : Nat → Nat}
theorem CW.step (hy : may < 2) {A : Nat} {ls : List Nat} {r : Nat} (hr : cod may tp n A = some r) (hc : ls.length < 900) {σ' : PS} {k b : Hp → Option (Unit × Hp)} (w : CW x n may tp k (addp r (.inl (A, ls))) σ') : CW x n may tp (fun h => cV 6 h (x + 9) (f_X5_stepOfToken F (x + 9) h) fun v h2 => if 0 ≤ v then (gR 6 h2 (x + 9) 9 fun v20 => cV 4 h2 v20 (f_X3_add F v20 v h2) fun _ h22 => k h22) else b h2) (.inl (A, ls)) σ' := fun h0 h hm c => by
  obtain ⟨e1, lt⟩ := C_step F hy hm c hr
  obtain ⟨h', e, c'⟩ := CW.add (F := F) (σ := .inl (A, ls)) r rfl hc w h0 h hm c
  refine ⟨h', ?_, c'⟩
  rw [← e]
  show (cV 6 h (x + 9) (f_X5_stepOfToken F (x + 9) h) fun v h2 => if 0 ≤ v then (gR 6 h2 (x + 9) 9 fun v20 => cV 4 h2 v20 (f_X3_add F v20 v h2) fun _ h22 => k h22) else b h2) = _
  rw [cV_n c.tg e1, if_pos (show (0 : Int32) ≤ nI (ccd r) from nI_le (a := 0) (Nat.zero_le _) (by omega))]
theorem CW.stepn (hy : may < 2) {σ σ' : PS} (hr : cods may tp n σ = none) {a b : Int32 → Hp → Option (Unit × Hp)} {k : Hp → Option (Unit × Hp)} (w : CW x n may tp k σ σ') : CW x n may tp (fun h => cV 6 h (x + 9) (f_X5_stepOfToken F (x + 9) h) fun v h2 => if 0 ≤ v then a v h2 else k h2) σ σ' := fun h0 h hm c => by
  obtain ⟨h', e, c'⟩ := w h0 h hm c
  refine ⟨h', ?_, c'⟩
  rw [← e]
  show (cV 6 h (x + 9) (f_X5_stepOfToken F (x + 9) h) fun v h2 => if 0 ≤ v then a v h2 else k h2) = _
  rw [cV_n c.tg (C_stepn F hy hm c hr), if_neg (show ¬ (0 : Int32) ≤ -1 by decide)]
theorem M_15 {g0 g : Hp} {σ : PS} (hm : hp_I g0 m 15 = nI may) (c : MM m n tp g0 g σ) : hp_I g m 15 = nI may := by rw [c.2.1.2.2.2.1 15 (by decide)]; exact hm
theorem MW.noword (hy : may < 2) {σ σ' : PS} (pk : Pok n tp σ) (hr : wcd may (kin tp n σ) = none) {a b : Hp → Option (Unit × Hp)} (w : MW m n may tp a σ σ') : MW m n may tp (fun h => gI 13 h m 11 fun v4 => if v4 = 0 then (gI 13 h m 9 fun v6 => cV 13 h m (f_X12_wordOf F m v6 h) fun v7 h8 => if v7 = (-1) then a h8 else b h8) else a h) σ σ' := fun h0 h hm c => by
  obtain ⟨h', e, c'⟩ := w h0 h hm c
  refine ⟨h', ?_, c'⟩
  rw [← e]
  show (gI 13 h m 11 fun v4 => if v4 = 0 then (gI 13 h m 9 fun v6 => cV 13 h m (f_X12_wordOf F m v6 h) fun v7 h8 => if v7 = (-1) then a h8 else b h8) else a h) = _
  have go : ∀ K, K < 42 → wcd may K = none → hp_I h m 9 = nI K → (gI 13 h m 9 fun v6 => cV 13 h m (f_X12_wordOf F m v6 h) fun v7 h8 => if v7 = (-1) then a h8 else b h8) = a h := fun K hK hw h9 => by
    have wv := word_v may hy K hK h F m c.tg (M_15 hm c)
    rw [hw] at wv
    rw [gI_n c.tg, h9, cV_n c.tg wv, if_pos rfl]
  have kl := kok_lt _ (kin_okm c)
  rw [gI_n c.tg]
  match σ with
  | .inl (A, ls) =>
    rw [c.2.2.2.1, if_pos rfl]
    exact go (tK tp n A) kl hr c.2.2.1.2.2.1
  | .inr (k, p, b) =>
    rcases c.2.2 with ⟨a1, a2⟩ | ⟨a1, a2, a3, ⟨b1, b2, b3, b4⟩, a5⟩
    · rw [a1, if_neg (nI_n0 k pk.2)]
    · rw [a1, if_pos rfl]
      exact go 25 (by decide) rfl (by rw [b3, a3])
theorem MW.word (hy : may < 2) {A r : Nat} {ls : List Nat} {σ' : PS} (pk : Pok n tp (.inl (A, ls))) (hr : wcd may (tK tp n A) = some r) (hc : ls.length < 900) {a k : Hp → Option (Unit × Hp)} (w : MW m n may tp k (addp r (.inl (A, ls))) σ') : MW m n may tp (fun h => gI 13 h m 11 fun v4 => if v4 = 0 then (gI 13 h m 9 fun v6 => cV 13 h m (f_X12_wordOf F m v6 h) fun v7 h8 => if v7 = (-1) then a h8 else (gI 13 h8 m 9 fun v30 => cV 13 h8 m (f_X12_wordOf F m v30 h8) fun v31 h32 => cV 13 h32 m (f_X12_codes F m (1000 + v31) h32) fun _ h34 => k h34)) else a h) (.inl (A, ls)) σ' := fun h0 h hm c => by
  have kl : tK tp n A < 42 := kok_lt _ (kin_okm c)
  obtain ⟨r1, r2, -⟩ := wcd_t hy kl hr
  obtain ⟨h', e, c'⟩ := (MW.codes (F := F) r (lit := 1000 + nI (r - 1000)) (by rw [show (1000 : Int32) + nI (r - 1000) = nI (1000 + (r - 1000)) from nI_add 1000 _, show 1000 + (r - 1000) = r by omega]) pk hc).seq w h0 h hm c
  refine ⟨h', ?_, c'⟩
  rw [← e]
  have wv := word_v may hy (tK tp n A) kl h F m c.tg (M_15 hm c)
  rw [hr] at wv
  have wv : f_X12_wordOf F m (nI (tK tp n A)) h = some (nI (r - 1000), h) := wv
  show (gI 13 h m 11 fun v4 => if v4 = 0 then (gI 13 h m 9 fun v6 => cV 13 h m (f_X12_wordOf F m v6 h) fun v7 h8 => if v7 = (-1) then a h8 else (gI 13 h8 m 9 fun v30 => cV 13 h8 m (f_X12_wordOf F m v30 h8) fun v31 h32 => cV 13 h32 m (f_X12_codes F m (1000 + v31) h32) fun _ h34 => k h34)) else a h) = _
  rw [gI_n c.tg, c.2.2.2.1, if_pos rfl, gI_n c.tg, c.2.2.1.2.2.1, cV_n c.tg wv, if_neg (fun y => nI_pos (show r - 1000 < 2 ^ 31 by omega) (by rw [y]; decide)), gI_n c.tg, c.2.2.1.2.2.1, cV_n c.tg wv]
theorem MW.num {A : Nat} {ls : List Nat} {σ' : PS} (pk : Pok n tp (.inl (A, ls))) (z : tK tp n A = 23) (hc : ls.length < 900) {k : Hp → Option (Unit × Hp)} (w : MW m n may tp k (addp (tN tp n A) (.inl (A, ls))) σ') : MW m n may tp (fun h => gI 13 h m 10 fun v => cV 13 h m (f_X12_codes F m v h) fun _ h39 => k h39) (.inl (A, ls)) σ' := fun h0 h hm c => by
  obtain ⟨h', e, c'⟩ := (MW.codes (F := F) (tN tp n A) rfl pk hc).seq w h0 h hm c
  refine ⟨h', ?_, c'⟩
  rw [← e]
  show (gI 13 h m 10 fun v => cV 13 h m (f_X12_codes F m v h) fun _ h39 => k h39) = _
  rw [gI_n c.tg, c.2.2.1.2.2.2 z]
theorem nx_out {A : Nat} {ls l : List Nat} {Q : List Nat → Prop} (pk : Pok n tp (.inl (A, ls ++ l))) (hA : A < n) (q : Q l) : (∃ A' l', nx tp n A (ls ++ l) = .inl (A', ls ++ l') ∧ A < A' ∧ Q l') ∨ ∃ b, nx tp n A (ls ++ l) = .inr b := by
  rcases nx_inl (tp := tp) (n := n) (A := A) (ls := ls ++ l) with ⟨A1, y⟩ | ⟨b, y⟩
  · have := (nx_ok pk).2.2.2 hA
    rw [y] at this
    exact Or.inl ⟨A1, l, y, this, q⟩
  · exact Or.inr ⟨b, y⟩
theorem inl_i {A A' : Nat} {ls ls' : List Nat} (h : (Sum.inl (A, ls) : PS) = .inl (A', ls')) : A = A' ∧ ls = ls' := by
  injection h with h
  injection h with y1 y2
  exact ⟨y1, y2⟩
/-- taking a closing token after σ2 -/
theorem tkn_out {K A : Nat} {ls : List Nat} {Q Q' : List Nat → Prop} (hQ : ∀ l, Q' l → Q l) {σ2 : PS} (h : (∃ A' l, σ2 = .inl (A', ls ++ l) ∧ A < A' ∧ Q' l) ∨ ∃ b, σ2 = .inr b) (p2 : Pok n tp σ2) : (∃ A' l, tkn tp n K σ2 = .inl (A', ls ++ l) ∧ A < A' ∧ Q l) ∨ ∃ b, tkn tp n K σ2 = .inr b := by
  rcases h with ⟨A2, l, y1, y2, y3⟩ | ⟨b, y⟩
  · subst y1
    by_cases z : tK tp n A2 = K
    · rw [tkn_y z]
      have le := (nx_ok p2).2.1.1
      rcases nx_inl (tp := tp) (n := n) (A := A2) (ls := ls ++ l) with ⟨A1, u⟩ | ⟨b, u⟩
      · rw [u] at le
        have le : A2 ≤ A1 := le
        exact Or.inl ⟨A1, l, u, by omega, hQ l y3⟩
      · exact Or.inr ⟨b, u⟩
    · exact Or.inr ⟨_, if_neg z⟩
  · rw [y]; exact Or.inr ⟨b, rfl⟩
theorem RG_atom (hF : 2000 ≤ F) (n9 : n ≤ 900) (hy : may < 2) (hd : d ≤ 6) {Rc Rm : Nat → Nat → Int32 → Hp → Option (Unit × Hp)} {Q QS : List Nat → Prop}
    (tl : ∀ j, j < n → tp j < 256)
    (rgS : d < 6 → RG x m n may tp (fun h => Rc 4 (x + 9) (nI d + 1) h) (fun g => Rm 3 m (nI d + 1) g) QS) (hQS : d < 6 → ∀ l, QS l → Q l)
    (rgI : ∀ A ls, Pok n tp (.inl (A, ls)) → ls.length ≤ A → tK tp n A = 11 → ∃ σ', Pok n tp σ' ∧ Le (.inl (A, ls)) σ' ∧ Out Q (.inl (A, ls)) σ' ∧ CW x n may tp (fun h => cV 6 h (x + 9) (f_X5_opens F (x + 9) (nI d) h) fun v h13 => if v = 0 then some ((), h13) else cV 6 h13 (x + 9) (Rc 2 (x + 9) (nI d + 1) h13) fun _ h16 => some ((), h16)) (.inl (A, ls)) σ' ∧ MW m n may tp (fun g => Rm 2 m (nI d) g) (.inl (A, ls)) σ')
    (hQ : ∀ r, (r < 1000 ∨ (1000 ≤ r ∧ r < 1006 ∧ (may = 1 → r ≠ 1005))) → Q [r]) : RG x m n may tp (fun h => f_X5_atom_w F Rc (x + 9) (nI d) h) (fun g => f_X12_readAtom_w F Rm m (nI d) g) Q := fun σ pk cb => by
  by_cases z35 : kin tp n σ = 35
  · obtain ⟨A, ls, rfl, -⟩ := kin_inl (show kin tp n σ ≠ 25 by rw [z35]; decide)
    have z : tK tp n A = 35 := z35
    have hA := tK_lt (show tK tp n A ≠ 24 by rw [z]; decide)
    have cb : ls.length ≤ A := cb
    have w0 : wcd may (kin tp n (.inl (A, ls))) = none := by rw [z35]; rfl
    by_cases d6 : d < 6
    · obtain ⟨p1, q1, c1, a1⟩ := nx_ok pk
      have a1 := a1 hA
      obtain ⟨σ2, p2, q2, o2, w2, v2⟩ := rgS d6 _ p1 (q1.cb cb)
      obtain ⟨p3, q3, c3⟩ := tkn_ok (K := 36) p2
      refine ⟨tkn tp n 36 σ2, p3, (q1.tr q2).tr q3, ⟨fun b hb => absurd hb (fun y => by injection y), fun A0 l0 h0 => ?_⟩, CW.yes 35 ctk_v.1.2.2.2.1 rfl z35 (CW.opens hF d6 pk (w2.seq ((CW.take hF 36 ctk_v.1.2.2.2.2.1 (by decide) p2).seq (CW.fin _)))), MW.no 23 rfl (by decide) pk (by rw [z35]; decide) (MW.noword hy pk w0 (MW.yes 35 rfl (by decide) pk z35 (MW.opens hF d6 pk (v2.seq (MW.take hF 36 rfl (by decide) p2 (MW.fin _))))))⟩
      obtain ⟨rfl, rfl⟩ := inl_i h0
      refine tkn_out (hQS d6) ?_ p2
      rcases nx_inl (tp := tp) (n := n) (A := A) (ls := ls) with ⟨A1, y⟩ | ⟨b, y⟩
      · rw [y] at a1
        have a1 : A < A1 := a1
        rcases o2.2 A1 _ y with ⟨A2, l', y2, y3, y4⟩ | ⟨b, y2⟩
        · exact Or.inl ⟨A2, l', y2, by omega, y4⟩
        · exact Or.inr ⟨b, y2⟩
      · exact Or.inr ⟨b, o2.1 b y⟩
    · obtain rfl : d = 6 := by omega
      exact ⟨.inr (4, A, ls.length), ⟨pk.1, show 0 < 4 ∧ 4 < 5 by decide⟩, ⟨Nat.le_refl _, Nat.le_refl _⟩, ⟨fun b hb => absurd hb (fun y => by injection y), fun _ _ _ => Or.inr ⟨_, rfl⟩⟩, CW.yes 35 ctk_v.1.2.2.2.1 rfl z35 (CW.shut hF pk), MW.no 23 rfl (by decide) pk (by rw [z35]; decide) (MW.noword hy pk w0 (MW.yes 35 rfl (by decide) pk z35 (MW.shut hF pk)))⟩
  · by_cases z11 : kin tp n σ = 11
    · obtain ⟨A, ls, rfl, -⟩ := kin_inl (show kin tp n σ ≠ 25 by rw [z11]; decide)
      have z : tK tp n A = 11 := z11
      have w0 : wcd may (kin tp n (.inl (A, ls))) = none := by rw [z11]; rfl
      obtain ⟨σ', p', q', o', w', v'⟩ := rgI A ls pk cb z
      exact ⟨σ', p', q', o', CW.no 35 ctk_v.1.2.2.2.1 rfl z35 (CW.yes 11 ctk_v.2.2.2.2.1 rfl z11 w'), MW.no 23 rfl (by decide) pk (by rw [z11]; decide) (MW.noword hy pk w0 (MW.no 35 rfl (by decide) pk z35 (MW.yes 11 rfl (by decide) pk z11 (v'.seq (MW.fin _)))))⟩
    · cases hc : cods may tp n σ with
      | none =>
        obtain ⟨y1, y2⟩ := cods_n hc
        obtain ⟨p1, q1⟩ := flt_ok (k := 2) (by decide) pk
        refine ⟨flt 2 σ, p1, q1, ⟨fun b hb => by rw [hb]; rfl, fun A ls hA => Or.inr (by rw [hA]; exact ⟨_, rfl⟩)⟩, CW.no 35 ctk_v.1.2.2.2.1 rfl z35 (CW.no 11 ctk_v.2.2.2.2.1 rfl z11 (CW.stepn hy hc (b := fun _ h => some ((), h)) ((CW.fail 2 rfl pk).seq (CW.fin _)))), MW.no 23 rfl (by decide) pk y1 (MW.noword hy pk y2 (MW.no 35 rfl (by decide) pk z35 (MW.no 11 rfl (by decide) pk z11 ((MW.fail 2 rfl (by decide) pk).seq (MW.fin _)))))⟩
      | some r =>
        match σ with
        | .inr b => injection hc
        | .inl (A, ls) =>
          have hc : cod may tp n A = some r := hc
          have cb : ls.length ≤ A := cb
          have kl : tK tp n A < 42 := kok_lt _ (tK_ok tl)
          have pk' : Pok n tp (.inl (A, ls ++ [r])) := pk
          have fin : A < n → (r < 1000 ∨ (1000 ≤ r ∧ r < 1006 ∧ (may = 1 → r ≠ 1005))) → MW m n may tp (fun g => f_X12_readAtom_w F Rm m (nI d) g) (.inl (A, ls)) (nx tp n A (ls ++ [r])) → ∃ σ', Pok n tp σ' ∧ Le (.inl (A, ls)) σ' ∧ Out Q (.inl (A, ls)) σ' ∧ CW x n may tp (fun h => f_X5_atom_w F Rc (x + 9) (nI d) h) (.inl (A, ls)) σ' ∧ MW m n may tp (fun g => f_X12_readAtom_w F Rm m (nI d) g) (.inl (A, ls)) σ' := fun hA hr v => by
            obtain ⟨p1, q1, c1, a1⟩ := nx_ok pk'
            have a1 := a1 hA
            rw [List.length_append] at c1
            have c1 : cnt (nx tp n A (ls ++ [r])) = ls.length + 1 := c1
            refine ⟨nx tp n A (ls ++ [r]), p1, ⟨show A ≤ _ by omega, show cnt _ + A ≤ ls.length + _ by omega⟩, ⟨fun b hb => absurd hb (fun y => by injection y), fun A0 l0 h0 => ?_⟩, CW.no 35 ctk_v.1.2.2.2.1 rfl z35 (CW.no 11 ctk_v.2.2.2.2.1 rfl z11 (CW.step hy hc (by omega) ((CW.adv hF pk').seq (CW.fin _)))), v⟩
            obtain ⟨rfl, rfl⟩ := inl_i h0
            exact nx_out pk' hA (hQ r hr)
          by_cases z : tK tp n A = 23
          · have hA := tK_lt (show tK tp n A ≠ 24 by rw [z]; decide)
            have er : tN tp n A = r := by
              unfold cod at hc
              rw [if_pos z] at hc
              injection hc
            subst er
            exact fin hA (Or.inl (tN_lt z tl)) (MW.yes 23 rfl (by decide) pk z (MW.num pk z (by omega) ((MW.adv hF pk').seq (MW.fin _))))
          · have hw : wcd may (tK tp n A) = some r := by
              unfold cod at hc
              rw [if_neg z] at hc
              exact hc
            obtain ⟨r1, r2, r3, r4, r5, r6, r7, r8⟩ := wcd_t hy kl hw
            have hA := tK_lt r6
            exact fin hA (Or.inr ⟨r1, r2, r8⟩) (MW.no 23 rfl (by decide) pk z (MW.word hy pk hw (by omega) ((MW.adv hF pk').seq (MW.fin _))))
end atoms
