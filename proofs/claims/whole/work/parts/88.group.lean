/-! L3, the two readers: units whole; all of it -/
section group
variable {F x m n may : Nat} {tp : Nat → Nat}
theorem RG_unit {d : Nat} (hF : 2000 ≤ F) (n9 : n ≤ 900) (hd : d ≤ 6) {Rc Rm : Nat → Nat → Int32 → Hp → Option (Unit × Hp)} {Q QU QT QC : List Nat → Prop}
    (rgU : d < 6 → RG x m n may tp (fun h => Rc 7 (x + 9) (nI d + 1) h) (fun g => Rm 6 m (nI d + 1) g) QU)
    (rgT : d < 6 → RG x m n may tp (fun h => Rc 6 (x + 9) (nI d + 1) h) (fun g => Rm 5 m (nI d + 1) g) QT)
    (rgC : RG x m n may tp (fun h => Rc 3 (x + 9) (nI d) h) (fun g => cV 13 g m (Rm 3 m (nI d) g) fun _ h8 => cV 13 h8 m (f_X12_is F m 39 h8) fun v9 h10 => if v9 = 0 then (cV 13 h10 m (f_X12_is F m 40 h10) fun v12 h13 => if v12 = 0 then (f_X12_readUnit_111 F Rm m (nI d) 3005 h13) else (f_X12_readUnit_111 F Rm m (nI d) 3004 h13)) else (f_X12_readUnit_111 F Rm m (nI d) 3003 h10)) Q)
    (hU : d < 6 → ∀ l, QU l → Q (l ++ [3006])) (hT : d < 6 → ∀ l, QT l → Q l) : RG x m n may tp (fun h => f_X5_unit_w F Rc (x + 9) (nI d) h) (fun g => f_X12_readUnit_w F Rm m (nI d) g) Q := fun σ pk cb => by
  by_cases z20 : kin tp n σ = 20
  · obtain ⟨A, ls, rfl, -⟩ := kin_inl (show kin tp n σ ≠ 25 by rw [z20]; decide)
    have z : tK tp n A = 20 := z20
    have hA := tK_lt (show tK tp n A ≠ 24 by rw [z]; decide)
    by_cases d6 : d < 6
    · obtain ⟨p1, q1, c1, a1⟩ := nx_ok pk
      have a1 := a1 hA
      obtain ⟨σ2, p2, q2, o2, w2, v2⟩ := rgU d6 _ p1 (q1.cb cb)
      obtain ⟨qa, qb⟩ := q2
      have b2 : ls.length ≤ A := cb
      have p2n := p2.1
      have ok := addp_ok (r := 3006) p2
      have lt : cnt σ2 < 900 := by omega
      refine ⟨addp 3006 σ2, ok.1, ⟨?_, ?_⟩, ?_, CW.yes 20 ctk_v.2.2.2.1 rfl z20 (CW.opens hF d6 pk (w2.seq (CW.add 3006 rfl lt (CW.fin _)))), MW.yes 20 rfl (by decide) pk z20 (MW.opens hF d6 pk (v2.seq ((MW.codes 3006 rfl p2 lt).seq (MW.fin _))))⟩
      · rw [ok.2.1]; show A ≤ _; omega
      · rw [ok.2.1, ok.2.2.1]; show _ + A ≤ ls.length + _; omega
      · refine (Lo.mono (((Lo.nx pk hA).seq o2).add 3006) ?_).out
        rintro l ⟨a, rfl, u, b, rfl, rfl, t⟩
        exact hU d6 b t
    · obtain rfl : d = 6 := by omega
      exact ⟨.inr (4, A, ls.length), ⟨pk.1, show 0 < 4 ∧ 4 < 5 by decide⟩, ⟨Nat.le_refl _, Nat.le_refl _⟩, ⟨fun b hb => absurd hb (fun y => by injection y), fun _ _ _ => Or.inr ⟨_, rfl⟩⟩, CW.yes 20 ctk_v.2.2.2.1 rfl z20 (CW.shut hF pk), MW.yes 20 rfl (by decide) pk z20 (MW.shut hF pk)⟩
  · by_cases z37 : kin tp n σ = 37
    · obtain ⟨A, ls, rfl, -⟩ := kin_inl (show kin tp n σ ≠ 25 by rw [z37]; decide)
      have z : tK tp n A = 37 := z37
      have hA := tK_lt (show tK tp n A ≠ 24 by rw [z]; decide)
      by_cases d6 : d < 6
      · obtain ⟨p1, q1, c1, a1⟩ := nx_ok pk
        obtain ⟨σ2, p2, q2, o2, w2, v2⟩ := rgT d6 _ p1 (q1.cb cb)
        obtain ⟨p3, q3, c3⟩ := tkn_ok (K := 38) p2
        refine ⟨tkn tp n 38 σ2, p3, (q1.tr q2).tr q3, ?_, CW.no 20 ctk_v.2.2.2.1 rfl z20 (CW.yes 37 ctk_v.1.2.2.2.2.2.1 rfl z37 (CW.opens hF d6 pk (w2.seq ((CW.take hF 38 ctk_v.1.2.2.2.2.2.2.1 (by decide) p2).seq (CW.fin _))))), MW.no 20 rfl (by decide) pk z20 (MW.yes 37 rfl (by decide) pk z37 (MW.opens hF d6 pk (v2.seq (MW.take hF 38 rfl (by decide) p2 (MW.fin _)))))⟩
        refine (Lo.mono (((Lo.nx pk hA).seq o2).tkn p2 38) ?_).out
        rintro l ⟨a, b, rfl, rfl, t⟩
        exact hT d6 b t
      · obtain rfl : d = 6 := by omega
        exact ⟨.inr (4, A, ls.length), ⟨pk.1, show 0 < 4 ∧ 4 < 5 by decide⟩, ⟨Nat.le_refl _, Nat.le_refl _⟩, ⟨fun b hb => absurd hb (fun y => by injection y), fun _ _ _ => Or.inr ⟨_, rfl⟩⟩, CW.no 20 ctk_v.2.2.2.1 rfl z20 (CW.yes 37 ctk_v.1.2.2.2.2.2.1 rfl z37 (CW.shut hF pk)), MW.no 20 rfl (by decide) pk z20 (MW.yes 37 rfl (by decide) pk z37 (MW.shut hF pk))⟩
    · obtain ⟨σ', p', q', o', w', v'⟩ := rgC σ pk cb
      exact ⟨σ', p', q', o', CW.no 20 ctk_v.2.2.2.1 rfl z20 (CW.no 37 ctk_v.1.2.2.2.2.2.1 rfl z37 (w'.seq (CW.fin _))), MW.no 20 rfl (by decide) pk z20 (MW.no 37 rfl (by decide) pk z37 v')⟩
/-- what the codes of an expression are closed under -/
def Cls (may : Nat) (P : Nat → Nat → List Nat → Prop) : Prop :=
  ((∀ d r, d ≤ 6 → (r < 1000 ∨ (1000 ≤ r ∧ r < 1006 ∧ (may = 1 → r ≠ 1005))) → P 0 d [r]) ∧ (∀ d l, d < 6 → P 3 (d + 1) l → P 0 d l) ∧ (∀ d t a b, d < 6 → P 5 (d + 1) t → P 3 (d + 1) a → P 3 (d + 1) b → P 0 d (t ++ a ++ b ++ [3009]))) ∧
  ((∀ d l, d ≤ 6 → P 0 d l → P 4 d l) ∧ (∀ d l l', d ≤ 6 → P 4 d l → P 0 d l' → P 4 d (l ++ l' ++ [3002])) ∧ (∀ d l, d ≤ 6 → P 4 d l → P 3 d l) ∧ (∀ d l l', d ≤ 6 → P 3 d l → P 4 d l' → P 3 d (l ++ l' ++ [3000]) ∧ P 3 d (l ++ l' ++ [3001]))) ∧
  ((∀ d o a b, d ≤ 6 → o < 3 → P 3 d a → P 3 d b → P 6 d (a ++ b ++ [3003 + o])) ∧ (∀ d l, d < 6 → P 6 (d + 1) l → P 6 d (l ++ [3006])) ∧ (∀ d l, d < 6 → P 5 (d + 1) l → P 6 d l)) ∧
  (∀ d l, d ≤ 6 → P 6 d l → P 1 d l) ∧ (∀ d l l', d ≤ 6 → P 1 d l → P 6 d l' → P 1 d (l ++ l' ++ [3007])) ∧ (∀ d l, d ≤ 6 → P 1 d l → P 5 d l) ∧ (∀ d l l', d ≤ 6 → P 5 d l → P 1 d l' → P 5 d (l ++ l' ++ [3008]))
def RGw (F x m n may : Nat) (tp : Nat → Nat) (P : Nat → Nat → List Nat → Prop) (wc wm d k : Nat) : Prop := ∀ Dc Dm, k ≤ Dc → k ≤ Dm → RG x m n may tp (fun h => f_grp_X5_atom F Dc wc (x + 9) (nI d) h) (fun g => f_grp_X12_readAtom F Dm wm m (nI d) g) (P wm d)
theorem grp (hF : 2000 ≤ F) (n9 : n ≤ 900) (hy : may < 2) (tl : ∀ j, j < n → tp j < 256) {P : Nat → Nat → List Nat → Prop} (cp : Cls may P) : ∀ e d, d + e = 6 → RGw F x m n may tp P 0 0 d (2 + 8 * e) ∧ RGw F x m n may tp P 5 4 d (3 + 8 * e) ∧ RGw F x m n may tp P 4 3 d (4 + 8 * e) ∧ RGw F x m n may tp P 7 6 d (6 + 8 * e) ∧ RGw F x m n may tp P 1 1 d (7 + 8 * e) ∧ RGw F x m n may tp P 6 5 d (8 + 8 * e) := by
  obtain ⟨⟨k1, k2, k3⟩, ⟨k4, k5, k6, k7⟩, ⟨k8, k9, k10⟩, k11, k12, k13, k14⟩ := cp
  have step : ∀ e d, d + e = 6 → (d < 6 → ∃ e', e = e' + 1 ∧ RGw F x m n may tp P 4 3 (d + 1) (4 + 8 * e') ∧ RGw F x m n may tp P 7 6 (d + 1) (6 + 8 * e') ∧ RGw F x m n may tp P 6 5 (d + 1) (8 + 8 * e')) → RGw F x m n may tp P 0 0 d (2 + 8 * e) ∧ RGw F x m n may tp P 5 4 d (3 + 8 * e) ∧ RGw F x m n may tp P 4 3 d (4 + 8 * e) ∧ RGw F x m n may tp P 7 6 d (6 + 8 * e) ∧ RGw F x m n may tp P 1 1 d (7 + 8 * e) ∧ RGw F x m n may tp P 6 5 d (8 + 8 * e) := fun e d he H => by
    have d6 : d ≤ 6 := by omega
    have ga : RGw F x m n may tp P 0 0 d (2 + 8 * e) := fun Dc Dm h1 h2 => by
      obtain ⟨Dc, rfl⟩ : ∃ j, Dc = j + 1 + 1 := ⟨Dc - 2, by omega⟩
      obtain ⟨Dm, rfl⟩ : ∃ j, Dm = j + 1 + 1 := ⟨Dm - 2, by omega⟩
      refine RG_atom (Rc := f_grp_X5_atom F (Dc + 1)) (Rm := f_grp_X12_readAtom F (Dm + 1)) (QS := P 3 (d + 1)) hF n9 hy d6 tl (fun z => ?_) (fun z l q => k2 d l z q) (RG_if (Rc := f_grp_X5_atom F Dc) (Rm := f_grp_X12_readAtom F Dm) (QT := P 5 (d + 1)) (QS := P 3 (d + 1)) hF n9 d6 (fun z => ?_) (fun z => ?_) (fun z t a b q1 q2 q3 => k3 d t a b z q1 q2 q3)) (fun r hr => k1 d r d6 hr)
      · obtain ⟨e', he', s, -, -⟩ := H z
        rw [nI_1]
        exact s _ _ (by omega) (by omega)
      · obtain ⟨e', he', -, -, t⟩ := H z
        rw [nI_1]
        exact t _ _ (by omega) (by omega)
      · obtain ⟨e', he', s, -, -⟩ := H z
        rw [nI_1]
        exact s _ _ (by omega) (by omega)
    have gt : RGw F x m n may tp P 5 4 d (3 + 8 * e) := fun Dc Dm h1 h2 => by
      obtain ⟨Dc, rfl⟩ : ∃ j, Dc = j + 1 := ⟨Dc - 1, by omega⟩
      obtain ⟨Dm, rfl⟩ : ∃ j, Dm = j + 1 := ⟨Dm - 1, by omega⟩
      exact RG_term (Rc := f_grp_X5_atom F Dc) (Rm := f_grp_X12_readAtom F Dm) hF n9 (ga _ _ (by omega) (by omega)) (fun l l' q q' => k5 d l l' d6 q q') (fun l q => k4 d l d6 q)
    have gs : RGw F x m n may tp P 4 3 d (4 + 8 * e) := fun Dc Dm h1 h2 => by
      obtain ⟨Dc, rfl⟩ : ∃ j, Dc = j + 1 := ⟨Dc - 1, by omega⟩
      obtain ⟨Dm, rfl⟩ : ∃ j, Dm = j + 1 := ⟨Dm - 1, by omega⟩
      exact RG_sum (Rc := f_grp_X5_atom F Dc) (Rm := f_grp_X12_readAtom F Dm) hF n9 (gt _ _ (by omega) (by omega)) (fun l l' q q' => k7 d l l' d6 q q') (fun l q => k6 d l d6 q)
    have gu : RGw F x m n may tp P 7 6 d (6 + 8 * e) := fun Dc Dm h1 h2 => by
      obtain ⟨Dc, rfl⟩ : ∃ j, Dc = j + 1 + 1 := ⟨Dc - 2, by omega⟩
      obtain ⟨Dm, rfl⟩ : ∃ j, Dm = j + 1 := ⟨Dm - 1, by omega⟩
      refine RG_unit (Rc := f_grp_X5_atom F (Dc + 1)) (Rm := f_grp_X12_readAtom F Dm) (QU := P 6 (d + 1)) (QT := P 5 (d + 1)) (QC := P 6 d) hF n9 d6 (fun z => ?_) (fun z => ?_) (RG_cmp (Rc := f_grp_X5_atom F Dc) (Rm := f_grp_X12_readAtom F Dm) (QS := P 3 d) hF n9 (gs _ _ (by omega) (by omega)) (fun o a b ho qa qb => k8 d o a b d6 ho qa qb)) (fun z l q => k9 d l z q) (fun z l q => k10 d l z q)
      · obtain ⟨e', he', -, u, -⟩ := H z
        rw [nI_1]
        exact u _ _ (by omega) (by omega)
      · obtain ⟨e', he', -, -, t⟩ := H z
        rw [nI_1]
        exact t _ _ (by omega) (by omega)
    have gb : RGw F x m n may tp P 1 1 d (7 + 8 * e) := fun Dc Dm h1 h2 => by
      obtain ⟨Dc, rfl⟩ : ∃ j, Dc = j + 1 := ⟨Dc - 1, by omega⟩
      obtain ⟨Dm, rfl⟩ : ∃ j, Dm = j + 1 := ⟨Dm - 1, by omega⟩
      exact RG_both (Rc := f_grp_X5_atom F Dc) (Rm := f_grp_X12_readAtom F Dm) hF n9 (gu _ _ (by omega) (by omega)) (fun l l' q q' => k12 d l l' d6 q q') (fun l q => k11 d l d6 q)
    have gr : RGw F x m n may tp P 6 5 d (8 + 8 * e) := fun Dc Dm h1 h2 => by
      obtain ⟨Dc, rfl⟩ : ∃ j, Dc = j + 1 := ⟨Dc - 1, by omega⟩
      obtain ⟨Dm, rfl⟩ : ∃ j, Dm = j + 1 := ⟨Dm - 1, by omega⟩
      exact RG_truth (Rc := f_grp_X5_atom F Dc) (Rm := f_grp_X12_readAtom F Dm) hF n9 (gb _ _ (by omega) (by omega)) (fun l l' q q' => k14 d l l' d6 q q') (fun l q => k13 d l d6 q)
    exact ⟨ga, gt, gs, gu, gb, gr⟩
  intro e
  induction e with
  | zero => intro d he; exact step 0 d he (fun z => by omega)
  | succ e ih =>
    intro d he
    obtain ⟨-, -, s, u, -, t⟩ := ih (d + 1) (by omega)
    exact step (e + 1) d he (fun _ => ⟨e, rfl, s, u, t⟩)
/-- a sum, a truth, whole -/
theorem RG_S (hF : 2000 ≤ F) (n9 : n ≤ 900) (hy : may < 2) (tl : ∀ j, j < n → tp j < 256) {P : Nat → Nat → List Nat → Prop} (cp : Cls may P) : RG x m n may tp (fun h => f_X5_sum F (x + 9) 0 h) (fun g => f_X12_readSum F m 0 g) (P 3 0) := (grp hF n9 hy tl cp 6 0 (by omega)).2.2.1 64 64 (by omega) (by omega)
theorem RG_T (hF : 2000 ≤ F) (n9 : n ≤ 900) (hy : may < 2) (tl : ∀ j, j < n → tp j < 256) {P : Nat → Nat → List Nat → Prop} (cp : Cls may P) : RG x m n may tp (fun h => f_X5_truth F (x + 9) 0 h) (fun g => f_X12_readTruth F m 0 g) (P 5 0) := (grp hF n9 hy tl cp 6 0 (by omega)).2.2.2.2.2 64 64 (by omega) (by omega)
end group
