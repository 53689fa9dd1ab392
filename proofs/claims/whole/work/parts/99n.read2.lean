/-! L3, both readers from the first token to the last -/
/-- the house that a draft makes -/
noncomputable def hmD (D : DR) : HM := (D.1.2.1, D.1.2.2, D.1.1, D.2.2.1, D.2.2.2.1, hmc D.2.1 D.2.2.2.2.2.1.2 D.2.2.2.2.2.2.2)
theorem hmD_ok {ls : List Nat} {D : DR} (ok : Dok ls D) (hl : D.1.1 ≤ 900) : HMok (hmD D) := ⟨ok.1.1, ok.1.2, ok.2.2.1, ok.2.2.2.1, fun b t f kn th v h => hmc_lt h, show D.1.1 < 2000 by omega⟩
theorem hmD_st {ls : List Nat} {D : DR} (ok : Dok ls D) : STok (hmD D) D.2.2.2.2.1.1 := ok.2.2.2.2.1.1
theorem hmD_n {ls : List Nat} {D : DR} (ok : Dok ls D) : HMn (hmD D) := HMn_of (ks := D.2.1) (lc := D.2.2.2.2.2.1.2) (lm := D.2.2.2.2.2.2.2) ok.1.1 ok.2.1 ok.2.2.2.2.2.2.1 rfl
section reads
variable {F x m n a : Nat} {tp : Nat → Nat}
/-- the class ends: what it read is weighed -/
theorem rd_end (hF : 2000 ≤ F) {h0 h : Hp} {A : Nat} {ls : List Nat} {D : DR} (c : DJ x n tp a h0 h (.inl (A, ls)) D) (ok : Dok ls D) (l9 : ls.length ≤ 900) (d9 : D.1.1 ≤ 900) (w5 : ∃ w, w < 10 ∧ hp_I h (x + 13) 5 = nI w) : ∃ h', f_X5_reads_110 F (x + 9) h = some (1, h') ∧ SH h h' ∧ (∀ y, y ≠ x + 11 → y ≠ x + 13 → y ≠ x + 14 → y ≠ a + 4 → y ≠ a + 5 → hp_I h' y = hp_I h y ∧ hp_L h' y = hp_L h y) ∧ HC h' a (hmD D) ∧ ∃ w, w < 10 ∧ hp_I h' (x + 13) 5 = nI w := by
  obtain ⟨c, cd⟩ := c
  obtain ⟨⟨u0, u1, u1'⟩, u2, u3, u4, ⟨u5, u6⟩, ⟨u7, u8⟩, u9, u10⟩ := cd A ls rfl
  obtain ⟨⟨o1, o1'⟩, o2, o3, o4, ⟨o5, o6⟩, ⟨p1, p2, p3⟩, q1, q2, q3⟩ := ok
  have okm : HMok (hmD D) := ⟨o1, o1', o3, o4, fun b t f kn th v h => hmc_lt h, show D.1.1 < 2000 by omega⟩
  have ap := c.2.1.2.1
  have hd : HDr h a (hmD D) := ⟨c.2.1.1, okm, ⟨u1, u1', u0⟩, u3, u4⟩
  obtain ⟨h1, e1, f1, v1⟩ := dd_weigh F hF hd
  have ck : CK h x ls := c.1.2.2.2.2
  have n4 : ∀ j, j < 48 → ct j ≠ 0 → hp_I h1 (x + j) = hp_I h (x + j) := fun j h1 h2 => f1.2.2 _ (Ne.symm (ap 4 j (by decide) h1 h2))
  have na : ∀ j, j ≠ 4 → hp_I h1 (a + j) = hp_I h (a + j) := fun j hj => f1.2.2 _ (by omega)
  have na0 : hp_I h1 a = hp_I h a := na 0 (by decide)
  have wi : WIx x a h1 D.1.2.1 D.2.1 D.2.2.2.2.2.1.1 D.2.2.2.2.2.1.2 D.2.2.2.2.2.2.1 D.2.2.2.2.2.2.2 := by
    refine ⟨⟨c.1.1.sh f1.1, c.2.1.1.sh f1.1, ap⟩, ⟨by rw [na0]; exact u1, o1⟩, fun f hf => ⟨by rw [na 1 (by decide)]; exact u2 f hf, o2 f hf⟩, ⟨?_, ⟨by omega, by omega⟩, fun j hj => ?_, fun j hj => ?_⟩, ⟨p1, q1⟩, ?_⟩
    · rw [n4 11 (by decide) (by decide)]; exact ⟨u7, u8, u9, u10⟩
    · rw [n4 12 (by decide) (by decide), ← p3 j hj]
      exact ck.2 _ (by omega)
    · rw [n4 12 (by decide) (by decide), ← q3 j hj]
      exact ck.2 _ (by omega)
    · rw [n4 13 (by decide) (by decide)]; exact w5
  obtain ⟨h2, e2, f2, wi2, cm⟩ := cc_lweigh hF wi
  have x1 : hp_t h1 (x + 9) = 6 := by rw [f1.1.1]; exact c.tg
  have x2 : hp_t h2 (x + 9) = 6 := by rw [f2.1.1]; exact x1
  have sh : SH h h2 := f1.1.tr f2.1
  have fr : ∀ y, y ≠ x + 11 → y ≠ x + 13 → y ≠ x + 14 → y ≠ a + 4 → y ≠ a + 5 → hp_I h2 y = hp_I h y ∧ hp_L h2 y = hp_L h y := fun y k1 k2 k3 k4 k5 => by
    have b := f2.2.1 y k1 k2 k3 k5
    exact ⟨by rw [b.1, f1.2.2 y k4], by rw [b.2, f1.2.1]⟩
  have i9 : hp_I h2 (x + 9) = hp_I h (x + 9) := (fr (x + 9) (by omega) (by omega) (by omega) (Ne.symm (ap 4 9 (by decide) (by decide) (by decide))) (Ne.symm (ap 5 9 (by decide) (by decide) (by decide)))).1
  have ia : ∀ k, k < 4 → hp_I h2 (a + k) = hp_I h (a + k) := fun k hk => (fr (a + k) (ap k 11 (by omega) (by decide) (by decide)) (ap k 13 (by omega) (by decide) (by decide)) (ap k 14 (by omega) (by decide) (by decide)) (by omega) (by omega)).1
  have ia0 : hp_I h2 a = hp_I h a := ia 0 (by decide)
  have ia4 : hp_I h2 (a + 4) = hp_I h1 (a + 4) := (f2.2.1 (a + 4) (ap 4 11 (by decide) (by decide) (by decide)) (ap 4 13 (by decide) (by decide) (by decide)) (ap 4 14 (by decide) (by decide) (by decide)) (by omega)).1
  refine ⟨h2, ?_, sh, fr, ⟨c.2.1.1.sh sh, okm, by rw [ia0]; exact ⟨u1, u1', u0⟩, by rw [ia 2 (by decide)]; exact u3, by rw [ia 3 (by decide)]; exact u4, by rw [ia4]; exact v1, fun b t f k1 k2 h0 h1 h2 h3 h4 => cm b t f k1 k2 h0 h1 h2 h3 h4 trivial⟩, wi2.2.2.2.2.2⟩
  have f0 : hp_I h (x + 9) 0 = 0 := c.1.2.2.2.1.1
  have r1 : hp_R h1 (x + 9) 8 = some a := by rw [f1.1.2.2.1]; exact c.2.1.2.2
  unfold f_X5_reads_110 f_X5_reads_135
  rw [gI_n c.tg, if_pos f0, c.g8, cV_n c.ta e1, wi.1.1.g 6 9 9 11 (by decide), gR_n x1 r1, cV_n (wi.1.1.t 11 4 (by decide)) e2, gI_n x2, i9, if_pos f0]
theorem rd_bad {h0 h : Hp} {b : Nat × Nat × Nat} (c : DX x n tp a h0 h (.inr b)) (pk : Pok n tp (.inr b)) : f_X5_reads_110 F (x + 9) h = some (0, h) := by
  have ne : ¬ hp_I h (x + 9) 0 = 0 := fun e => by
    obtain ⟨A, ls, y⟩ := (c.1.f0 pk).mp e
    injection y
  unfold f_X5_reads_110 f_X5_reads_135
  rw [gI_n c.tg, if_neg ne, gI_n c.tg, if_neg ne]
/-! the reference begins -/
theorem pl_r (F : Nat) {q : Nat} : ∀ r k n (h : Hp), hp_t h q = 20 → hp_l h q = 1044 → k + r = 1044 → r < n → ∃ h', f_X12_plain_2 F n q (nI k) h = some ((), h') ∧ FQ q h h' ∧ ∀ j, hp_I h' q j = if k ≤ j ∧ j < 1044 then 0 else hp_I h q j := by
  intro r
  induction r with
  | zero =>
    intro k n h t l hk hn
    obtain ⟨n, rfl⟩ : ∃ j, n = j + 1 := ⟨n - 1, by omega⟩
    obtain rfl : k = 1044 := by omega
    refine ⟨h, ?_, FQ.rf _ _, fun j => by rw [if_neg (by omega)]⟩
    show f_X12_plain_2_b F (f_X12_plain_2 F n) q (nI 1044) h = _
    unfold f_X12_plain_2_b
    rw [if_pos (show (1044 : Int32) ≤ nI 1044 by decide)]
  | succ r ih =>
    intro k n h t l hk hn
    obtain ⟨n, rfl⟩ : ∃ j, n = j + 1 := ⟨n - 1, by omega⟩
    obtain ⟨h', e, f, v⟩ := ih (k + 1) n (hp_sI h q k 0) (by rw [hp_t_sI]; exact t) (by rw [hp_l_sI]; exact l) (by omega) (by omega)
    refine ⟨h', ?_, FQ.sI.tr f, fun j => ?_⟩
    · show f_X12_plain_2_b F (f_X12_plain_2 F n) q (nI k) h = _
      unfold f_X12_plain_2_b
      rw [if_neg (show ¬ (1044 : Int32) ≤ nI k from i_ge (show k < 1044 by omega) (by decide)), wI_n t l rfl (show k < 1044 by omega) (by decide), nI_1]
      exact e
    · rw [v j, sI_at]
      by_cases z : k + 1 ≤ j ∧ j < 1044
      · rw [if_pos z, if_pos (by omega)]
      · rw [if_neg z]
        by_cases y : j = k
        · rw [if_pos y, if_pos (by omega)]
        · rw [if_neg y, if_neg (by omega)]
theorem pl_0 (F : Nat) (hF : 2000 ≤ F) {q : Nat} {h : Hp} (t : hp_t h q = 20) (l : hp_l h q = 1044) : ∃ h', f_X12_plain F q h = some ((), h') ∧ FQ q h h' ∧ ∀ j, j < 1044 → hp_I h' q j = 0 := by
  obtain ⟨h', e, f, v⟩ := pl_r F 1044 0 F h t l (by omega) (by omega)
  exact ⟨h', e, f, fun j hj => by rw [v j, if_pos ⟨Nat.zero_le _, hj⟩]⟩
/-- what is there when the reference begins to read -/
def MIn (g : Hp) (m n : Nat) (tp : Nat → Nat) : Prop := SR g m ∧ KS g ∧ (∀ j, j < n → hp_I g (m + 3) j = nI (tp j) ∧ tp j < 256) ∧ n ≤ 900 ∧ hp_I g m 8 = nI n ∧ hp_I g m 7 = 0 ∧ hp_I g m 11 = 0
theorem rd_m0 (hF : 2000 ≤ F) {g : Hp} (r : MIn g m n tp) (K : Hp → Option (Int32 × Hp)) : ∃ g14, EJ m n tp g g14 (nx0 tp n) Dz ∧ (gR 13 g m 4 fun v10 => bd (f_X12_plain F v10 g) fun v11 h12 => cV 13 h12 m (f_X12_next F m h12) fun v13 h14 => K h14) = K g14 := by
  obtain ⟨S, ks, tpe, n9, v8, v7, v11⟩ := r
  have t4 := S.2 4 (by decide) (by decide)
  obtain ⟨g12, e12, f12, z12⟩ := pl_0 F hF t4.2.1 t4.2.2
  have S12 : SR g12 m := S.sh f12.1
  have i0 : hp_I g12 m = hp_I g m := f12.2.2 _ (by omega)
  have ks12 : KS g12 := ks.fq f12 (by rw [t4.2.1]; decide)
  have rd : RDr g12 m n tp := ⟨S12, ⟨by rw [i0]; exact v8, n9⟩, by rw [f12.2.2 _ (by omega)]; exact tpe, ks12⟩
  obtain ⟨g14, e14, f14, tk⟩ := rc_next F hF rd (show hp_I g12 m 7 = nI 0 by rw [i0, v7]; rfl) (Nat.zero_le _)
  have z14 : ∀ j, j < 1044 → hp_I g14 (m + 4) j = 0 := fun j hj => by rw [f14.1.2.2 _ (by omega)]; exact z12 j hj
  have w11 : hp_I g14 m 11 = 0 := by rw [f14.2 11 (by decide), i0]; exact v11
  have mm : MM m n tp g14 g14 (nx0 tp n) := by
    refine ⟨rd.ff f14 (by decide), FZr.rf _ _, ?_⟩
    unfold nx0
    by_cases z : tK tp n (tA tp n 0) = 25
    · rw [if_pos z]
      exact Or.inr ⟨w11, rfl, z, tk, 0, Nat.le_refl _, z14 143 (by decide)⟩
    · rw [if_neg z]
      exact ⟨tk, w11, z14 143 (by decide), fun i hi => absurd hi (Nat.not_lt_zero i)⟩
  refine ⟨g14, ⟨⟨mm, ?_⟩, fun _ _ _ => ?_⟩, ?_⟩
  · refine ⟨f12.1.tr f14.1.1, by rw [f14.1.2.1, f12.2.1], fun y h1 h2 => by rw [f14.1.2.2 y h1, f12.2.2 y h2], fun k hk => ?_⟩
    rw [f14.2 k (fun z => hk (by
      have : ∀ k ∈ [6, 7, 9, 10], k ∈ [6, 7, 9, 10, 11, 12, 15] := by decide
      exact this k z)), i0]
  · refine ⟨⟨z14 0 (by decide), z14 1 (by decide), z14 2 (by decide)⟩, fun i hi => z14 _ (by omega), fun d f hd hf => z14 _ (by omega), fun d hd => z14 _ (by omega), ⟨fun k hk => ?_, z14 51 (by decide), z14 52 (by decide)⟩, ⟨fun _ => z14 3 (by decide), fun y => absurd rfl y⟩, fun _ => z14 4 (by decide), fun y => absurd rfl y⟩
    rw [z14 _ (by omega)]
    show (0 : Int32) = nI (dg 0 k)
    unfold dg
    rw [Nat.zero_div]; rfl
  · rw [S.g 4 4 (by decide) rfl, bd_n e12, cV_n S12.1 e14]
/-- both read the whole text alike -/
theorem READ (hF : 2000 ≤ F) (n9 : n ≤ 900) (tl : ∀ j, j < n → tp j < 256) : ∃ (σ' : PS) (D' : DR), Pok n tp σ' ∧ GI σ' D' ∧ (∀ h, RIn h x n tp a → ∃ h9 h', (FW (fun y => y = x + 9) h h9 ∧ hp_n h9 = hp_n h ∧ hp_s h9 = hp_s h) ∧ DJ x n tp a h9 h' σ' D' ∧ f_X5_reads F (x + 9) (x + 1) (nI n) a h = f_X5_reads_110 F (x + 9) h') ∧ ∀ g, MIn g m n tp → ∃ g', EJ m n tp g g' σ' D' ∧ (∀ b, σ' = .inr b → hp_I g' m 11 ≠ 0) ∧ (gR 13 g m 4 fun v10 => bd (f_X12_plain F v10 g) fun v11 h12 => cV 13 h12 m (f_X12_next F m h12) fun v13 h14 => cV 13 h14 m (f_X12_eats F m 0 h14) fun v15 h16 => if v15 = 0 then (cV 13 h16 m (f_X12_fails F m 2 h16) fun v18 h19 => f_X12_house_66 F m h19) else (f_X12_house_66 F m h16)) = f_X12_house_97 F m g' := by
  have tA0 := tA_le (tp := tp) (Nat.zero_le n)
  have p0 : Pok n tp (nx0 tp n) := by
    unfold nx0
    by_cases z : tK tp n (tA tp n 0) = 25
    · rw [if_pos z]; exact ⟨tA0.2, show 0 < 1 ∧ 1 < 5 by decide⟩
    · rw [if_neg z]; exact ⟨tA0.2, z⟩
  obtain ⟨p1, q1, c1⟩ := tkn_ok (K := 0) p0
  obtain ⟨p2, q2, c2⟩ := tkn_ok (K := 30) p1
  have n0 : ∀ A ls, nx0 tp n = .inl (A, ls) → ls = [] := fun A ls e => by
    unfold nx0 at e
    by_cases z : tK tp n (tA tp n 0) = 25
    · rw [if_pos z] at e; injection e
    · rw [if_neg z] at e
      injection e with e
      injection e with _ e
      exact e.symm
  have okz : Dok [] (Dl Dz) := by
    refine ⟨⟨by decide, by decide⟩, fun _ _ => (by decide : 0 < 10), fun _ _ _ _ => (by decide : 0 < 4), fun _ _ => (by decide : 0 < 16), ⟨⟨by decide, fun t f _ _ _ => ?_⟩, by decide⟩, ⟨Or.inl rfl, Nat.le_refl _, fun j hj => absurd hj (Nat.not_lt_zero j)⟩, Or.inl rfl, Nat.le_refl _, fun j hj => absurd hj (Nat.not_lt_zero j)⟩
    show dg 0 (4 * t + f) = 0
    unfold dg
    rw [Nat.zero_div]
  have g2 : GI (tkn tp n 30 (tkn tp n 0 (nx0 tp n))) (Dl Dz) := fun A ls e => by
    obtain ⟨A1, e1, k1, x1⟩ := tkn_inl e
    obtain ⟨A0, e0, k0, x0⟩ := tkn_inl e1
    have := n0 A0 ls e0
    subst this
    have hA1 := tK_lt (show tK tp n A1 ≠ 24 by rw [k1]; decide)
    have pk1 : Pok n tp (.inl (A1, [])) := by rw [← e1]; exact p1
    have := (nx_ok pk1).2.2.2 hA1
    rw [x1] at this
    have this : A1 < A := this
    exact ⟨okz, Nat.zero_le _, show 0 + 1 ≤ A by omega⟩
  obtain ⟨σ', D', p3, g3, -, w3, u3⟩ := rl_loop (F := F) (x := x) (m := m) (a := a) hF n9 tl (n - plc (tkn tp n 30 (tkn tp n 0 (nx0 tp n)))) (tkn tp n 30 (tkn tp n 0 (nx0 tp n))) (Dl Dz) F F 0 (Nat.le_refl _) (by omega) (by omega) (Nat.zero_le _) p2 g2
  refine ⟨σ', D', p3, g3, fun h r => ?_, fun g r => ?_⟩
  · obtain ⟨h9, h17, w9, ⟨c, cd⟩, e⟩ := rd_c0 hF r
    obtain ⟨h19, e19, d19⟩ := C_take F hF (K := 0) (by decide) c.1 p0
    obtain ⟨x19, i19, j19, -⟩ := c.st d19
    obtain ⟨h21, e21, d21⟩ := C_take F hF (K := 30) (by decide) x19.1 p1
    obtain ⟨x21, i21, j21, -⟩ := x19.st d21
    rw [ctk_d.2.2.2.2.2.1] at e19
    rw [ctk_d.2.2.2.1] at e21
    obtain ⟨h', e', c'⟩ := w3 h9 (hp_sI h21 a 2 1) ⟨x21.w0 2 1, fun A ls ei => by
      obtain ⟨A1, e1, -⟩ := tkn_inl ei
      obtain ⟨A0, e0, -⟩ := tkn_inl e1
      obtain ⟨⟨u0, u1, u1'⟩, u2, u3, u4, ⟨u5, u6⟩, u7⟩ := ((cd A0 ls e0).cg i19 j19).cg i21 j21
      have e0 : ∀ j, j ≠ 2 → hp_I (hp_sI h21 a 2 1) a j = hp_I h21 a j := fun j hj => by rw [sI_at, if_neg hj]
      have ek : ∀ j, 0 < j → hp_I (hp_sI h21 a 2 1) (a + j) = hp_I h21 (a + j) := fun j hj => sI_ne _ _ _ (by omega)
      have e11 : hp_I (hp_sI h21 a 2 1) (x + 11) = hp_I h21 (x + 11) := sI_ne _ _ _ (Ne.symm (c.2.1.2.1 0 11 (by decide) (by decide) (by decide)))
      exact ⟨⟨by rw [sI_at, if_pos rfl]; rfl, by rw [e0 _ (by decide)]; exact u1, by rw [e0 _ (by decide)]; exact u1'⟩, by rw [ek 1 (by decide)]; exact u2, by rw [ek 2 (by decide)]; exact u3, by rw [ek 3 (by decide)]; exact u4, ⟨by rw [e0 _ (by decide)]; exact u5, by rw [e0 _ (by decide)]; exact u6⟩, by rw [e11]; exact u7⟩⟩
    refine ⟨h9, h', w9, c', ?_⟩
    rw [e, cV_n c.tg e19, cV_n x19.tg e21, x21.g8, pI_n x21.ta]
    exact e'
  · obtain ⟨g14, c, e⟩ := rd_m0 hF r (fun h14 => cV 13 h14 m (f_X12_eats F m 0 h14) fun v15 h16 => if v15 = 0 then (cV 13 h16 m (f_X12_fails F m 2 h16) fun v18 h19 => f_X12_house_66 F m h19) else (f_X12_house_66 F m h16))
    obtain ⟨g16, d16, e16⟩ := M_take2 F hF (K := 0) (by decide) c.1.1 p0
    obtain ⟨x16, i16, j16, -⟩ := c.1.st d16
    have c16 : EJ m n tp g g16 (tkn tp n 0 (nx0 tp n)) Dz := ⟨x16, fun A ls ei => by
      obtain ⟨A0, e0, -⟩ := tkn_inl ei
      exact (c.2 A0 ls e0).cg i16⟩
    obtain ⟨g21, e21, c21, -⟩ := LENDm hF p1 c16
    obtain ⟨g', e', c', ne'⟩ := u3 g g21 c21
    refine ⟨g', c', ne', e.trans ((e16 (fun h => f_X12_house_66 F m h)).trans ?_)⟩
    unfold f_X12_house_66
    rw [cV_n x16.tg e21]
    exact e'
end reads
