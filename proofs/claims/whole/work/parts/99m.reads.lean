/-! L3, the class reads a text -/
def Dz : DR := ((0, 0, 0), (fun _ => 0), (fun _ _ => 0), (fun _ => 0), (0, 0), (0, []), (0, []))
noncomputable def nx0 (tp : Nat → Nat) (n : Nat) : PS := if tK tp n (tA tp n 0) = 25 then .inr (1, tA tp n 0, 0) else .inl (tA tp n 0, [])
theorem KS.sR {h : Hp} {q k : Nat} {v : Option Nat} (ks : KS h) (t : hp_t h q ≠ 14) : KS (hp_sR h q k v) := by
  intro i hi
  obtain ⟨a1, a2, w, a3, a4⟩ := ks i hi
  refine ⟨a1, a2, w, ?_, a4⟩
  have n1 : hp_k h i ≠ q := fun e => t (by rw [← e]; exact a1)
  show hp_R (hp_sR h q k v) (hp_k h i) 0 = some w
  rw [sR_ne _ _ _ n1]
  exact a3
theorem cs0 : cs 0 = 0 := by
  refine dg_ext (cs_lt 0) (by decide) fun j hj => ?_
  rw [dg_cs8 hj]
  simp [dg]
section reads
variable {F x n a : Nat} {tp : Nat → Nat}
theorem cl_X2 (hF : 2000 ≤ F) {h : Hp} (s : HSh h a) : ∃ h', f_X2_clear F a h = some ((), h') ∧ SH h h' ∧ hp_L h' = hp_L h ∧ (∀ y, (∀ k, k < 4 → y ≠ a + k) → hp_I h' y = hp_I h y) ∧ (∀ j, j < 5 → hp_I h' a j = 0) ∧ (∀ j, j < 4 → hp_I h' (a + 1) j = 0) ∧ (∀ j, j < 24 → hp_I h' (a + 2) j = 0) ∧ ∀ j, j < 6 → hp_I h' (a + 3) j = 0 := by
  let h5 := hp_sI (hp_sI (hp_sI (hp_sI (hp_sI h a 0 0) a 1 0) a 2 0) a 3 0) a 4 0
  have s5 : HSh h5 a := s
  have t : ∀ (g : Hp), HSh g a → hp_t g a = 3 := fun g c => c.1
  obtain ⟨h6, e6, f6, v6⟩ := fillI F (a := a + 1) (N := 4) (by decide) (by omega) (s5.2 1 (by decide) (by decide)).2.1 (s5.2 1 (by decide) (by decide)).2.2
  have s6 := s5.sh f6.1
  obtain ⟨h7, e7, f7, v7⟩ := fillI F (a := a + 2) (N := 24) (by decide) (by omega) (s6.2 2 (by decide) (by decide)).2.1 (s6.2 2 (by decide) (by decide)).2.2
  have s7 := s6.sh f7.1
  obtain ⟨h8, e8, f8, v8⟩ := fillI F (a := a + 3) (N := 6) (by decide) (by omega) (s7.2 3 (by decide) (by decide)).2.1 (s7.2 3 (by decide) (by decide)).2.2
  have i5 : ∀ y, y ≠ a → hp_I h5 y = hp_I h y := fun y hy => by
    show hp_I (hp_sI (hp_sI (hp_sI (hp_sI (hp_sI h a 0 0) a 1 0) a 2 0) a 3 0) a 4 0) y = _
    rw [sI_ne _ _ _ hy, sI_ne _ _ _ hy, sI_ne _ _ _ hy, sI_ne _ _ _ hy, sI_ne _ _ _ hy]
  have i8 : ∀ y, y ≠ a + 1 → y ≠ a + 2 → y ≠ a + 3 → hp_I h8 y = hp_I h5 y := fun y h1 h2 h3 => by rw [f8.2.2 y h3, f7.2.2 y h2, f6.2.2 y h1]
  refine ⟨h8, ?_, (show SH h h5 from SH.rf h).tr ((f6.1.tr f7.1).tr f8.1), ?_, fun y hy => ?_, fun j hj => ?_, fun j hj => ?_, fun j hj => ?_, fun j hj => ?_⟩
  · unfold f_X2_clear
    rw [pI_n s.1, pI_n (show hp_t (hp_sI h a 0 0) a = 3 from s.1), pI_n (show hp_t (hp_sI (hp_sI h a 0 0) a 1 0) a = 3 from s.1), pI_n (show hp_t (hp_sI (hp_sI (hp_sI h a 0 0) a 1 0) a 2 0) a = 3 from s.1), pI_n (show hp_t (hp_sI (hp_sI (hp_sI (hp_sI h a 0 0) a 1 0) a 2 0) a 3 0) a = 3 from s.1)]
    show (gR 3 h5 a 5 fun v6 => bd (f_J7_fill_53178 F v6 0 h5) fun v7 h8 => gR 3 h8 a 6 fun v9 => bd (f_J7_fill_53178 F v9 0 h8) fun v10 h11 => gR 3 h11 a 7 fun v12 => bd (f_J7_fill_53178 F v12 0 h11) fun v13 h14 => some ((), h14)) = _
    rw [s5.g 1 5 (by decide), bd_n e6, s6.g 2 6 (by decide), bd_n e7, s7.g 3 7 (by decide), bd_n e8]
  · rw [f8.2.1, f7.2.1, f6.2.1]; rfl
  · have y0 : y ≠ a := hy 0 (by decide)
    rw [i8 y (hy 1 (by decide)) (hy 2 (by decide)) (hy 3 (by decide)), i5 y y0]
  · rw [i8 a (by omega) (by omega) (by omega)]
    show hp_I (hp_sI (hp_sI (hp_sI (hp_sI (hp_sI h a 0 0) a 1 0) a 2 0) a 3 0) a 4 0) a j = 0
    rw [sI_at, sI_at, sI_at, sI_at, sI_at]
    rcases (show j = 0 ∨ j = 1 ∨ j = 2 ∨ j = 3 ∨ j = 4 by omega) with rfl | rfl | rfl | rfl | rfl <;> rfl
  · rw [f8.2.2 _ (by omega), f7.2.2 _ (by omega), v6 j, if_pos hj]
  · rw [f8.2.2 _ (by omega), v7 j, if_pos hj]
  · rw [v8 j, if_pos hj]
/-- what is there when the class begins to read -/
def RIn (h : Hp) (x n : Nat) (tp : Nat → Nat) (a : Nat) : Prop := CSH h x ∧ KS h ∧ (HSh h a ∧ apt x a) ∧ (∀ j, j < n → hp_I h (x + 1) j = sx (tp j) ∧ tp j < 256) ∧ n ≤ 900
theorem rd_set (h1 : Hp) (q : Nat) (t : hp_t h1 q = 6) (n : Nat) : ∃ h8, FF q [0, 1, 3, 5] h1 h8 ∧ (hp_I h8 q 3 = nI n ∧ hp_I h8 q 0 = 0 ∧ hp_I h8 q 1 = -1 ∧ hp_I h8 q 5 = 0) ∧ ∀ K : Hp → Option (Int32 × Hp), (pI 6 h1 q 3 (nI n) fun h5 => pI 6 h5 q 0 0 fun h6 => pI 6 h6 q 1 (-1) fun h7 => pI 6 h7 q 5 0 fun h8 => K h8) = K h8 := by
  refine ⟨hp_sI (hp_sI (hp_sI (hp_sI h1 q 3 (nI n)) q 0 0) q 1 (-1)) q 5 0, (((FF.sI (by decide)).tr (FF.sI (by decide))).tr (FF.sI (by decide))).tr (FF.sI (by decide)), ⟨?_, ?_, ?_, ?_⟩, fun K => ?_⟩
  · rw [sI_at, if_neg (by decide), sI_at, if_neg (by decide), sI_at, if_neg (by decide), sI_at, if_pos rfl]
  · rw [sI_at, if_neg (by decide), sI_at, if_neg (by decide), sI_at, if_pos rfl]
  · rw [sI_at, if_neg (by decide), sI_at, if_pos rfl]
  · rw [sI_at, if_pos rfl]
  · rw [pI_n t, pI_n (by rw [hp_t_sI]; exact t), pI_n (by rw [hp_t_sI, hp_t_sI]; exact t), pI_n (by rw [hp_t_sI, hp_t_sI, hp_t_sI]; exact t)]
theorem rd_clr (F : Nat) (h12 : Hp) (q : Nat) (t : hp_t h12 q = 4) : ∃ h15, f_X3_clear F q h12 = some ((), h15) ∧ FQ q h12 h15 ∧ ∀ j, 0 < j → j < 6 → hp_I h15 q j = 0 := by
  refine ⟨hp_sI (hp_sI (hp_sI (hp_sI (hp_sI h12 q 1 0) q 2 0) q 3 0) q 4 0) q 5 0, ?_, (((FQ.sI.tr FQ.sI).tr FQ.sI).tr FQ.sI).tr FQ.sI, fun j h1 h2 => ?_⟩
  · unfold f_X3_clear
    rw [pI_n t, pI_n (by rw [hp_t_sI]; exact t), pI_n (by rw [hp_t_sI, hp_t_sI]; exact t), pI_n (by rw [hp_t_sI, hp_t_sI, hp_t_sI]; exact t), pI_n (by rw [hp_t_sI, hp_t_sI, hp_t_sI, hp_t_sI]; exact t)]
  · rw [sI_at, sI_at, sI_at, sI_at, sI_at]
    rcases (show j = 1 ∨ j = 2 ∨ j = 3 ∨ j = 4 ∨ j = 5 by omega) with rfl | rfl | rfl | rfl | rfl <;> rfl
/-- the reader is set -/
theorem rd_a (F : Nat) {h : Hp} (r : RIn h x n tp a) : ∃ h9, (FW (fun y => y = x + 9) h h9 ∧ hp_n h9 = hp_n h ∧ hp_s h9 = hp_s h) ∧ (CSH h9 x ∧ KS h9 ∧ HSh h9 a) ∧ (hp_R h9 (x + 9) 2 = some (x + 1) ∧ hp_R h9 (x + 9) 8 = some a) ∧ (hp_I h9 (x + 9) 3 = nI n ∧ hp_I h9 (x + 9) 0 = 0 ∧ hp_I h9 (x + 9) 1 = -1 ∧ hp_I h9 (x + 9) 5 = 0) ∧ (∀ y, y ≠ x + 9 → hp_I h9 y = hp_I h y) ∧ f_X5_reads F (x + 9) (x + 1) (nI n) a h = (gR 6 h9 (x + 9) 8 fun v10 => cV 3 h9 v10 (f_X2_clear F v10 h9) fun v11 h12 => gR 6 h12 (x + 9) 9 fun v13 => cV 4 h12 v13 (f_X3_clear F v13 h12) fun v14 h15 => cV 6 h15 (x + 9) (f_X5_advance F (x + 9) h15) fun v16 h17 => cV 6 h17 (x + 9) (f_X5_take F (x + 9) 200 h17) fun v18 h19 => cV 6 h19 (x + 9) (f_X5_take F (x + 9) 59 h19) fun v20 h21 => gR 6 h21 (x + 9) 8 fun v22 => pI 3 h21 v22 2 1 fun h23 => f_X5_reads_77 F F (x + 9) 0 h23) := by
  obtain ⟨s, ks, ⟨hsh, ap⟩, tpe, n9⟩ := r
  have t9 : hp_t h (x + 9) = 6 := s.t 9 6 (by decide)
  have s1 : CSH (hp_sR h (x + 9) 2 (some (x + 1))) x := s.sR (k := 9) _ (by decide)
  have ks1 : KS (hp_sR h (x + 9) 2 (some (x + 1))) := ks.sR (by rw [t9]; decide)
  have t1 : hp_t (hp_sR h (x + 9) 2 (some (x + 1))) (x + 9) = 6 := by rw [hp_t_sR]; exact t9
  obtain ⟨h8, f8, v8, k8⟩ := rd_set (hp_sR h (x + 9) 2 (some (x + 1))) (x + 9) t1 n
  have s8 : CSH h8 x := s1.sh f8.1.1
  have t8 : hp_t h8 (x + 9) = 6 := s8.t 9 6 (by decide)
  have ks8 : KS h8 := ks1.fq f8.1 (by rw [t1]; decide)
  have hs8 : HSh h8 a := by
    refine hsh.cg (fun k _ => ⟨by rw [f8.1.1.1, hp_t_sR], by rw [f8.1.1.2.1, hp_l_sR]⟩) ?_
    rw [f8.1.1.2.2.1, sR_ne _ _ _ (show a ≠ x + 9 from ap 0 9 (by decide) (by decide) (by decide))]
  have I9 : ∀ y, y ≠ x + 9 → hp_I (hp_sR h8 (x + 9) 8 (some a)) y = hp_I h y := fun y hy => by
    rw [hp_I_sR, f8.1.2.2 y hy, hp_I_sR]
  have R9 : ∀ y, y ≠ x + 9 → hp_R (hp_sR h8 (x + 9) 8 (some a)) y = hp_R h y := fun y hy => by
    rw [sR_ne _ _ _ hy, f8.1.1.2.2.1, sR_ne _ _ _ hy]
  refine ⟨hp_sR h8 (x + 9) 8 (some a), ⟨⟨?_, ?_, fun y _ => ⟨⟨?_, ?_⟩, fun hy => ⟨I9 y hy, ?_, R9 y hy⟩⟩⟩, ?_, ?_⟩, ⟨s8.sR (k := 9) _ (by decide), ks8.sR (by rw [t8]; decide), ?_⟩, ⟨?_, ?_⟩, ?_, I9, ?_⟩
  · rw [hp_n_sR, f8.1.1.2.2.2.1, hp_n_sR]; exact Nat.le_refl _
  · rw [hp_k_sR, f8.1.1.2.2.2.2.2, hp_k_sR]
  · rw [hp_t_sR, f8.1.1.1, hp_t_sR]
  · rw [hp_l_sR, f8.1.1.2.1, hp_l_sR]
  · rw [hp_L_sR, f8.1.2.1, hp_L_sR]
  · rw [hp_n_sR, f8.1.1.2.2.2.1, hp_n_sR]
  · rw [hp_s_sR, f8.1.1.2.2.2.2.1, hp_s_sR]
  · refine hs8.cg (fun k _ => ⟨by rw [hp_t_sR], by rw [hp_l_sR]⟩) ?_
    rw [sR_ne _ _ _ (show a ≠ x + 9 from ap 0 9 (by decide) (by decide) (by decide))]
  · rw [sR_at, if_neg (by decide), f8.1.1.2.2.1, sR_at, if_pos rfl]
  · rw [sR_at, if_pos rfl]
  · rw [hp_I_sR]; exact v8
  · have jm : f_J9_min_7cf53 F (nI n) (nI 900) (hp_sR h (x + 9) 2 (some (x + 1))) = some (nI n, hp_sR h (x + 9) 2 (some (x + 1))) := by
      rw [jmin F (by omega) (by decide), Nat.min_eq_left n9]
    unfold f_X5_reads
    rw [pR_n t9, al_n (s1.t 1 21 (by decide)) (s1.l 1 900 (by decide)), bd_n jm]
    refine (k8 _).trans ?_
    rw [pR_n t8]
/-- the reader is set, its draft empty, the first token read -/
theorem rd_c0 (hF : 2000 ≤ F) {h : Hp} (r : RIn h x n tp a) : ∃ h9 h17, (FW (fun y => y = x + 9) h h9 ∧ hp_n h9 = hp_n h ∧ hp_s h9 = hp_s h) ∧ DJ x n tp a h9 h17 (nx0 tp n) Dz ∧ f_X5_reads F (x + 9) (x + 1) (nI n) a h = (cV 6 h17 (x + 9) (f_X5_take F (x + 9) 200 h17) fun v18 h19 => cV 6 h19 (x + 9) (f_X5_take F (x + 9) 59 h19) fun v20 h21 => gR 6 h21 (x + 9) 8 fun v22 => pI 3 h21 v22 2 1 fun h23 => f_X5_reads_77 F F (x + 9) 0 h23) := by
  obtain ⟨h9, w9, ⟨s9, ks9, hsh9⟩, ⟨R2, R8⟩, ⟨v3, v0, v1, v5⟩, I9, e9⟩ := rd_a F r
  obtain ⟨-, -, ⟨-, ap⟩, tpe, n9⟩ := r
  have na : ∀ k, k < 6 → a + k ≠ x + 9 := fun k hk => ap k 9 hk (by decide) (by decide)
  obtain ⟨h12, e12, sh12, L12, I12, z0, z1, z2, z3⟩ := cl_X2 hF hsh9
  have s12 : CSH h12 x := s9.sh sh12
  have x12 : ∀ j, j < 48 → ct j ≠ 0 → hp_I h12 (x + j) = hp_I h9 (x + j) := fun j h1 h2 => I12 _ (fun k hk => Ne.symm (ap k j (by omega) h1 h2))
  have t11 : hp_t h12 (x + 11) = 4 := s12.t 11 4 (by decide)
  obtain ⟨h15, e15, fq15, v11⟩ := rd_clr F h12 (x + 11) t11
  have s15 : CSH h15 x := s12.sh fq15.1
  have ks12 : KS h12 := by
    intro i hi
    obtain ⟨a1, a2, w, a3, a4, a5, a6⟩ := ks9 i hi
    have nk : ∀ y, (hp_t h9 y = 14 ∨ hp_t h9 y = 27) → hp_I h12 y = hp_I h9 y := fun y hy => I12 y (fun k hk e => by
      rcases (show k = 0 ∨ 0 < k by omega) with rfl | z
      · rw [Nat.add_zero] at e
        rw [e, hsh9.1] at hy
        rcases hy with hy | hy <;> exact absurd hy (by decide)
      · rw [e, (hsh9.2 k z (by omega)).2.1] at hy
        rcases hy with hy | hy <;> exact absurd hy (by decide))
    rw [sh12.1, sh12.2.1, sh12.2.2.1, sh12.2.2.2.2.2, nk _ (Or.inl a1)]
    refine ⟨a1, a2, w, a3, a4, a5, ?_⟩
    rw [nk _ (Or.inr a4)]
    exact a6
  have ks15 : KS h15 := ks12.fq fq15 (by rw [t11]; decide)
  have i9_15 : hp_I h15 (x + 9) = hp_I h9 (x + 9) := by rw [fq15.2.2 _ (by omega), x12 9 (by decide) (by decide)]
  have rd15 : RDc h15 (x + 9) (x + 1) n tp := by
    refine ⟨⟨s15.t 9 6 (by decide), ?_⟩, ⟨s15.t 1 21 (by decide), s15.l 1 900 (by decide)⟩, ⟨?_, n9⟩, ?_, ks15⟩
    · rw [fq15.1.2.2.1, sh12.2.2.1]; exact R2
    · rw [i9_15]; exact v3
    · rw [fq15.2.2 _ (by omega), x12 1 (by decide) (by decide), I9 _ (by omega)]
      exact tpe
  obtain ⟨h17, e17, f17, b1, b2, b3, b4, b5, b6⟩ := ca_advance F hF rd15 (show hp_I h15 (x + 9) 5 = nI 0 by rw [i9_15, v5]; rfl) (Nat.zero_le _) (by rw [i9_15]; exact v0)
  have i11 : hp_I h17 (x + 11) = hp_I h15 (x + 11) := f17.1.2.2 _ (by omega)
  have R17 : hp_R h17 (x + 9) 8 = some a := by
    rw [f17.1.1.2.2.1, fq15.1.2.2.1, sh12.2.2.1]; exact R8
  have cc : CC x n tp h17 h17 (nx0 tp n) := by
    refine ⟨s15.sh f17.1.1, rd15.ff f17 (by decide), FZc.rf _ _, ?_⟩
    unfold nx0
    by_cases z : tK tp n (tA tp n 0) = 25
    · rw [if_pos z]
      exact ⟨(b4 z).1, (b4 z).2, by rw [b3, z]; rfl, 0, Nat.le_refl _, by rw [i11, v11 1 (by decide) (by decide)]; rfl⟩
    · rw [if_neg z]
      refine ⟨⟨(b5 z).1, b1, b2, b3, b6, ?_⟩, by rw [i11, v11 1 (by decide) (by decide)]; rfl, fun i hi => absurd hi (Nat.not_lt_zero i)⟩
      rw [(b5 z).2, i9_15]; exact v1
  have ia : ∀ k, k < 6 → hp_I h17 (a + k) = hp_I h12 (a + k) := fun k hk => by rw [f17.1.2.2 _ (na k hk), fq15.2.2 _ (ap k 11 hk (by decide) (by decide))]
  have sh : SH h9 h17 := (sh12.tr fq15.1).tr f17.1.1
  refine ⟨h9, h17, w9, ⟨⟨cc, ⟨hsh9.sh sh, ap, R17⟩, ?_⟩, fun _ _ _ => ?_⟩, ?_⟩
  · refine ⟨sh, fun y h1 h2 => ⟨?_, ?_⟩⟩
    · rw [f17.1.2.2 y (h1 9 (by decide)), fq15.2.2 y (h1 11 (by decide)), I12 y h2]
    · rw [f17.1.2.1, fq15.2.1, L12]
  · have ia0 : hp_I h17 a = hp_I h12 a := ia 0 (by decide)
    refine ⟨⟨by rw [ia0]; exact z0 2 (by decide), by rw [ia0]; exact z0 0 (by decide), by rw [ia0]; exact z0 1 (by decide)⟩, fun i hi => by rw [ia 1 (by decide)]; exact z1 i hi, fun d f hd hf => by rw [ia 2 (by decide)]; exact z2 _ (by omega), fun d hd => by rw [ia 3 (by decide)]; exact z3 d hd, ⟨?_, by rw [ia0]; exact z0 3 (by decide)⟩, ⟨by rw [i11]; exact v11 2 (by decide) (by decide), by rw [i11]; exact v11 3 (by decide) (by decide)⟩, by rw [i11]; exact v11 4 (by decide) (by decide), by rw [i11]; exact v11 5 (by decide) (by decide)⟩
    rw [ia0, z0 4 (by decide)]
    show (0 : Int32) = nI (cs 0)
    rw [cs0]; rfl
  · rw [e9, gR_n (s9.t 9 6 (by decide)) R8, cV_n hsh9.1 e12, s12.g 6 9 9 11 (by decide), cV_n t11 e15, cV_n (s15.t 9 6 (by decide)) e17]
end reads
