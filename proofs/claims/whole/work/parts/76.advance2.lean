/-! L3, the class: a failure; the next token whole -/
theorem ca_fail (F : Nat) {h : Hp} {q : Nat} (t : hp_t h q = 6) (k : Int32) : ∃ h', f_X5_fail F q k h = some ((), h') ∧ FF q [0, 1, 6] h h' ∧ hp_I h' q 6 = 1 ∧ (hp_I h q 0 = 0 → hp_I h' q 0 = k ∧ hp_I h' q 1 = hp_I h q 4) ∧ (hp_I h q 0 ≠ 0 → hp_I h' q 0 = hp_I h q 0 ∧ hp_I h' q 1 = hp_I h q 1) := by
  unfold f_X5_fail f_X5_fail_20
  rw [gI_n t]
  by_cases z : hp_I h q 0 = 0
  · have f1 : FF q [0, 1, 6] h (hp_sI h q 0 k) := FF.sI (by decide)
    have t1 : hp_t (hp_sI h q 0 k) q = 6 := by rw [f1.1.1.1]; exact t
    have f2 : FF q [0, 1, 6] (hp_sI h q 0 k) (hp_sI (hp_sI h q 0 k) q 1 (hp_I h q 4)) := FF.sI (by decide)
    have t2 : hp_t (hp_sI (hp_sI h q 0 k) q 1 (hp_I h q 4)) q = 6 := by rw [f2.1.1.1]; exact t1
    rw [if_pos z, pI_n t, gI_n t1, f1.2 4 (by decide), pI_n t1, pI_n t2]
    refine ⟨_, rfl, (f1.tr f2).tr (FF.sI (by decide)), by rw [sI_at, if_pos rfl], fun _ => ⟨?_, ?_⟩, fun y => absurd z y⟩
    · rw [sI_at, if_neg (by decide), sI_at, if_neg (by decide), sI_at, if_pos rfl]
    · rw [sI_at, if_neg (by decide), sI_at, if_pos rfl]
  · rw [if_neg z, pI_n t]
    refine ⟨_, rfl, FF.sI (by decide), by rw [sI_at, if_pos rfl], fun y => absurd y z, fun _ => ⟨?_, ?_⟩⟩
    · rw [sI_at, if_neg (by decide)]
    · rw [sI_at, if_neg (by decide)]
/-- the kinds that there are -/
def kok (K : Nat) : Bool := decide (K < 21) || (decide (22 ≤ K) && decide (K ≤ 25)) || (decide (30 ≤ K) && decide (K < 42))
theorem ctk_i : ∀ K, K < 42 → ∀ L, L < 42 → kok K = true → kok L = true → ctk K = ctk L → K = L := by decide +kernel
theorem kok_lt : ∀ K, kok K = true → K < 42 := by
  intro K h
  unfold kok at h
  simp only [Bool.or_eq_true, Bool.and_eq_true, decide_eq_true_iff] at h
  omega
theorem ctk_e {K L : Nat} (hK : kok K = true) (hL : kok L = true) : ctk K = ctk L ↔ K = L := ⟨fun e => ctk_i K (kok_lt K hK) L (kok_lt L hL) hK hL e, fun e => by rw [e]⟩
theorem kw_ok (tp : Nat → Nat) (A e : Nat) : kok (kw tp A e) = true := by
  rcases kw_v tp A e with ⟨j, j1, -, j3⟩ | ⟨-, j2⟩
  · rw [j3]; unfold kok; rw [decide_eq_true j1]; rfl
  · rw [j2]; decide
theorem sg_ok : ∀ b, b < 256 → kok (sg b) = true := by decide +kernel
theorem tK_ok {tp : Nat → Nat} {n A : Nat} (h : ∀ j, j < n → tp j < 256) : kok (tK tp n A) = true := by
  unfold tK
  by_cases z : n ≤ A
  · rw [if_pos z]; decide
  · rw [if_neg z]
    by_cases z1 : smb (tp A) = true
    · rw [if_pos z1]; exact kw_ok _ _ _
    · rw [if_neg z1]
      by_cases z2 : dgb (tp A) = true
      · rw [if_pos z2]
        by_cases z3 : rnk (fun j => dgb (tp j)) (n - A) A - A ≤ 3
        · rw [if_pos z3]; decide
        · rw [if_neg z3]; decide
      · rw [if_neg z2]; exact sg_ok _ (h A (by omega))
/-- what the class's reader has at the token from A on -/
def TKc (h h' : Hp) (q n A : Nat) (tp : Nat → Nat) : Prop := hp_I h' q 4 = nI A ∧ hp_I h' q 5 = nI (tE tp n A) ∧ hp_I h' q 6 = ctk (tK tp n A) ∧ (tK tp n A = 25 → hp_I h' q 0 = 1 ∧ hp_I h' q 1 = nI A) ∧ (tK tp n A ≠ 25 → hp_I h' q 0 = 0 ∧ hp_I h' q 1 = hp_I h q 1) ∧ (tK tp n A = 23 → hp_I h' q 7 = nI (tN tp n A))
theorem ca_139 (F : Nat) {h h1 : Hp} {q n A : Nat} {tp : Nat → Nat} (t : hp_t h1 q = 6) (ht : ∀ j, j < n → tp j < 256) (f : FF q [0, 1, 4, 5, 6, 7] h h1) (h0 : hp_I h1 q 0 = 0) (h1' : hp_I h1 q 1 = hp_I h q 1) (i4 : hp_I h1 q 4 = nI A) (i5 : hp_I h1 q 5 = nI (tE tp n A)) (i6 : hp_I h1 q 6 = ctk (tK tp n A)) (i7 : tK tp n A = 23 → hp_I h1 q 7 = nI (tN tp n A)) : ∃ h', f_X5_advance_139 F q h1 = some ((), h') ∧ FF q [0, 1, 4, 5, 6, 7] h h' ∧ TKc h h' q n A tp := by
  have ok := tK_ok (A := A) ht
  unfold f_X5_advance_139
  rw [gI_n t, i6]
  by_cases z : tK tp n A = 25
  · obtain ⟨h2, e2, f2, j6, j0, -⟩ := ca_fail F t 1
    rw [if_pos (show ctk (tK tp n A) = 1 by rw [z]; rfl), cV_n t e2]
    refine ⟨h2, rfl, f.tr (f2.mono (by decide)), by rw [f2.2 4 (by decide)]; exact i4, by rw [f2.2 5 (by decide)]; exact i5, by rw [j6, z]; rfl, fun _ => ⟨(j0 h0).1, by rw [(j0 h0).2]; exact i4⟩, fun y => absurd z y, fun y => by rw [z] at y; exact absurd y (by decide)⟩
  · rw [if_neg (show ¬ ctk (tK tp n A) = 1 from fun e => z ((ctk_e ok (L := 25) (by decide)).mp e))]
    exact ⟨h1, rfl, f, i4, i5, i6, fun y => absurd y z, fun _ => ⟨h0, h1'⟩, i7⟩
theorem ca_advance (F : Nat) (hF : 2000 ≤ F) {h : Hp} {q tx n pos : Nat} {tp : Nat → Nat} (r0 : RDc h q tx n tp) (h5 : hp_I h q 5 = nI pos) (hp : pos ≤ n) (h0 : hp_I h q 0 = 0) : ∃ h', f_X5_advance F q h = some ((), h') ∧ FF q [0, 1, 4, 5, 6, 7] h h' ∧ TKc h h' q n (tA tp n pos) tp := by
  have n9 := r0.2.2.1.2
  have hA := (tA_le (tp := tp) hp).2
  unfold f_X5_advance
  rw [gI_n r0.t, h5, ca_skip F r0 (n - pos) pos F (by omega) (by omega)]
  show ∃ h', f_X5_advance_41 F q (nI (tA tp n pos)) h = _ ∧ _
  generalize tA tp n pos = A at hA ⊢
  unfold f_X5_advance_41
  have f1 : FF q [0, 1, 4, 5, 6, 7] h (hp_sI h q 4 (nI A)) := FF.sI (by decide)
  have r1 := r0.ff f1 (by decide)
  have f2 : FF q [0, 1, 4, 5, 6, 7] (hp_sI h q 4 (nI A)) (hp_sI (hp_sI h q 4 (nI A)) q 5 (nI A)) := FF.sI (by decide)
  have r2 := r1.ff f2 (by decide)
  have f3 : FF q [0, 1, 4, 5, 6, 7] (hp_sI (hp_sI h q 4 (nI A)) q 5 (nI A)) (hp_sI (hp_sI (hp_sI h q 4 (nI A)) q 5 (nI A)) q 6 0) := FF.sI (by decide)
  have r3 := r2.ff f3 (by decide)
  rw [pI_n r0.t, pI_n r1.t, pI_n r2.t]
  have ff := (f1.tr f2).tr f3
  generalize hg : hp_sI (hp_sI (hp_sI h q 4 (nI A)) q 5 (nI A)) q 6 0 = g at r3 ff
  have g0 : hp_I g q 0 = 0 := by rw [← hg, sI_at, if_neg (by decide), sI_at, if_neg (by decide), sI_at, if_neg (by decide)]; exact h0
  have g1 : hp_I g q 1 = hp_I h q 1 := by rw [← hg, sI_at, if_neg (by decide), sI_at, if_neg (by decide), sI_at, if_neg (by decide)]
  have g4 : hp_I g q 4 = nI A := by rw [← hg, sI_at, if_neg (by decide), sI_at, if_neg (by decide), sI_at, if_pos rfl]
  have g5 : hp_I g q 5 = nI A := by rw [← hg, sI_at, if_neg (by decide), sI_at, if_pos rfl]
  have g6 : hp_I g q 6 = 0 := by rw [← hg, sI_at, if_pos rfl]
  have ht := fun j hj => r3.lt (j := j) hj
  rw [r3.g3]
  by_cases z : n ≤ A
  · have eK : tK tp n A = 24 := by unfold tK; rw [if_pos z]
    have eE : tE tp n A = A := by unfold tE; rw [if_pos z]
    rw [if_pos (nI_le z (by omega))]
    exact ca_139 F r3.t ht ff g0 g1 g4 (by rw [eE]; exact g5) (by rw [eK, g6]; rfl) (fun y => by rw [eK] at y; exact absurd y (by decide))
  · have zA : A < n := by omega
    have st := sx_t (tp A) (r3.lt zA)
    rw [if_neg (nI_ge zA (by omega)), r3.g2, r3.b zA]
    by_cases z1 : smb (tp A) = true
    · have y := st.2.1.mp z1
      rw [if_neg (fun e => y (Or.inl e)), if_neg (fun e => y (Or.inr e))]
      obtain ⟨h4, e4, f4, i5, i6⟩ := ca_readWord F hF r3 g5 g4 hA
      have r4 := r3.ff f4 (by decide)
      rw [cV_n r3.t e4]
      have eK : tK tp n A = kw tp A (rnk (fun j => smb (tp j)) (n - A) A) := by unfold tK; rw [if_neg z, if_pos z1]
      have eE : tE tp n A = rnk (fun j => smb (tp j)) (n - A) A := by unfold tE; rw [if_neg z, if_pos z1]
      exact ca_139 F r4.t ht (ff.tr (f4.mono (by decide))) (by rw [f4.2 0 (by decide)]; exact g0) (by rw [f4.2 1 (by decide)]; exact g1) (by rw [f4.2 4 (by decide)]; exact g4) (by rw [eE]; exact i5) (by rw [eK]; exact i6) (fun y => by
        rcases kw_v tp A (rnk (fun j => smb (tp j)) (n - A) A) with ⟨j, j1, -, j3⟩ | ⟨-, j2⟩
        · omega
        · omega)
    · rw [Bool.not_eq_true] at z1
      have goto : ∀ X : Option (Unit × Hp), (if sx (tp A) < 97 then f_X5_advance_90 F q (nI A) (sx (tp A)) g else if 122 < sx (tp A) then f_X5_advance_90 F q (nI A) (sx (tp A)) g else X) = f_X5_advance_90 F q (nI A) (sx (tp A)) g := fun X => by
        by_cases y : sx (tp A) < 97
        · rw [if_pos y]
        · by_cases y2 : 122 < sx (tp A)
          · rw [if_neg y, if_pos y2]
          · have := st.2.1.mpr (fun e => by rcases e with e | e; exact y e; exact y2 e)
            rw [z1] at this
            exact absurd this (by decide)
      rw [goto]
      have z1' : ¬ smb (tp A) = true := by rw [z1]; decide
      unfold f_X5_advance_90
      by_cases z2 : dgb (tp A) = true
      · have y := st.2.2.1.mp z2
        rw [if_neg (fun e => y (Or.inl e)), if_neg (fun e => y (Or.inr e))]
        obtain ⟨h4, e4, f4, i5, i6, i7⟩ := ca_readDigits F hF r3 g5 g4 hA
        have r4 := r3.ff f4 (by decide)
        rw [cV_n r3.t e4]
        have eK : tK tp n A = if rnk (fun j => dgb (tp j)) (n - A) A - A ≤ 3 then 23 else 25 := by unfold tK; rw [if_neg z, if_neg z1', if_pos z2]
        have eE : tE tp n A = rnk (fun j => dgb (tp j)) (n - A) A := by unfold tE; rw [if_neg z, if_neg z1', if_pos z2]
        exact ca_139 F r4.t ht (ff.tr (f4.mono (by decide))) (by rw [f4.2 0 (by decide)]; exact g0) (by rw [f4.2 1 (by decide)]; exact g1) (by rw [f4.2 4 (by decide)]; exact g4) (by rw [eE]; exact i5) (by rw [eK]; exact i6) (fun _ => i7)
      · rw [Bool.not_eq_true] at z2
        have goto2 : ∀ X : Option (Unit × Hp), (if sx (tp A) < 48 then f_X5_advance_109 F q (nI A) (sx (tp A)) g else if 57 < sx (tp A) then f_X5_advance_109 F q (nI A) (sx (tp A)) g else X) = f_X5_advance_109 F q (nI A) (sx (tp A)) g := fun X => by
          by_cases y : sx (tp A) < 48
          · rw [if_pos y]
          · by_cases y2 : 57 < sx (tp A)
            · rw [if_neg y, if_pos y2]
            · have := st.2.2.1.mpr (fun e => by rcases e with e | e; exact y e; exact y2 e)
              rw [z2] at this
              exact absurd this (by decide)
        rw [goto2]
        have z2' : ¬ dgb (tp A) = true := by rw [z2]; decide
        have eK : tK tp n A = sg (tp A) := by unfold tK; rw [if_neg z, if_neg z1', if_neg z2']
        have eE : tE tp n A = A + 1 := by unfold tE; rw [if_neg z, if_neg z1', if_neg z2']
        have f4 : FF q [5] g (hp_sI g q 5 (nI (A + 1))) := FF.sI (by decide)
        have r4 := r3.ff f4 (by decide)
        have bl := r3.lt zA
        have ec : (((sx (tp A) &&& 255) : Int32).toUInt32 % 65536).toInt32 = nI (tp A) := by rw [st.2.2.2.1, pk_char, pk_tn (by omega), Nat.mod_eq_of_lt (by omega)]
        have ks := r4.2.2.2.2
        have t1 := (ks 1 (by decide)).1
        unfold f_X5_advance_109 f_X5_advance_136
        rw [pI_n r3.t, nI_1, ec]
        have done : ∀ w : Int32, w = ctk (sg (tp A)) → ∃ h', (pI 6 (hp_sI g q 5 (nI (A + 1))) q 6 w fun h21 => f_X5_advance_139 F q h21) = some ((), h') ∧ FF q [0, 1, 4, 5, 6, 7] h h' ∧ TKc h h' q n A tp := fun w hw => by
          have f5 : FF q [6] (hp_sI g q 5 (nI (A + 1))) (hp_sI (hp_sI g q 5 (nI (A + 1))) q 6 w) := FF.sI (by decide)
          have r5 := r4.ff f5 (by decide)
          rw [pI_n r4.t]
          exact ca_139 F r5.t ht ((ff.tr (f4.mono (by decide))).tr (f5.mono (by decide))) (by rw [f5.2 0 (by decide), f4.2 0 (by decide)]; exact g0) (by rw [f5.2 1 (by decide), f4.2 1 (by decide)]; exact g1) (by rw [f5.2 4 (by decide), f4.2 4 (by decide)]; exact g4) (by rw [eE, f5.2 5 (by decide), sI_at, if_pos rfl]) (by rw [eK, sI_at, if_pos rfl]; exact hw) (fun y => by
            rw [eK] at y
            rcases sg_v (tp A) bl with ⟨y1, -⟩ | ⟨j, j1, j2, j3⟩
            · omega
            · omega)
        rcases st_idx F (by omega) ks bl with ⟨s1, j, j1, e⟩ | ⟨s1, e⟩
        · rw [cV_n t1 e, if_neg (nI_pos (by omega))]
          refine done _ ?_
          rcases sg_v (tp A) bl with ⟨y1, -⟩ | ⟨i, i1, i2, i3⟩
          · exact absurd y1 s1
          · have := ch_lt 1 (by decide) i (by rw [sl_v.2.1]; exact i1)
            rw [i3, st.2.2.2.2 (by omega), i2]
            unfold ctk
            rw [if_neg (by omega), if_neg (by omega), if_neg (by omega), if_neg (by omega), if_neg (by omega), show 30 + i - 30 = i by omega]
        · rw [cV_n t1 e, if_pos (by decide)]
          refine done _ ?_
          rw [s1]; rfl
