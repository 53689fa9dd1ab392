/-! L3, the reference: the next token whole -/
noncomputable def n8 (F m : Nat) (h : Hp) : Option (Unit × Hp) := gI 13 h m 6 fun v13 => pI 13 h m 7 v13 fun h14 => gI 13 h14 m 6 fun v15 => gI 13 h14 m 8 fun v16 => if v15 < v16 then (gI 13 h14 m 6 fun v18 => cV 13 h14 m (f_X12_see F m v18 h14) fun v19 h20 => bd (f_X12_isSmall F v19 h20) fun v21 h22 => if v21 = 0 then (gI 13 h22 m 6 fun v24 => cV 13 h22 m (f_X12_see F m v24 h22) fun v25 h26 => bd (f_X12_isDigit F v25 h26) fun v27 h28 => if v27 = 0 then (gI 13 h28 m 7 fun v30 => pI 13 h28 m 7 (v30 + 1) fun h31 => pI 13 h31 m 9 25 fun h32 => f_X12_next_254 F F m 0 h32) else (pI 13 h28 m 10 0 fun h43 => f_X12_next_146 F F m h43)) else (f_X12_next_89 F F m h22)) else (pI 13 h14 m 9 24 fun h75 => some ((), h75))
theorem svv_ws {h : Hp} {m n : Nat} {tp : Nat → Nat} (r : RDr h m n tp) (j : Nat) : (svv tp n j = 10 ∨ svv tp n j = 32) ↔ (j < n ∧ wsb (tp j) = true) := by
  unfold svv
  by_cases z : j < n
  · rw [if_pos z, (nI_t (tp j) (r.2.2.1 j z).2).1]
    exact ⟨fun y => ⟨z, y⟩, fun y => y.2⟩
  · rw [if_neg z]
    exact ⟨fun y => by rcases y with y | y <;> exact absurd y (by decide), fun y => absurd y.1 z⟩
theorem rn_8 (F : Nat) {m n : Nat} {tp : Nat → Nat} : ∀ r k mm (h : Hp), RDr h m n tp → hp_I h m 6 = nI k → k + r = n → r < mm → ∃ h', f_X12_next_8 F mm m h = n8 F m h' ∧ FF m [6] h h' ∧ hp_I h' m 6 = nI (rnk (fun j => wsb (tp j)) r k) := by
  have stop : ∀ k mm (h : Hp), RDr h m n tp → hp_I h m 6 = nI k → k ≤ n → ¬ (k < n ∧ wsb (tp k) = true) → f_X12_next_8 F (mm + 1) m h = n8 F m h := fun k mm h r0 h6 hk hn => by
    have w := fun y => hn ((svv_ws r0 k).mp y)
    show f_X12_next_8_b F (f_X12_next_8 F mm) m h = _
    unfold f_X12_next_8_b
    rw [gI_n r0.t, h6, cV_n r0.t (rc_see F r0 hk), if_neg (fun y => w (Or.inl y)), gI_n r0.t, h6, cV_n r0.t (rc_see F r0 hk), if_neg (fun y => w (Or.inr y))]
    rfl
  intro r
  induction r with
  | zero =>
    intro k mm h r0 h6 hk hm
    obtain ⟨mm, rfl⟩ : ∃ j, mm = j + 1 := ⟨mm - 1, by omega⟩
    exact ⟨h, stop k mm h r0 h6 (by omega) (fun z => by omega), FF.rf _ _ _, h6⟩
  | succ r ih =>
    intro k mm h r0 h6 hk hm
    obtain ⟨mm, rfl⟩ : ∃ j, mm = j + 1 := ⟨mm - 1, by omega⟩
    cases z : wsb (tp k) with
    | true =>
      have f1 : FF m [6] h (hp_sI h m 6 (nI (k + 1))) := FF.sI (by decide)
      have r1 := r0.ff f1 (by decide)
      obtain ⟨h2, e2, f2, i6⟩ := ih (k + 1) mm _ r1 (by rw [sI_at, if_pos rfl]) (by omega) (by omega)
      refine ⟨h2, ?_, f1.tr f2, by rw [rnk_t (p := fun j => wsb (tp j)) z]; exact i6⟩
      rw [← e2]
      have w := (svv_ws r0 k).mpr ⟨by omega, z⟩
      show f_X12_next_8_b F (f_X12_next_8 F mm) m h = _
      unfold f_X12_next_8_b f_X12_next_34
      rw [gI_n r0.t, h6, cV_n r0.t (rc_see F r0 (by omega)), gI_n r0.t, h6, pI_n r0.t, nI_1]
      by_cases y : svv tp n k = 10
      · rw [if_pos y]
      · rw [if_neg y, gI_n r0.t, h6, cV_n r0.t (rc_see F r0 (by omega)), if_pos (by rcases w with w | w; exact absurd w y; exact w), gI_n r0.t, h6, pI_n r0.t, nI_1]
    | false =>
      rw [rnk_f (p := fun j => wsb (tp j)) z]
      exact ⟨h, stop k mm h r0 h6 (by omega) (fun y => by rw [z] at y; exact absurd y.2 (by decide)), FF.rf _ _ _, h6⟩
theorem rc_next (F : Nat) (hF : 2000 ≤ F) {h : Hp} {m n pos : Nat} {tp : Nat → Nat} (r0 : RDr h m n tp) (h7 : hp_I h m 7 = nI pos) (hp : pos ≤ n) : ∃ h', f_X12_next F m h = some ((), h') ∧ FF m [6, 7, 9, 10] h h' ∧ TKr h' m n (tA tp n pos) tp := by
  have n9 := r0.2.1.2
  have hA := (tA_le (tp := tp) hp).2
  unfold f_X12_next
  have f0 : FF m [6] h (hp_sI h m 6 (nI pos)) := FF.sI (by decide)
  obtain ⟨h1, e1, f1, i6⟩ := rn_8 F (n - pos) pos F _ (r0.ff f0 (by decide)) (by rw [sI_at, if_pos rfl]) (by omega) (by omega)
  have r1 := (r0.ff f0 (by decide)).ff f1 (by decide)
  rw [gI_n r0.t, h7, pI_n r0.t, e1]
  have ff : FF m [6, 7, 9, 10] h h1 := (f0.mono (by decide)).tr (f1.mono (by decide))
  have i6 : hp_I h1 m 6 = nI (tA tp n pos) := i6
  generalize tA tp n pos = A at hA i6 ⊢
  unfold n8
  have f2 : FF m [7] h1 (hp_sI h1 m 7 (nI A)) := FF.sI (by decide)
  have r2 := r1.ff f2 (by decide)
  rw [gI_n r1.t, i6, pI_n r1.t]
  have g6 : hp_I (hp_sI h1 m 7 (nI A)) m 6 = nI A := by rw [sI_at, if_neg (by decide)]; exact i6
  have g7 : hp_I (hp_sI h1 m 7 (nI A)) m 7 = nI A := by rw [sI_at, if_pos rfl]
  have ff2 := ff.tr (f2.mono (show ∀ k ∈ [7], k ∈ [6, 7, 9, 10] by decide))
  generalize hp_sI h1 m 7 (nI A) = g at r2 g6 g7 ff2
  rw [gI_n r2.t, g6, gI_n r2.t, r2.2.1.1]
  by_cases z : n ≤ A
  · have eK : tK tp n A = 24 := by unfold tK; rw [if_pos z]
    have eE : tE tp n A = A := by unfold tE; rw [if_pos z]
    rw [if_neg (show ¬ nI A < nI n from fun y => absurd ((nI_ltI (by omega) (by omega)).mp y) (by omega)), pI_n r2.t]
    exact ⟨_, rfl, ff2.tr (FF.sI (by decide)), by rw [sI_at, if_neg (by decide)]; exact g6, by rw [sI_at, if_neg (by decide), eE]; exact g7, by rw [sI_at, if_pos rfl, eK]; rfl, fun y => by rw [eK] at y; exact absurd y (by decide)⟩
  · have zA : A < n := by omega
    rw [if_pos (nI_lt zA (by omega)), gI_n r2.t, g6, cV_n r2.t (rc_see F r2 hA), bd_n (svv_small F r2 A)]
    by_cases z1 : smb (tp A) = true
    · have eK : tK tp n A = kw tp A (rnk (fun j => smb (tp j)) (n - A) A) := by unfold tK; rw [if_neg z, if_pos z1]
      have eE : tE tp n A = rnk (fun j => smb (tp j)) (n - A) A := by unfold tE; rw [if_neg z, if_pos z1]
      rw [if_pos (show A < n ∧ smb (tp A) = true from ⟨zA, z1⟩), if_neg (show ¬ (1 : Int32) = 0 by decide)]
      obtain ⟨h3, e3, f3, j7, j9⟩ := rn_89 F (by omega) hA (n - A) A F g r2 g6 g7 (by omega) (by omega)
      refine ⟨h3, e3, ff2.tr (f3.mono (by decide)), by rw [f3.2 6 (by decide)]; exact g6, by rw [eE]; exact j7, by rw [eK]; exact j9, fun y => ?_⟩
      rw [eK] at y
      rcases kw_v tp A (rnk (fun j => smb (tp j)) (n - A) A) with ⟨j, j1, -, j3⟩ | ⟨-, j2⟩
      · omega
      · omega
    · rw [if_neg (show ¬ (A < n ∧ smb (tp A) = true) from fun y => z1 y.2), if_pos (show (0 : Int32) = 0 from rfl), gI_n r2.t, g6, cV_n r2.t (rc_see F r2 hA), bd_n (svv_digit F r2 A)]
      by_cases z2 : dgb (tp A) = true
      · have eK : tK tp n A = if rnk (fun j => dgb (tp j)) (n - A) A - A ≤ 3 then 23 else 25 := by unfold tK; rw [if_neg z, if_neg z1, if_pos z2]
        have eE : tE tp n A = rnk (fun j => dgb (tp j)) (n - A) A := by unfold tE; rw [if_neg z, if_neg z1, if_pos z2]
        rw [if_pos (show A < n ∧ dgb (tp A) = true from ⟨zA, z2⟩), if_neg (show ¬ (1 : Int32) = 0 by decide), pI_n r2.t]
        have f3 : FF m [10] g (hp_sI g m 10 0) := FF.sI (by decide)
        have r3 := r2.ff f3 (by decide)
        obtain ⟨h4, e4, f4, j7, j9, j10⟩ := rn_146 F (n - A) A F 0 _ r3 (by rw [f3.2 6 (by decide)]; exact g6) (by rw [f3.2 7 (by decide)]; exact g7) (by rw [sI_at, if_pos rfl]; rfl) (Nat.le_refl _) (by omega) (by omega)
        refine ⟨h4, e4, (ff2.tr (f3.mono (by decide))).tr (f4.mono (by decide)), by rw [f4.2 6 (by decide), f3.2 6 (by decide)]; exact g6, by rw [eE]; exact j7, by rw [eK]; exact j9, fun y => ?_⟩
        rw [eK] at y
        by_cases u : rnk (fun j => dgb (tp j)) (n - A) A - A ≤ 3
        · exact j10 u
        · rw [if_neg u] at y; exact absurd y (by decide)
      · have eK : tK tp n A = sg (tp A) := by unfold tK; rw [if_neg z, if_neg z1, if_neg z2]
        have eE : tE tp n A = A + 1 := by unfold tE; rw [if_neg z, if_neg z1, if_neg z2]
        have bl := (r2.2.2.1 A zA).2
        have f3 : FF m [7, 9] g (hp_sI g m 7 (nI (A + 1))) := FF.sI (by decide)
        have r3 := r2.ff f3 (by decide)
        have f4 : FF m [7, 9] (hp_sI g m 7 (nI (A + 1))) (hp_sI (hp_sI g m 7 (nI (A + 1))) m 9 25) := FF.sI (by decide)
        have r4 := r3.ff f4 (by decide)
        rw [if_neg (show ¬ (A < n ∧ dgb (tp A) = true) from fun y => z2 y.2), if_pos (show (0 : Int32) = 0 from rfl), gI_n r2.t, g7, pI_n r2.t, nI_1, pI_n r3.t]
        obtain ⟨h5, e5, f5, i1, i2⟩ := rn_254 F zA 12 0 F _ r4 (by rw [f4.2 6 (by decide), f3.2 6 (by decide)]; exact g6) (by omega) (by omega)
        refine ⟨h5, e5, ((ff2.tr (f3.mono (by decide))).tr (f4.mono (by decide))).tr (f5.mono (by decide)), by rw [f5.2 6 (by decide), f4.2 6 (by decide), f3.2 6 (by decide)]; exact g6, by rw [eE, f5.2 7 (by decide), sI_at, if_neg (by decide), sI_at, if_pos rfl], ?_, fun y => ?_⟩
        · rw [eK]
          rcases sg_v (tp A) bl with ⟨y1, y2⟩ | ⟨j, j1, j2, j3⟩
          · rw [i1 (fun i _ h3 => y2 i h3), y1, sI_at, if_pos rfl]; rfl
          · rw [i2 j (by omega) j1 j2, j3]
        · rw [eK] at y
          rcases sg_v (tp A) bl with ⟨y1, -⟩ | ⟨j, j1, j2, j3⟩
          · omega
          · omega
