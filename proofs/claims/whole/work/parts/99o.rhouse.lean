/-! L3, the reference's house -/
section rh
variable {F m n : Nat} {tp : Nat → Nat}
theorem hc_r (F : Nat) {m : Nat} : ∀ r k n (h : Hp), SR h m → k + r = 1044 → r < n → ∃ h', f_X12_house_141 F n m (nI k) h = some (hp_I h' (m + 1) 0, h') ∧ FQ (m + 1) h h' ∧ ∀ j, hp_I h' (m + 1) j = if k ≤ j ∧ j < 1044 then hp_I h (m + 4) j else hp_I h (m + 1) j := by
  intro r
  induction r with
  | zero =>
    intro k n h S hk hn
    obtain ⟨n, rfl⟩ : ∃ j, n = j + 1 := ⟨n - 1, by omega⟩
    obtain rfl : k = 1044 := by omega
    refine ⟨h, ?_, FQ.rf _ _, fun j => by rw [if_neg (by omega)]⟩
    show f_X12_house_141_b F (f_X12_house_141 F n) m (nI 1044) h = _
    unfold f_X12_house_141_b
    rw [if_pos (show (1044 : Int32) ≤ nI 1044 by decide), S.g 1 1 (by decide) rfl, S.a 1 0 (i := 0) rfl (by decide) (by decide)]
  | succ r ih =>
    intro k n h S hk hn
    obtain ⟨n, rfl⟩ : ∃ j, n = j + 1 := ⟨n - 1, by omega⟩
    have f1 : FQ (m + 1) h (hp_sI h (m + 1) k (hp_I h (m + 4) k)) := FQ.sI
    obtain ⟨h', e, f, v⟩ := ih (k + 1) n (hp_sI h (m + 1) k (hp_I h (m + 4) k)) (S.sh f1.1) (by omega) (by omega)
    refine ⟨h', ?_, f1.tr f, fun j => ?_⟩
    · show f_X12_house_141_b F (f_X12_house_141 F n) m (nI k) h = _
      unfold f_X12_house_141_b
      rw [if_neg (show ¬ (1044 : Int32) ≤ nI k from i_ge (show k < 1044 by omega) (by decide)), S.g 1 1 (by decide) rfl, S.g 4 4 (by decide) rfl, S.a 4 k rfl (by decide) (show k < 1044 by omega), S.w 1 k rfl (by decide) (show k < 3132 by omega), nI_1]
      exact e
    · rw [v j, sI_at, f1.2.2 _ (by omega)]
      by_cases z : k + 1 ≤ j ∧ j < 1044
      · rw [if_pos z, if_pos (by omega)]
      · rw [if_neg z]
        by_cases y : j = k
        · rw [if_pos y, if_pos (by omega), y]
        · rw [if_neg y, if_neg (by omega)]
/-- a good end -/
theorem rh_ok (hF : 2000 ≤ F) {g : Hp} (S : SR g m) (w : hp_I g m 11 = 0) : ∃ g', f_X12_house_97 F m g = some (hp_I g (m + 4) 0, g') ∧ SH g g' ∧ hp_L g' = hp_L g ∧ (∀ y, y ≠ m → y ≠ m + 1 → hp_I g' y = hp_I g y) ∧ (hp_I g' m 13 = 0 ∧ hp_I g' m 14 = -1 ∧ ∀ k, k ≠ 13 → k ≠ 14 → hp_I g' m k = hp_I g m k) ∧ ∀ j, hp_I g' (m + 1) j = if j < 1044 then hp_I g (m + 4) j else hp_I g (m + 1) j := by
  have f1 : FQ m g (hp_sI g m 13 0) := FQ.sI
  have f2 : FQ m (hp_sI g m 13 0) (hp_sI (hp_sI g m 13 0) m 14 (-1)) := FQ.sI
  have f3 := f1.tr f2
  have S1 := S.sh f1.1
  have S2 := S1.sh f2.1
  have e13 : hp_I (hp_sI (hp_sI g m 13 0) m 14 (-1)) m 13 = 0 := by rw [sI_at, if_neg (by decide), sI_at, if_pos rfl]
  have e14 : hp_I (hp_sI (hp_sI g m 13 0) m 14 (-1)) m 14 = -1 := by rw [sI_at, if_pos rfl]
  have ek : ∀ k, k ≠ 13 → k ≠ 14 → hp_I (hp_sI (hp_sI g m 13 0) m 14 (-1)) m k = hp_I g m k := fun k h1 h2 => by rw [sI_at, if_neg h2, sI_at, if_neg h1]
  have w1 : hp_I (hp_sI g m 13 0) m 11 = 0 := by rw [sI_at, if_neg (by decide)]; exact w
  have w2 := (ek 11 (by decide) (by decide)).trans w
  obtain ⟨g', e, f, v⟩ := hc_r F 1044 0 F _ S2 (by omega) (by omega)
  refine ⟨g', ?_, f3.1.tr f.1, by rw [f.2.1, f3.2.1], fun y h1 h2 => by rw [f.2.2 y h2, f3.2.2 y h1], ⟨?_, ?_, fun k h1 h2 => ?_⟩, fun j => ?_⟩
  · unfold f_X12_house_97 f_X12_house_121
    rw [gI_n S.1, w, pI_n S.1, gI_n S1.1, w1, if_pos rfl, pI_n S1.1, gI_n S2.1, w2, if_pos rfl]
    refine (show f_X12_house_141 F F m 0 _ = _ from e).trans ?_
    rw [v 0, if_pos (by omega), f3.2.2 _ (by omega)]
  · rw [f.2.2 m (by omega)]; exact e13
  · rw [f.2.2 m (by omega)]; exact e14
  · rw [f.2.2 m (by omega)]; exact ek k h1 h2
  · rw [v j, f3.2.2 _ (by omega), f3.2.2 _ (by omega)]
    by_cases z : j < 1044
    · rw [if_pos z, if_pos ⟨Nat.zero_le _, z⟩]
    · rw [if_neg z, if_neg (fun y => z y.2)]
theorem rh_bad {g : Hp} (S : SR g m) (w : hp_I g m 11 ≠ 0) : ∃ g', f_X12_house_97 F m g = some (-30 - hp_I g m 11, g') ∧ SH g g' ∧ hp_L g' = hp_L g ∧ (∀ y, y ≠ m → hp_I g' y = hp_I g y) ∧ (hp_I g' m 13 = hp_I g m 11 ∧ hp_I g' m 14 = hp_I g m 12 ∧ ∀ k, k ≠ 13 → k ≠ 14 → hp_I g' m k = hp_I g m k) := by
  have f1 : FQ m g (hp_sI g m 13 (hp_I g m 11)) := FQ.sI
  have f2 : FQ m (hp_sI g m 13 (hp_I g m 11)) (hp_sI (hp_sI g m 13 (hp_I g m 11)) m 14 (hp_I g m 12)) := FQ.sI
  have f3 := f1.tr f2
  have S1 := S.sh f1.1
  have S2 := S1.sh f2.1
  have ek : ∀ k, k ≠ 13 → k ≠ 14 → hp_I (hp_sI (hp_sI g m 13 (hp_I g m 11)) m 14 (hp_I g m 12)) m k = hp_I g m k := fun k h1 h2 => by rw [sI_at, if_neg h2, sI_at, if_neg h1]
  have e1 : ∀ k, k ≠ 13 → hp_I (hp_sI g m 13 (hp_I g m 11)) m k = hp_I g m k := fun k h1 => by rw [sI_at, if_neg h1]
  refine ⟨_, ?_, f3.1, f3.2.1, f3.2.2, ⟨by rw [sI_at, if_neg (by decide), sI_at, if_pos rfl], by rw [sI_at, if_pos rfl], ek⟩⟩
  unfold f_X12_house_97 f_X12_house_121
  rw [gI_n S.1, pI_n S.1, gI_n S1.1, e1 11 (by decide), if_neg w, gI_n S1.1, e1 12 (by decide), pI_n S1.1, gI_n S2.1, ek 11 (by decide) (by decide), if_neg w, gI_n S2.1, ek 11 (by decide) (by decide)]
/-- the block that was read holds the house -/
theorem rh_blk {A : Nat → Int32} {ls : List Nat} {D : DR} (md : MD A D) (mk : ∀ i, i < ls.length → A (144 + i) = nI (ls.getD i 0)) (ok : Dok ls D) (l9 : ls.length ≤ 900) (d9 : D.1.1 ≤ 900) : HMok (hmD D) ∧ RB A (hmD D) D.2.2.2.2.1.1 D.2.2.2.2.1.2 ∧ LC A (hmD D) ∧ STok (hmD D) D.2.2.2.2.1.1 ∧ D.2.2.2.2.1.2 < 10 ∧ A 52 = nI 0 := by
  obtain ⟨⟨u0, u1, u1'⟩, u2, u3, u4, ⟨u5, u6, u7⟩, u8, u9⟩ := md
  have hok := hmD_ok ok d9
  have hst := hmD_st ok
  obtain ⟨⟨o1, o1'⟩, o2, o3, o4, ⟨o5, o6⟩, ⟨p1, p2, p3⟩, q1, q2, q3⟩ := ok
  have bl : ∀ law (q : Nat × List Nat), law < 2 → MLw A law q → q.1 + q.2.length ≤ ls.length → (∀ j, j < q.2.length → ls.getD (q.1 + j) 0 = q.2.getD j 0) → BLw A law q.1 q.2 := fun law q hl ml h1 h2 => by
    refine ⟨ml.1, fun ne => ⟨by rw [(ml.2 ne).1]; decide, (ml.2 ne).2.1, (ml.2 ne).2.2, by omega, fun j hj => ?_⟩⟩
    rw [show 144 + q.1 + j = 144 + (q.1 + j) by omega, mk _ (by omega), h2 j hj]
  refine ⟨hok, ⟨u0, u1, u1', u3, u4, u5, u6⟩, LC_of (ks := D.2.1) (fc := D.2.2.2.2.2.1.1) (fm := D.2.2.2.2.2.2.1) o1 (fun f hf => ⟨u2 f hf, o2 f hf⟩) (bl 0 _ (by decide) u8 p2 p3) (bl 1 _ (by decide) u9 q2 q3) p1 q1 rfl, hst, o6, u7⟩
/-- the reference is set to read -/
theorem rh_set (F : Nat) {h : Hp} {tap : Nat} (S : SR h m) (ht : RTp h m tap tp) (ks : KS h) (y : Int32) : (vb y 0 tap = none ∧ f_X12_house F m y h = some (-3, hp_sI h m 0 0)) ∨ ∃ n g, vb y 0 tap = some n ∧ y = nI n ∧ n ≤ tap ∧ FF m [0, 5, 7, 8, 11] h g ∧ hp_I g m 5 = 0 ∧ hp_I g m 8 = nI n ∧ hp_I g m 7 = 0 ∧ hp_I g m 11 = 0 ∧ KS g ∧ f_X12_house F m y h = (gR 13 g m 4 fun v10 => bd (f_X12_plain F v10 g) fun v11 h12 => cV 13 h12 m (f_X12_next F m h12) fun v13 h14 => cV 13 h14 m (f_X12_eats F m 0 h14) fun v15 h16 => if v15 = 0 then (cV 13 h16 m (f_X12_fails F m 2 h16) fun v18 h19 => f_X12_house_66 F m h19) else (f_X12_house_66 F m h16)) := by
  have t0 : hp_t h m = 13 := S.1
  have e5 : hp_I (hp_sI h m 0 0) m 5 = nI tap := by rw [sI_at, if_neg (by decide)]; exact ht.1
  have tap9 := ht.2.1
  have ei : (nI tap).toInt = tap := nI_toInt (by omega)
  have go : f_X12_house F m y h = if nI (b1 (0 ≤ y.toInt ∧ y.toInt ≤ (tap : Int))) = 0 then some (-3, hp_sI h m 0 0) else (pI 13 (hp_sI h m 0 0) m 8 y fun h6 => pI 13 h6 m 5 0 fun h7 => pI 13 h7 m 7 0 fun h8 => pI 13 h8 m 11 0 fun g => (gR 13 g m 4 fun v10 => bd (f_X12_plain F v10 g) fun v11 h12 => cV 13 h12 m (f_X12_next F m h12) fun v13 h14 => cV 13 h14 m (f_X12_eats F m 0 h14) fun v15 h16 => if v15 = 0 then (cV 13 h16 m (f_X12_fails F m 2 h16) fun v18 h19 => f_X12_house_66 F m h19) else (f_X12_house_66 F m h16))) := by
    unfold f_X12_house
    rw [pI_n t0, gI_n (show hp_t (hp_sI h m 0 0) m = 13 from t0), e5, bd_n (rc_wi F _ _ _ _), i64_toInt, i64_toInt, ei]
    rfl
  by_cases z : 0 ≤ y.toInt ∧ y.toInt ≤ (tap : Int)
  · right
    have hy : y = nI y.toInt.toNat := i32_eq (by rw [nI_toInt (by omega)]; omega)
    have f1 : FF m [0, 5, 7, 8, 11] h (hp_sI h m 0 0) := FF.sI (by decide)
    have f2 : FF m [0, 5, 7, 8, 11] (hp_sI h m 0 0) (hp_sI (hp_sI h m 0 0) m 8 y) := FF.sI (by decide)
    have f3 : FF m [0, 5, 7, 8, 11] (hp_sI (hp_sI h m 0 0) m 8 y) (hp_sI (hp_sI (hp_sI h m 0 0) m 8 y) m 5 0) := FF.sI (by decide)
    have f4 : FF m [0, 5, 7, 8, 11] (hp_sI (hp_sI (hp_sI h m 0 0) m 8 y) m 5 0) (hp_sI (hp_sI (hp_sI (hp_sI h m 0 0) m 8 y) m 5 0) m 7 0) := FF.sI (by decide)
    have f5 : FF m [0, 5, 7, 8, 11] (hp_sI (hp_sI (hp_sI (hp_sI h m 0 0) m 8 y) m 5 0) m 7 0) (hp_sI (hp_sI (hp_sI (hp_sI (hp_sI h m 0 0) m 8 y) m 5 0) m 7 0) m 11 0) := FF.sI (by decide)
    have ff := (((f1.tr f2).tr f3).tr f4).tr f5
    refine ⟨y.toInt.toNat, _, ?_, hy, by omega, ff, ?_, ?_, ?_, ?_, ks.fq ff.1 (by rw [t0]; decide), ?_⟩
    · unfold vb
      exact if_pos z
    · rw [sI_at, if_neg (by decide), sI_at, if_neg (by decide), sI_at, if_pos rfl]
    · rw [sI_at, if_neg (by decide), sI_at, if_neg (by decide), sI_at, if_neg (by decide), sI_at, if_pos rfl]; exact hy
    · rw [sI_at, if_neg (by decide), sI_at, if_pos rfl]
    · rw [sI_at, if_pos rfl]
    · rw [go, show b1 (0 ≤ y.toInt ∧ y.toInt ≤ (tap : Int)) = 1 from if_pos z, if_neg (show ¬ nI 1 = 0 by decide), pI_n (by rw [hp_t_sI]; exact t0), pI_n (by rw [hp_t_sI, hp_t_sI]; exact t0), pI_n (by rw [hp_t_sI, hp_t_sI, hp_t_sI]; exact t0), pI_n (by rw [hp_t_sI, hp_t_sI, hp_t_sI, hp_t_sI]; exact t0)]
  · left
    refine ⟨?_, ?_⟩
    · unfold vb
      exact if_neg z
    · rw [go, show b1 (0 ≤ y.toInt ∧ y.toInt ≤ (tap : Int)) = 0 from if_neg z, if_pos (show nI 0 = 0 from rfl)]
end rh
