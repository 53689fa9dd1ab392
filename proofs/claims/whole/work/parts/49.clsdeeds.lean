/-! L3, the class: deeds -/
theorem clr_bits {s k : Nat} (hs : s < 65536) (hk : k < 8) : nI s &&& (((3 : Int32) <<< (nI (2 * k) &&& 31)) ^^^ (-1)) = nI (st4 s k 0) := by
  have e := set_bits (v := 0) hs hk (by decide)
  have z : ∀ k, k < 8 → (nI 0) <<< (nI (2 * k) &&& 31) = 0 := by decide +kernel
  rw [z k hk, Int32.or_zero] at e
  exact e
theorem cc_telling (F : Nat) {h : Hp} {q a : Nat} {H : HM} {s b : Nat} (c : HC h a H) (st : ST h q s b) (hs : STok H s) (hb : b < 10) (x y : Int32) : f_X8_telling F q a x y h = some (match vi x 2, vi y (hm_f H) with
    | some t, some f => (match tld H b s t f with
      | some u => (0, hp_sI h q 0 (nI (cs u)))
      | none => (3, h))
    | _, _ => (1, h)) := by
  unfold f_X8_telling
  cases hx : vi x 2 with
  | none => rw [bd_n (cc_there0 F c (Or.inl hx)), if_pos rfl]
  | some t =>
    cases hy : vi y (hm_f H) with
    | none => rw [bd_n (cc_there0 F c (Or.inr hy)), if_pos rfl]
    | some f =>
      obtain ⟨t1, rfl⟩ := vi_some hx
      obtain ⟨f1, rfl⟩ := vi_some hy
      rw [bd_n (cc_there1 F c t1 f1), if_neg (by decide), gI_n st.1, st.2.1, gI_n st.1, st.2.2, cV_n c.t (cc_afterTelling F c hs hb t1 f1)]
      dsimp only
      cases hu : tld H b s t f with
      | none => rw [if_neg (show ¬ (0 : Int32) ≤ oN (Option.map cs none) by decide)]
      | some u => rw [if_pos (oNm_p u), pI_n st.1]; rfl
theorem cc_forgetting (F : Nat) {h : Hp} {q a : Nat} {H : HM} {s b : Nat} (c : HC h a H) (st : ST h q s b) (x y : Int32) : f_X8_forgetting F q a x y h = some (match vi x 2, vi y (hm_f H) with
    | some t, some f => if dg s (4 * t + f) = 0 then (2, h) else (0, hp_sI h q 0 (nI (cs (st4 s (4 * t + f) 0))))
    | _, _ => (1, h)) := by
  have f4 := c.f4
  unfold f_X8_forgetting
  cases hx : vi x 2 with
  | none => rw [bd_n (cc_there0 F c (Or.inl hx)), if_pos rfl]
  | some t =>
    cases hy : vi y (hm_f H) with
    | none => rw [bd_n (cc_there0 F c (Or.inr hy)), if_pos rfl]
    | some f =>
      obtain ⟨t1, rfl⟩ := vi_some hx
      obtain ⟨f1, rfl⟩ := vi_some hy
      have hd := dg_lt s (4 * t + f)
      rw [bd_n (cc_there1 F c t1 f1), if_neg (by decide), gI_n st.1, st.2.1, bd_n (cc_ageIn F t1 (by omega) h)]
      dsimp only
      by_cases z : dg s (4 * t + f) = 0
      · rw [if_pos (show nI _ = 0 by rw [z]; rfl), if_pos z]
      · rw [if_neg (nI_ne0 (by omega) (by omega)), if_neg z, gI_n st.1, st.2.1, pI_n st.1, sh42, clr_bits (cs_lt s) (by omega), cs_st t1 (by omega) (by decide)]
theorem cc_bonding (F : Nat) {h : Hp} {q : Nat} (t : hp_t h q = 9) (x : Int32) : f_X8_bonding F q x h = some (match vi x 10 with
    | some k => (0, hp_sI h q 1 (nI k))
    | none => (1, h)) := by
  unfold f_X8_bonding
  cases hx : vi x 10 with
  | none =>
    rcases viN (by decide) hx with z | z
    · rw [if_pos z]
    · rw [if_neg (show ¬ x < 10 from not_lt_le z)]
      by_cases q : x < 0
      · rw [if_pos q]
      · rw [if_neg q]
  | some k =>
    obtain ⟨k1, rfl⟩ := vi_some hx
    rw [if_neg (nI_pos (by omega)), if_pos (show nI k < 10 from nI_lt (b := 10) k1 (by decide)), pI_n t]
/-- the stand and the bond behind a deed, done or not -/
def dpo (H : HM) (s b : Nat) (v : Int) : Nat × Nat := if dwhy H s b v = 0 then dact H s b v else (s, b)
theorem dact_ok {H : HM} (hH : HMok H) {s b : Nat} {v : Int} (hs : STok H s) (hb : b < 10) (hw : dwhy H s b v = 0) : STok H (dact H s b v).1 ∧ (dact H s b v).2 < 10 := by
  unfold dact
  rcases dwhy_cases hw with e | ⟨k, e, h1, h2, h3⟩ | ⟨k, e, h1, h2, h3⟩ | ⟨k, e, h1, h2⟩
  · rw [if_pos e]; exact ⟨hs.dy, hb⟩
  · rw [if_neg (by omega), if_pos (by omega), e, Int.toNat_natCast]
    refine ⟨?_, hb⟩
    show STok H ((tld H b s (k / 10) (k % 10)).getD s)
    cases hu : tld H b s (k / 10) (k % 10) with
    | none => exact hs
    | some u => exact tld_ok hH hs (by omega) h2 hu
  · rw [if_neg (by omega), if_neg (by omega), if_pos (by omega), e, Int.toNat_natCast]
    have := hH.1
    refine ⟨hs.st (by decide) (fun t f ht hf hq => by omega), hb⟩
  · rw [if_neg (by omega), if_neg (by omega), if_neg (by omega), e, Int.toNat_natCast]
    exact ⟨hs, by show k - 200 < 10; omega⟩
theorem dpo_ok {H : HM} (hH : HMok H) {s b : Nat} {v : Int} (hs : STok H s) (hb : b < 10) : STok H (dpo H s b v).1 ∧ (dpo H s b v).2 < 10 := by
  unfold dpo
  by_cases q : dwhy H s b v = 0
  · rw [if_pos q]; exact dact_ok hH hs hb q
  · rw [if_neg q]; exact ⟨hs, hb⟩
/-- what a deed leaves: only the stand q changed -/
def DP (q : Nat) (H : HM) (s b : Nat) (v : Int) (h h' : Hp) : Prop := FQ q h h' ∧ ST h' q (dpo H s b v).1 (dpo H s b v).2 ∧ hp_I h' q 2 = hp_I h q 2 ∧ hp_I h' q 3 = hp_I h q 3
theorem DP.none {q : Nat} {H : HM} {s b : Nat} {v : Int} {h : Hp} (st : ST h q s b) (hw : dwhy H s b v ≠ 0) : DP q H s b v h h := by
  refine ⟨FQ.rf q h, ?_, rfl, rfl⟩
  unfold dpo
  rw [if_neg hw]; exact st
theorem l_lt {v : Int64} {n : Nat} (hn : n < 2 ^ 31) : v < lN n ↔ v.toInt < n := by
  rw [Int64.lt_iff_toInt_lt, lN_toInt hn]
theorem l_le {v : Int64} {n : Nat} (hn : n < 2 ^ 31) : lN n ≤ v ↔ (n : Int) ≤ v.toInt := by
  rw [Int64.le_iff_toInt_le, lN_toInt hn]
theorem cc_deed (F : Nat) {h : Hp} {q a : Nat} {H : HM} {s b : Nat} (c : HC h a H) (st : ST h q s b) (hs : STok H s) (hb : b < 10) (v : Int64) : ∃ h', f_X8_deed F q a v h = some (nI (dwhy H s b v.toInt), h') ∧ DP q H s b v.toInt h h' := by
  have f4 := c.f4
  unfold f_X8_deed
  by_cases q1 : v = -1
  · have e : v.toInt = -1 := by rw [q1]; rfl
    have hw : dwhy H s b v.toInt = 0 := by unfold dwhy; rw [if_pos e]
    rw [if_pos q1, gI_n st.1, st.2.1, bd_n (cc_day F s h), pI_n st.1, hw]
    refine ⟨_, rfl, FQ.sI, ?_, ?_, ?_⟩
    · unfold dpo
      rw [if_pos hw]
      unfold dact
      rw [if_pos e]
      refine ⟨st.1, ?_, ?_⟩
      · rw [sI_at, if_pos rfl]
      · rw [sI_at, if_neg (by decide)]; exact st.2.2
    · rw [sI_at, if_neg (by decide)]
    · rw [sI_at, if_neg (by decide)]
  rw [if_neg q1]
  have e1 : ¬ v.toInt = -1 := fun z => q1 (Int64.toInt_inj.mp z)
  by_cases q2 : 0 ≤ v.toInt ∧ v.toInt ≤ 19
  · rw [if_neg (show ¬ v < 0 from fun z => by have := (l_lt (n := 0) (by decide)).mp z; omega), if_neg (show ¬ (20 : Int64) ≤ v from fun z => by have := (l_le (n := 20) (by decide)).mp z; omega)]
    obtain ⟨k, hk, rfl⟩ : ∃ k, k ≤ 19 ∧ v = lN k := ⟨v.toInt.toNat, by omega, l64 q2.1 (by omega)⟩
    rw [lN_i, show nI k / 10 = nI (k / 10) from pk_div (d := 10) (by omega) (by decide) (by decide), show nI k - nI (k / 10) * 10 = nI (k % 10) by rw [← show nI k / 10 = nI (k / 10) from pk_div (d := 10) (by omega) (by decide) (by decide)]; exact pk_rem (d := 10) (by omega) (by decide) (by decide)]
    rw [cV_n st.1 (cc_telling F c st hs hb (nI (k / 10)) (nI (k % 10)))]
    rw [lN_toInt (by omega)] at q2 e1 ⊢
    have v1 : vi (nI (k / 10)) 2 = some (k / 10) := vi_nI (by omega) (by decide)
    have hw : dwhy H s b (k : Int) = if k % 10 < hm_f H then (if tel H b s (k / 10) (k % 10) = none then 3 else 0) else 1 := by
      unfold dwhy
      rw [if_neg e1, if_neg (by omega), if_pos q2, Int.toNat_natCast]
    rw [v1]
    by_cases q3 : k % 10 < hm_f H
    · rw [vi_nI q3 (by omega)]
      rw [if_pos q3] at hw
      dsimp only
      have tl : tld H b s (k / 10) (k % 10) = (tel H b s (k / 10) (k % 10)).map (tos s (k / 10) (k % 10)) := rfl
      cases ht : tel H b s (k / 10) (k % 10) with
      | none =>
        rw [ht] at tl hw
        rw [if_pos rfl] at hw
        rw [tl, hw]
        exact ⟨h, rfl, DP.none st (by rw [hw]; decide)⟩
      | some d =>
        rw [ht] at tl hw
        rw [if_neg (by simp)] at hw
        rw [tl, hw]
        refine ⟨hp_sI h q 0 (nI (cs (tos s (k / 10) (k % 10) d))), rfl, FQ.sI, ?_, ?_, ?_⟩
        · unfold dpo
          rw [if_pos hw]
          unfold dact
          rw [if_neg e1, if_pos (by omega), Int.toNat_natCast, tl]
          refine ⟨st.1, ?_, ?_⟩
          · rw [sI_at, if_pos rfl]; rfl
          · rw [sI_at, if_neg (by decide)]; exact st.2.2
        · rw [sI_at, if_neg (by decide)]
        · rw [sI_at, if_neg (by decide)]
    · rw [if_neg q3] at hw
      have v2 : vi (nI (k % 10)) (hm_f H) = none := by
        unfold vi
        rw [nI_toInt (by omega), if_neg (by omega)]
      rw [v2, hw]
      exact ⟨h, rfl, DP.none st (by rw [hw]; decide)⟩
  have g51 : ∃ h', f_X8_deed_51 F q a v h = some (nI (dwhy H s b v.toInt), h') ∧ DP q H s b v.toInt h h' := by
    unfold f_X8_deed_51
    have g86 : ¬ (100 ≤ v.toInt ∧ v.toInt ≤ 119) → ∃ h', f_X8_deed_86 F q v h = some (nI (dwhy H s b v.toInt), h') ∧ DP q H s b v.toInt h h' := by
      intro q5
      unfold f_X8_deed_86
      by_cases q6 : 200 ≤ v.toInt ∧ v.toInt ≤ 209
      · rw [if_neg (show ¬ v < 200 from fun z => by have := (l_lt (n := 200) (by decide)).mp z; omega), if_neg (show ¬ (210 : Int64) ≤ v from fun z => by have := (l_le (n := 210) (by decide)).mp z; omega)]
        obtain ⟨j, hj, rfl⟩ : ∃ j, j ≤ 9 ∧ v = lN (200 + j) := ⟨v.toInt.toNat - 200, by omega, by rw [show 200 + (v.toInt.toNat - 200) = v.toInt.toNat by omega]; exact l64 (by omega) (by omega)⟩
        rw [lN_toInt (by omega)] at q2 q5 q6 e1 ⊢
        have hw : dwhy H s b ((200 + j : Nat) : Int) = 0 := by unfold dwhy; rw [if_neg e1, if_pos q6]
        have es : nI (200 + j) - 200 = nI j := by
          have := pk_sub (a := 200 + j) (b := 200) (by omega)
          rw [Nat.add_sub_cancel_left] at this
          exact this
        rw [lN_i, es, cV_n st.1 (cc_bonding F st.1 (nI j)), vi_nI (by omega) (by decide), hw]
        refine ⟨_, rfl, FQ.sI, ?_, ?_, ?_⟩
        · unfold dpo
          rw [if_pos hw]
          unfold dact
          rw [if_neg e1, if_neg (by omega), if_neg (by omega), Int.toNat_natCast, Nat.add_sub_cancel_left]
          refine ⟨st.1, ?_, ?_⟩
          · rw [sI_at, if_neg (by decide)]; exact st.2.1
          · rw [sI_at, if_pos rfl]
        · rw [sI_at, if_neg (by decide)]
        · rw [sI_at, if_neg (by decide)]
      · have hw : dwhy H s b v.toInt = 1 := by unfold dwhy; rw [if_neg e1, if_neg q6, if_neg q2, if_neg q5]
        rw [hw]
        have dn : DP q H s b v.toInt h h := DP.none st (by rw [hw]; decide)
        by_cases q7 : v < 200
        · rw [if_pos q7]; exact ⟨h, rfl, dn⟩
        · rw [if_neg q7]
          have q8 : (210 : Int64) ≤ v := (l_le (n := 210) (by decide)).mpr (by have : ¬ v.toInt < (200 : Nat) := fun z => q7 ((l_lt (n := 200) (by decide)).mpr z); omega)
          rw [if_pos q8]; exact ⟨h, rfl, dn⟩
    by_cases q5 : 100 ≤ v.toInt ∧ v.toInt ≤ 119
    · rw [if_neg (show ¬ v < 100 from fun z => by have := (l_lt (n := 100) (by decide)).mp z; omega), if_neg (show ¬ (120 : Int64) ≤ v from fun z => by have := (l_le (n := 120) (by decide)).mp z; omega)]
      obtain ⟨k, hk, rfl⟩ : ∃ k, k ≤ 119 ∧ v = lN k := ⟨v.toInt.toNat, by omega, l64 (by omega) (by omega)⟩
      rw [lN_toInt (by omega)] at q2 q5 e1 ⊢
      rw [lN_i, show nI k / 10 = nI (k / 10) from pk_div (d := 10) (by omega) (by decide) (by decide), show nI k - nI (k / 10) * 10 = nI (k % 10) by rw [← show nI k / 10 = nI (k / 10) from pk_div (d := 10) (by omega) (by decide) (by decide)]; exact pk_rem (d := 10) (by omega) (by decide) (by decide)]
      rw [show nI (k / 10) - 10 = nI (k / 10 - 10) from pk_sub (b := 10) (by omega), cV_n st.1 (cc_forgetting F c st (nI (k / 10 - 10)) (nI (k % 10)))]
      have v1 : vi (nI (k / 10 - 10)) 2 = some ((k - 100) / 10) := by rw [show k / 10 - 10 = (k - 100) / 10 by omega]; exact vi_nI (by omega) (by decide)
      have hw : dwhy H s b (k : Int) = if k % 10 < hm_f H then (if dg s (4 * ((k - 100) / 10) + k % 10) = 0 then 2 else 0) else 1 := by
        unfold dwhy
        rw [if_neg e1, if_neg (by omega), if_neg q2, if_pos q5, Int.toNat_natCast]
      rw [v1]
      by_cases q3 : k % 10 < hm_f H
      · rw [vi_nI q3 (by omega)]
        rw [if_pos q3] at hw
        dsimp only
        by_cases q4 : dg s (4 * ((k - 100) / 10) + k % 10) = 0
        · rw [if_pos q4] at hw
          rw [if_pos q4, hw]
          exact ⟨h, rfl, DP.none st (by rw [hw]; decide)⟩
        · rw [if_neg q4] at hw
          rw [if_neg q4, hw]
          refine ⟨_, rfl, FQ.sI, ?_, ?_, ?_⟩
          · unfold dpo
            rw [if_pos hw]
            unfold dact
            rw [if_neg e1, if_neg (by omega), if_pos (by omega), Int.toNat_natCast]
            refine ⟨st.1, ?_, ?_⟩
            · rw [sI_at, if_pos rfl]
            · rw [sI_at, if_neg (by decide)]; exact st.2.2
          · rw [sI_at, if_neg (by decide)]
          · rw [sI_at, if_neg (by decide)]
      · rw [if_neg q3] at hw
        have v2 : vi (nI (k % 10)) (hm_f H) = none := by
          unfold vi
          rw [nI_toInt (by omega), if_neg (by omega)]
        rw [v2, hw]
        exact ⟨h, rfl, DP.none st (by rw [hw]; decide)⟩
    · by_cases q7 : v < 100
      · rw [if_pos q7]; exact g86 q5
      · rw [if_neg q7]
        have q8 : (120 : Int64) ≤ v := (l_le (n := 120) (by decide)).mpr (by have : ¬ v.toInt < (100 : Nat) := fun z => q7 ((l_lt (n := 100) (by decide)).mpr z); omega)
        rw [if_pos q8]; exact g86 q5
  by_cases q7 : v < 0
  · rw [if_pos q7]; exact g51
  · rw [if_neg q7]
    have q8 : (20 : Int64) ≤ v := (l_le (n := 20) (by decide)).mpr (by have : ¬ v.toInt < (0 : Nat) := fun z => q7 ((l_lt (n := 0) (by decide)).mpr z); omega)
    rw [if_pos q8]; exact g51
/-! deeds of a tray -/
def TY (h : Hp) (tq N : Nat) (ce : Nat → Int64) : Prop := ∃ tc, hp_t h tq = 10 ∧ hp_R h tq 2 = some tc ∧ hp_t h tc = 23 ∧ hp_l h tc = 40 ∧ hp_I h tq 0 = nI N ∧ N ≤ 40 ∧ ∀ k, k < N → hp_L h tc k = ce k
theorem TY.cg {h h' : Hp} {tq N : Nat} {ce : Nat → Int64} (r : TY h tq N ce) (s : SH h h') (e : hp_I h' tq = hp_I h tq) (e2 : hp_L h' = hp_L h) : TY h' tq N ce := by
  obtain ⟨tc, r⟩ := r
  refine ⟨tc, ?_⟩
  rw [s.1, s.2.1, s.2.2.1, e, e2]; exact r
theorem cc_at (F : Nat) {h : Hp} {tq N : Nat} {ce : Nat → Int64} (r : TY h tq N ce) {k : Nat} (hk : k < N) : f_X9_at F tq (nI k) h = some (ce k, h) := by
  obtain ⟨tc, r1, r2, r3, r4, r5, r6, r7⟩ := r
  unfold f_X9_at
  rw [if_neg (nI_pos (by omega)), gR_n r1 r2, al_n r3 r4, if_neg (nI_ge (by omega) (by decide)), gR_n r1 r2, aL_n r3 r4 rfl (by omega) (by decide), r7 k hk]
theorem cc_deeds_r (F : Nat) {q a tq N : Nat} {H : HM} {ce : Nat → Int64} (hqt : q ≠ tq) (hqa : ∀ k, k < 6 → a + k ≠ q) : ∀ r k n (h : Hp) (s b : Nat), k + r = N → r < n → HC h a H → ST h q s b → STok H s → b < 10 → hp_I h q 2 = 0 → TY h tq N ce → ∃ h', f_X8_deeds_7 F n q a tq (nI k) h = some (nI (k + (rnT H ce k r s b).1), h') ∧ FQ q h h' ∧ ST h' q (rnT H ce k r s b).2.2.1 (rnT H ce k r s b).2.2.2 ∧ hp_I h' q 2 = nI (rnT H ce k r s b).2.1 := by
  intro r
  induction r with
  | zero =>
    intro k n h s b hk hn c st hs hb hy ty
    obtain ⟨n, rfl⟩ : ∃ j, n = j + 1 := ⟨n - 1, by omega⟩
    obtain ⟨tc, r1, r2, r3, r4, r5, r6, r7⟩ := ty
    show ∃ h', f_X8_deeds_7_b F (f_X8_deeds_7 F n) q a tq (nI k) h = _ ∧ _
    unfold f_X8_deeds_7_b
    rw [gI_n r1, r5, if_pos (nI_le (by omega) (by omega)), gI_n r1, r5]
    have e : f_J9_max_7cf53 F 0 (nI N) h = some (nI N, h) := by
      unfold f_J9_max_7cf53
      rcases Nat.eq_zero_or_pos N with z | z
      · subst z; rfl
      · rw [if_pos (show (0 : Int32) < nI N from nI_lt (a := 0) z (by omega))]
    rw [bd_n e, show k + (rnT H ce k 0 s b).1 = N from by show k + 0 = N; omega]
    exact ⟨h, rfl, FQ.rf q h, st, hy⟩
  | succ r ih =>
    intro k n h s b hk hn c st hs hb hy ty
    obtain ⟨n, rfl⟩ : ∃ j, n = j + 1 := ⟨n - 1, by omega⟩
    have ty' := ty
    obtain ⟨tc, r1, r2, r3, r4, r5, r6, r7⟩ := ty
    show ∃ h', f_X8_deeds_7_b F (f_X8_deeds_7 F n) q a tq (nI k) h = _ ∧ _
    unfold f_X8_deeds_7_b
    obtain ⟨h1, e1, d1, d2, d3, d4⟩ := cc_deed F c st hs hb (ce k)
    have t1 : hp_t h1 q = 9 := d2.1
    rw [gI_n r1, r5, if_neg (nI_ge (by omega) (by omega)), cV_n r1 (cc_at F ty' (show k < N by omega)), cV_n st.1 e1, pI_n t1, gI_n (show hp_t (hp_sI h1 q 2 _) q = 9 from t1), sI_at, if_pos rfl]
    have f1 : FQ q h (hp_sI h1 q 2 (nI (dwhy H s b (ce k).toInt))) := d1.tr FQ.sI
    have s1 : ST (hp_sI h1 q 2 (nI (dwhy H s b (ce k).toInt))) q (dpo H s b (ce k).toInt).1 (dpo H s b (ce k).toInt).2 := by
      refine ⟨t1, ?_, ?_⟩
      · rw [sI_at, if_neg (by decide)]; exact d2.2.1
      · rw [sI_at, if_neg (by decide)]; exact d2.2.2
    have wl := dwhy_lt H s b (ce k).toInt
    by_cases q0 : dwhy H s b (ce k).toInt = 0
    · rw [if_pos (show nI _ = 0 by rw [q0]; rfl), nI_1]
      have dp : dpo H s b (ce k).toInt = dact H s b (ce k).toInt := by unfold dpo; rw [if_pos q0]
      rw [dp] at s1
      have ok := dact_ok c.2.1 hs hb q0
      obtain ⟨h2, e2, f2, s2, y2⟩ := ih (k + 1) n (hp_sI h1 q 2 (nI (dwhy H s b (ce k).toInt))) _ _ (by omega) (by omega) (c.cg (fun j _ => by rw [f1.1.1, f1.1.2.1]; exact ⟨rfl, rfl⟩) (by rw [f1.1.2.2.1]) (fun j hj => f1.2.2 _ (hqa j hj))) s1 ok.1 ok.2 (by rw [sI_at, if_pos rfl, q0]; rfl) (ty'.cg f1.1 (f1.2.2 _ (Ne.symm hqt)) f1.2.1)
      rw [rnT, if_pos q0]
      refine ⟨h2, ?_, f1.tr f2, s2, y2⟩
      rw [e2, show k + 1 + (rnT H ce (k + 1) r (dact H s b (ce k).toInt).1 (dact H s b (ce k).toInt).2).1 = k + ((rnT H ce (k + 1) r (dact H s b (ce k).toInt).1 (dact H s b (ce k).toInt).2).1 + 1) by omega]
    · rw [if_neg (nI_ne0 (by omega) (by omega))]
      have dp : dpo H s b (ce k).toInt = (s, b) := by unfold dpo; rw [if_neg q0]
      rw [dp] at s1
      rw [rnT, if_neg q0]
      exact ⟨_, rfl, f1, s1, by rw [sI_at, if_pos rfl]⟩
theorem cc_deeds (F : Nat) (hF : 100 ≤ F) {h : Hp} {q a tq N : Nat} {H : HM} {ce : Nat → Int64} {s b : Nat} (hqt : q ≠ tq) (hqa : ∀ k, k < 6 → a + k ≠ q) (c : HC h a H) (st : ST h q s b) (hs : STok H s) (hb : b < 10) (ty : TY h tq N ce) : ∃ h', f_X8_deeds F q a tq h = some (nI (rnT H ce 0 N s b).1, h') ∧ FQ q h h' ∧ ST h' q (rnT H ce 0 N s b).2.2.1 (rnT H ce 0 N s b).2.2.2 ∧ hp_I h' q 2 = nI (rnT H ce 0 N s b).2.1 := by
  unfold f_X8_deeds
  have hN : N ≤ 40 := by obtain ⟨tc, -, -, -, -, -, z, -⟩ := ty; exact z
  rw [pI_n st.1]
  have f1 : FQ q h (hp_sI h q 2 0) := FQ.sI
  obtain ⟨h2, e2, f2, s2, y2⟩ := cc_deeds_r F hqt hqa N 0 F (hp_sI h q 2 0) s b (by omega) (by omega) (c.cg (fun j _ => ⟨rfl, rfl⟩) rfl (fun j hj => f1.2.2 _ (hqa j hj))) ⟨st.1, by rw [sI_at, if_neg (by decide)]; exact st.2.1, by rw [sI_at, if_neg (by decide)]; exact st.2.2⟩ hs hb (by rw [sI_at, if_pos rfl]) (ty.cg f1.1 (f1.2.2 _ (Ne.symm hqt)) f1.2.1)
  rw [Nat.zero_add] at e2
  exact ⟨h2, e2, f1.tr f2, s2, y2⟩
/-! drawn deeds -/
theorem cc_draw (F : Nat) {h : Hp} {q : Nat} (t : hp_t h q = 9) {x : Int32} (hx : hp_I h q 3 = x) : f_X8_draw F q h = some (ju (lcg x) 16, hp_sI h q 3 (lcg x)) := by
  unfold f_X8_draw
  rw [gI_n t, pI_n t, hx, gI_n (show hp_t (hp_sI h q 3 _) q = 9 from t), sI_at, if_pos rfl]
  rfl
theorem cc_drawnDeed (F : Nat) {h : Hp} {q s b : Nat} (st : ST h q s b) {x : Int32} (hx : hp_I h q 3 = x) : ∃ h', f_X8_drawnDeed F q h = some ((drn x).1, h') ∧ FQ q h h' ∧ ST h' q s b ∧ hp_I h' q 3 = (drn x).2 := by
  have n1 : ∀ (h : Hp) (y : Int32), hp_I (hp_sI h q 3 y) q 3 = y := fun h y => by rw [sI_at, if_pos rfl]
  have s1 : ∀ (h : Hp) (y : Int32), ST h q s b → ST (hp_sI h q 3 y) q s b := fun h y r => ⟨r.1, by rw [sI_at, if_neg (by decide)]; exact r.2.1, by rw [sI_at, if_neg (by decide)]; exact r.2.2⟩
  unfold f_X8_drawnDeed drn
  rw [cV_n st.1 (cc_draw F st.1 hx), lt_e]
  have S1 := s1 h (lcg x) st
  show ∃ h', (if drv (lcg x) 6 = 4 then _ else if drv (lcg x) 6 = 5 then _ else _) = _ ∧ _
  by_cases q4 : drv (lcg x) 6 = 4
  · rw [if_pos q4, if_pos q4]; exact ⟨_, rfl, FQ.sI, S1, n1 _ _⟩
  · rw [if_neg q4, if_neg q4]
    by_cases q5 : drv (lcg x) 6 = 5
    · rw [if_pos q5, if_pos q5, cV_n S1.1 (cc_draw F S1.1 (n1 _ _))]; exact ⟨_, rfl, FQ.sI.tr FQ.sI, s1 _ _ S1, n1 _ _⟩
    · rw [if_neg q5, if_neg q5, cV_n S1.1 (cc_draw F S1.1 (n1 _ _)), lt_e]
      have S2 := s1 _ (lcg (lcg x)) S1
      rw [cV_n S2.1 (cc_draw F S2.1 (n1 _ _)), lt_e]
      have S3 := s1 _ (lcg (lcg (lcg x))) S2
      show ∃ h', (if drv (lcg x) 6 = 3 then _ else _) = _ ∧ _
      unfold f_X8_drawnDeed_57
      by_cases q3 : drv (lcg x) 6 = 3
      · rw [if_pos q3, if_pos q3]; exact ⟨_, rfl, (FQ.sI.tr FQ.sI).tr FQ.sI, S3, n1 _ _⟩
      · rw [if_neg q3, if_neg q3]; exact ⟨_, rfl, (FQ.sI.tr FQ.sI).tr FQ.sI, S3, n1 _ _⟩
theorem cc_drawnDeeds_r (F : Nat) {q a : Nat} {H : HM} (hqa : ∀ k, k < 6 → a + k ≠ q) {N : Nat} (hN : N ≤ 40) : ∀ r k n (h : Hp) (x : Int32) (s b c : Nat), k + r = N → r < n → c ≤ k → HC h a H → ST h q s b → STok H s → b < 10 → hp_I h q 3 = x → ∃ h', f_X8_drawnDeeds_11 F n q a (nI N) (nI c) (nI k) h = some (nI (c + (yrn H r x s b).1), h') ∧ FQ q h h' ∧ ST h' q (yrn H r x s b).2.1 (yrn H r x s b).2.2 := by
  intro r
  induction r with
  | zero =>
    intro k n h x s b c hk hn hc hh st hs hb hx
    obtain ⟨n, rfl⟩ : ∃ j, n = j + 1 := ⟨n - 1, by omega⟩
    show ∃ h', f_X8_drawnDeeds_11_b F (f_X8_drawnDeeds_11 F n) q a (nI N) (nI c) (nI k) h = _ ∧ _
    unfold f_X8_drawnDeeds_11_b
    rw [if_pos (nI_le (by omega) (by omega))]
    exact ⟨h, rfl, FQ.rf q h, st⟩
  | succ r ih =>
    intro k n h x s b c hk hn hc hh st hs hb hx
    obtain ⟨n, rfl⟩ : ∃ j, n = j + 1 := ⟨n - 1, by omega⟩
    show ∃ h', f_X8_drawnDeeds_11_b F (f_X8_drawnDeeds_11 F n) q a (nI N) (nI c) (nI k) h = _ ∧ _
    unfold f_X8_drawnDeeds_11_b f_X8_drawnDeeds_33
    obtain ⟨h1, e1, f1, s1, x1⟩ := cc_drawnDeed F st hx
    have hh1 : HC h1 a H := hh.cg (fun j _ => by rw [f1.1.1, f1.1.2.1]; exact ⟨rfl, rfl⟩) (by rw [f1.1.2.2.1]) (fun j hj => f1.2.2 _ (hqa j hj))
    obtain ⟨h2, e2, d1, d2, d3, d4⟩ := cc_deed F hh1 s1 hs hb (drn x).1.toInt64
    rw [i64_toInt] at e2 d2
    have hh2 : HC h2 a H := hh1.cg (fun j _ => by rw [d1.1.1, d1.1.2.1]; exact ⟨rfl, rfl⟩) (by rw [d1.1.2.2.1]) (fun j hj => d1.2.2 _ (hqa j hj))
    have wl := dwhy_lt H s b (drn x).1.toInt
    rw [if_neg (nI_ge (by omega) (by omega)), cV_n st.1 e1, cV_n s1.1 e2, nI_1, nI_1, yrn]
    by_cases q0 : dwhy H s b (drn x).1.toInt = 0
    · have dp : dpo H s b (drn x).1.toInt = dact H s b (drn x).1.toInt := by unfold dpo; rw [if_pos q0]
      rw [dp] at d2
      have ok := dact_ok hh.2.1 hs hb q0
      obtain ⟨h3, e3, f3, s3⟩ := ih (k + 1) n h2 (drn x).2 _ _ (c + 1) (by omega) (by omega) (by omega) hh2 d2 ok.1 ok.2 (by rw [d4]; exact x1)
      rw [if_pos (show nI _ = 0 by rw [q0]; rfl), if_pos q0, e3]
      refine ⟨h3, ?_, (f1.tr d1).tr f3, s3⟩
      rw [show c + 1 + (yrn H r (drn x).2 (dact H s b (drn x).1.toInt).1 (dact H s b (drn x).1.toInt).2).1 = c + ((yrn H r (drn x).2 (dact H s b (drn x).1.toInt).1 (dact H s b (drn x).1.toInt).2).1 + 1) by omega]
    · have dp : dpo H s b (drn x).1.toInt = (s, b) := by unfold dpo; rw [if_neg q0]
      rw [dp] at d2
      obtain ⟨h3, e3, f3, s3⟩ := ih (k + 1) n h2 (drn x).2 s b c (by omega) (by omega) (by omega) hh2 d2 hs hb (by rw [d4]; exact x1)
      rw [if_neg (nI_ne0 (by omega) (by omega)), if_neg q0, e3]
      exact ⟨h3, rfl, (f1.tr d1).tr f3, s3⟩
theorem cc_drawnDeeds (F : Nat) (hF : 100 ≤ F) {h : Hp} {q a : Nat} {H : HM} (hqa : ∀ k, k < 6 → a + k ≠ q) {N : Nat} (hN : N ≤ 40) (x : Int32) {s b : Nat} (hh : HC h a H) (st : ST h q s b) (hs : STok H s) (hb : b < 10) : ∃ h', f_X8_drawnDeeds F q a x (nI N) h = some (nI (yrn H N x s b).1, h') ∧ FQ q h h' ∧ ST h' q (yrn H N x s b).2.1 (yrn H N x s b).2.2 := by
  unfold f_X8_drawnDeeds
  rw [pI_n st.1]
  have f1 : FQ q h (hp_sI h q 3 x) := FQ.sI
  obtain ⟨h2, e2, f2, s2⟩ := cc_drawnDeeds_r F hqa hN N 0 F (hp_sI h q 3 x) x s b 0 (by omega) (by omega) (by omega) (hh.cg (fun j _ => ⟨rfl, rfl⟩) rfl (fun j hj => f1.2.2 _ (hqa j hj))) ⟨st.1, by rw [sI_at, if_neg (by decide)]; exact st.2.1, by rw [sI_at, if_neg (by decide)]; exact st.2.2⟩ hs hb (by rw [sI_at, if_pos rfl])
  rw [Nat.zero_add] at e2
  exact ⟨h2, e2, f1.tr f2, s2⟩
