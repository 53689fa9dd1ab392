/-! L3, the class: the tape; counts -/
/-- a byte as the class's tape has it -/
def sx (n : Nat) : Int32 := (nI n).toInt8.toInt32
theorem t8 (y : Int32) : (nI (by8 y)).toInt8 = y.toInt8 := by
  rw [← and255]
  apply Int8.toBitVec_inj.mp
  show BitVec.signExtend 8 (y &&& 255).toBitVec = BitVec.signExtend 8 y.toBitVec
  apply BitVec.eq_of_getLsbD_eq
  intro i hi
  have e : bt (y &&& 255) i = bt y i := by rw [b_and, b_255, decide_eq_true hi, Bool.and_true]
  have e : (y &&& 255).toBitVec.getLsbD i = y.toBitVec.getLsbD i := e
  rw [BitVec.getLsbD_signExtend, BitVec.getLsbD_signExtend, if_pos (by omega), if_pos (by omega), e]
theorem sx8 (y : Int32) : y.toInt8.toInt32 = sx (by8 y) := by unfold sx; rw [t8]
def CTp (h : Hp) (x tap : Nat) (tp : Nat → Nat) : Prop := hp_I h x 1 = nI tap ∧ tap ≤ 900 ∧ ∀ j, j < tap → hp_I h (x + 1) j = sx (tp j) ∧ tp j < 256
theorem CTp.fa {h h' : Hp} {x tap : Nat} {tp : Nat → Nat} {ks : List Nat} (r : CTp h x tap tp) (f : FA x ks h h') (h0 : 0 ∉ ks) (h1 : 1 ∉ ks) : CTp h' x tap tp := by
  unfold CTp
  rw [f.at0 h0, f.at h1]; exact r
theorem wB_n {α : Type} {a j n : Nat} {h : Hp} {i v : Int32} (ht : hp_t h a = 21) (hl : hp_l h a = n) (hi : i = nI j) (hj : j < n) (hn : n < 2 ^ 31) (K : Hp → Option α) : wB h a i v.toInt8.toInt32 K = K (hp_sI h a j v.toInt8.toInt32) := by
  subst hi
  unfold wB
  rw [gd_t ⟨ht, by rw [hl]; exact inb_n hj hn⟩, ix_n (by omega), pk_vb]
theorem shk : ∀ k, k < 4 → nI (24 - 8 * k) + (-8) = (if k = 3 then -8 else nI (24 - 8 * (k + 1))) ∧ ¬ nI (24 - 8 * k) < 0 := by decide +kernel
theorem cc_tape_r (F : Nat) {x tap : Nat} (w : Int32) (ht : tap + 4 ≤ 900) : ∀ r k n (h : Hp), CSH h x → k + r = 4 → r < n → hp_I h x 1 = nI (tap + k) → ∃ h', f_X11_tapeInt_3 F n x w (if k = 4 then -8 else nI (24 - 8 * k)) h = some ((), h') ∧ FA x [0, 1] h h' ∧ hp_I h' x 1 = nI (tap + 4) ∧ ∀ j, hp_I h' (x + 1) j = if tap + k ≤ j ∧ j < tap + 4 then sx (wb w (j - tap)) else hp_I h (x + 1) j := by
  intro r
  induction r with
  | zero =>
    intro k n h c hk hn h1
    obtain ⟨n, rfl⟩ : ∃ j, n = j + 1 := ⟨n - 1, by omega⟩
    have e : k = 4 := by omega
    subst e
    show ∃ h', f_X11_tapeInt_3_b F (f_X11_tapeInt_3 F n) x w (-8) h = _ ∧ _
    unfold f_X11_tapeInt_3_b
    rw [if_pos (by decide)]
    exact ⟨h, rfl, FA.rf _ _ _, h1, fun j => by rw [if_neg (by omega)]⟩
  | succ r ih =>
    intro k n h c hk hn h1
    obtain ⟨n, rfl⟩ : ∃ j, n = j + 1 := ⟨n - 1, by omega⟩
    have k4 : k < 4 := by omega
    rw [if_neg (show ¬ k = 4 by omega)]
    show ∃ h', f_X11_tapeInt_3_b F (f_X11_tapeInt_3 F n) x w (nI (24 - 8 * k)) h = _ ∧ _
    unfold f_X11_tapeInt_3_b
    have c1 : CSH (hp_sI h (x + 1) (tap + k) (sx (wb w k))) x := c.sh (SH.rf h)
    rw [if_neg (shk k k4).2, gI_n c.t0, h1, if_neg (show ¬ (900 : Int32) ≤ nI (tap + k) from i_ge (a := 900) (show tap + k < 900 by omega) (by decide)), c.g0 0 1 (by decide), gI_n c.t0, h1, wB_n (c.t 1 21 (by decide)) (c.l 1 900 (by decide)) rfl (by omega) (by decide), sx8, show by8 (w >>> (nI (24 - 8 * k) &&& 31)) = wb w k from rfl, gI_n c1.t0, sI_ne h _ _ (show x ≠ x + 1 by omega), h1, pI_n c1.t0, nI_1, (shk k k4).1]
    have f1 : FA x [0, 1] h (hp_sI (hp_sI h (x + 1) (tap + k) (sx (wb w k))) x 1 (nI (tap + k + 1))) := (FA.sI (k := 1) (by decide)).tr (FA.sI (k := 0) (by decide))
    obtain ⟨h', e', f', i', v'⟩ := ih (k + 1) n _ (c1.sh (h' := hp_sI (hp_sI h (x + 1) (tap + k) (sx (wb w k))) x 1 (nI (tap + k + 1))) (SH.rf _)) (by omega) (by omega) (by rw [sI_at, if_pos rfl]; rfl)
    rw [show (if k + 1 = 4 then (-8 : Int32) else nI (24 - 8 * (k + 1))) = (if k = 3 then -8 else nI (24 - 8 * (k + 1))) by
      by_cases q : k = 3
      · rw [if_pos q, if_pos (by omega)]
      · rw [if_neg q, if_neg (by omega)]] at e'
    refine ⟨h', e', f1.tr f', i', fun j => ?_⟩
    rw [v' j, sI_ne _ _ _ (show x + 1 ≠ x by omega), sI_at]
    by_cases q : tap + (k + 1) ≤ j ∧ j < tap + 4
    · rw [if_pos q, if_pos (by omega)]
    · rw [if_neg q]
      by_cases q2 : j = tap + k
      · rw [if_pos q2, if_pos (by omega), q2, Nat.add_sub_cancel_left]
      · rw [if_neg q2, if_neg (by omega)]
theorem cc_tapeInt (F : Nat) (hF : 100 ≤ F) {x tap : Nat} (w : Int32) (ht : tap + 4 ≤ 900) {h : Hp} (c : CSH h x) (h1 : hp_I h x 1 = nI tap) : ∃ h', f_X11_tapeInt F x w h = some ((), h') ∧ FA x [0, 1] h h' ∧ hp_I h' x 1 = nI (tap + 4) ∧ ∀ j, hp_I h' (x + 1) j = if tap ≤ j ∧ j < tap + 4 then sx (wb w (j - tap)) else hp_I h (x + 1) j := by
  unfold f_X11_tapeInt
  exact cc_tape_r F w ht 4 0 F h c (by omega) (by omega) h1
theorem cc_feed (F : Nat) (hF : 100 ≤ F) {h : Hp} {x tap : Nat} {tp : Nat → Nat} (c : CSH h x) (r : CTp h x tap tp) (v1 v2 v3 v4 v5 : Int32) : ∃ h', f_X11_feed F x v1 v2 v3 v4 v5 h = some ((sp_feed tap tp v1 v2 v3 v4 v5).1, h') ∧ FA x [0, 1] h h' ∧ CTp h' x (sp_feed tap tp v1 v2 v3 v4 v5).2.1 (sp_feed tap tp v1 v2 v3 v4 v5).2.2 := by
  obtain ⟨r1, r2, r3⟩ := r
  unfold f_X11_feed sp_feed
  rw [gI_n c.t0, r1, show nI tap + 20 = nI (tap + 20) from nI_add tap 20]
  by_cases q : tap + 20 ≤ 900
  · rw [if_pos (show nI (tap + 20) ≤ 900 from nI_le (b := 900) q (by decide)), if_pos q]
    obtain ⟨h1, e1, f1, i1, w1⟩ := cc_tapeInt F hF v1 (by omega) c r1
    have c1 := c.sh f1.1
    obtain ⟨h2, e2, f2, i2, w2⟩ := cc_tapeInt F hF v2 (by omega) c1 i1
    have c2 := c1.sh f2.1
    obtain ⟨h3, e3, f3, i3, w3⟩ := cc_tapeInt F hF v3 (by omega) c2 i2
    have c3 := c2.sh f3.1
    obtain ⟨h4, e4, f4, i4, w4⟩ := cc_tapeInt F hF v4 (by omega) c3 i3
    have c4 := c3.sh f4.1
    obtain ⟨h5, e5, f5, i5, w5⟩ := cc_tapeInt F hF v5 (by omega) c4 i4
    have c5 := c4.sh f5.1
    rw [cV_n c.t0 e1, cV_n c1.t0 e2, cV_n c2.t0 e3, cV_n c3.t0 e4, cV_n c4.t0 e5, gI_n c5.t0, i5]
    refine ⟨h5, rfl, (((f1.tr f2).tr f3).tr f4).tr f5, i5, q, fun j hj => ?_⟩
    have hj : j < tap + 20 := hj
    rw [w5 j, w4 j, w3 j, w2 j, w1 j]
    by_cases q0 : tap ≤ j
    · show _ = sx (if tap ≤ j ∧ j < tap + 20 then wbt v1 v2 v3 v4 v5 (j - tap) else tp j) ∧ (if tap ≤ j ∧ j < tap + 20 then wbt v1 v2 v3 v4 v5 (j - tap) else tp j) < 256
      rw [if_pos (show tap ≤ j ∧ j < tap + 20 from ⟨q0, hj⟩)]
      refine ⟨?_, by8_lt _⟩
      obtain ⟨i, rfl⟩ : ∃ i, j = tap + i := ⟨j - tap, by omega⟩
      rw [Nat.add_sub_cancel_left]
      unfold wbt wrd
      rcases (show i < 4 ∨ (4 ≤ i ∧ i < 8) ∨ (8 ≤ i ∧ i < 12) ∨ (12 ≤ i ∧ i < 16) ∨ (16 ≤ i ∧ i < 20) by omega) with z | z | z | z | z
      · rw [if_neg (by omega), if_neg (by omega), if_neg (by omega), if_neg (by omega), if_pos (by omega), if_pos z, show i % 4 = i by omega]
      · rw [if_neg (by omega), if_neg (by omega), if_neg (by omega), if_pos (by omega), if_neg (by omega), if_pos z.2, show tap + i - (tap + 4) = i % 4 by omega]
      · rw [if_neg (by omega), if_neg (by omega), if_pos (by omega), if_neg (by omega), if_neg (by omega), if_pos z.2, show tap + i - (tap + 4 + 4) = i % 4 by omega]
      · rw [if_neg (by omega), if_pos (by omega), if_neg (by omega), if_neg (by omega), if_neg (by omega), if_pos z.2, show tap + i - (tap + 4 + 4 + 4) = i % 4 by omega]
      · rw [if_pos (by omega), if_neg (by omega), if_neg (by omega), if_neg (by omega), if_neg (by omega), show tap + i - (tap + 4 + 4 + 4 + 4) = i % 4 by omega]
    · show _ = sx (if tap ≤ j ∧ j < tap + 20 then wbt v1 v2 v3 v4 v5 (j - tap) else tp j) ∧ (if tap ≤ j ∧ j < tap + 20 then wbt v1 v2 v3 v4 v5 (j - tap) else tp j) < 256
      rw [if_neg (by omega), if_neg (by omega), if_neg (by omega), if_neg (by omega), if_neg (by omega), if_neg (by omega)]
      exact r3 j (by omega)
  · rw [if_neg (show ¬ nI (tap + 20) ≤ 900 from nI_ge (a := 900) (by omega) (by omega)), if_neg q]
    exact ⟨h, rfl, FA.rf _ _ _, r1, r2, r3⟩
theorem cc_count (F : Nat) {h : Hp} {x a : Nat} {H : HM} {s b n tap : Nat} {ps : Nat → Nat × Nat} (r : CP h x a H s b n ps) (ht : hp_I h x 1 = nI tap) (y : Int32) : f_X11_count F x y h = some (sp_count H s b n tap y, h) := by
  unfold f_X11_count sp_count
  rw [r.1.home, r.1.hc.fs, r.1.home, r.1.hc.ds, r.1.now, r.1.ages, bd_n (show f_X2_knownTo F (nI (cs s)) 0 h = _ from cc_knownTo F (t := 0) (by decide) h), r.1.now, r.1.ages, bd_n (show f_X2_knownTo F (nI (cs s)) 1 h = _ from cc_knownTo F (t := 1) (by decide) h), r.1.now, r.1.bond, r.1.home, r.1.now, r.1.ages, cV_n r.1.hc.t (cc_doneByBoth F r.1.hc r.1.ok), r.1.1.g0 7 17 (by decide), gI_n (r.1.1.t 17 5 (by decide)), r.2.1.1, gI_n r.1.1.t0, ht, r.1.home, r.1.hc.ls]
  by_cases q0 : y = 0
  · rw [if_pos q0, if_pos q0]
  rw [if_neg q0, if_neg q0]
  by_cases q1 : y = 1
  · rw [if_pos q1, if_pos q1]
  rw [if_neg q1, if_neg q1]
  by_cases q2 : y = 2
  · rw [if_pos q2, if_pos q2]
  rw [if_neg q2, if_neg q2]
  by_cases q3 : y = 3
  · rw [if_pos q3, if_pos q3]
  rw [if_neg q3, if_neg q3]
  by_cases q4 : y = 4
  · rw [if_pos q4, if_pos q4]
  rw [if_neg q4, if_neg q4]
  by_cases q5 : y = 5
  · rw [if_pos q5, if_pos q5]
  rw [if_neg q5, if_neg q5]
  by_cases q6 : y = 6
  · rw [if_pos q6, if_pos q6]
  rw [if_neg q6, if_neg q6]
  by_cases q7 : y = 7
  · rw [if_pos q7, if_pos q7]
  rw [if_neg q7, if_neg q7]
  by_cases q8 : y = 8
  · rw [if_pos q8, if_pos q8]
  rw [if_neg q8, if_neg q8]
