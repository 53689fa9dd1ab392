/-! L3: tellings in the reference -/
/-- a law of block A at the words W has the value v -/
def LV (A : Nat → Int32) (law : Nat) (W : Nat → Int32) (v : Int32) : Prop := ∀ (F : Nat) (h : Hp) (m : Nat), 2000 ≤ F → SR h m → (∀ k, (k < 13 ∨ 144 ≤ k ∧ k < 1044) → hp_I h (m + 1) k = A k) → (∀ j, j < 6 → hp_I h (m + 6) j = W j) → ∃ h', f_X12_reckons F m (nI law) h = some (v, h') ∧ CI m [5] h h'
def wd (t f : Nat) (kd : Int32) (k1 k2 b : Nat) : Nat → Int32 := fun j => match j with
  | 0 => nI t | 1 => nI f | 2 => kd | 3 => nI k1 | 4 => nI k2 | _ => nI b
/-- what comes, cut to 0 to 3 -/
def clc (v : Int32) : Nat := if 0 ≤ v then (if v ≤ 3 then v.toNatClampNeg else 3) else 0
theorem clc_lt (v : Int32) : clc v < 4 := by
  unfold clc
  by_cases q : 0 ≤ v
  · rw [if_pos q]
    by_cases q2 : v ≤ 3
    · rw [if_pos q2]
      have := Int32.le_iff_toInt_le.mp q2
      show v.toInt.toNat < 4
      have e : (3 : Int32).toInt = 3 := rfl
      omega
    · rw [if_neg q2]; decide
  · rw [if_neg q]; decide
def LC (A : Nat → Int32) (H : HM) : Prop := ∀ b t f k1 k2, b < 10 → t < 2 → f < hm_f H → k1 ≤ hm_f H → k2 ≤ hm_f H → ∃ vm vc : Int32, (A 4 ≠ 0 → LV A 1 (wd t f (A (9 + f)) k1 k2 b) vm) ∧ (A 3 ≠ 0 → LV A 0 (wd t f (A (9 + f)) k1 k2 b) vc) ∧ hm_c H b t f k1 k2 = if A 4 = 0 ∨ vm = 1 then some (if A 3 = 0 then 2 else clc vc) else none
theorem LV.cg {A A' : Nat → Int32} {law : Nat} {W : Nat → Int32} {v : Int32} (hA : ∀ k, (k < 13 ∨ 144 ≤ k ∧ k < 1044) → A' k = A k) (h : LV A law W v) : LV A' law W v := fun F h0 m hF hS h1 h2 => h F h0 m hF hS (fun k hk => (h1 k hk).trans (hA k hk)) h2
theorem LC.cg {A A' : Nat → Int32} {H : HM} (hA : ∀ k, (k < 13 ∨ 144 ≤ k ∧ k < 1044) → A' k = A k) (hf : hm_f H ≤ 4) (h : LC A H) : LC A' H := by
  intro b t f k1 k2 h1 h2 h3 h4 h5
  obtain ⟨vm, vc, l1, l2, l3⟩ := h b t f k1 k2 h1 h2 h3 h4 h5
  refine ⟨vm, vc, ?_, ?_, ?_⟩
  · rw [hA 4 (by omega), hA (9 + f) (by omega)]; exact fun q => (l1 q).cg hA
  · rw [hA 3 (by omega), hA (9 + f) (by omega)]; exact fun q => (l2 q).cg hA
  · rw [hA 3 (by omega), hA 4 (by omega)]; exact l3
theorem kn_f {H : HM} {s t : Nat} (hs : STok H s) (ht : t < 2) (hf : hm_f H ≤ 4) : kn s t ≤ hm_f H := by
  have z : ∀ f, f < 4 → hm_f H ≤ f → b1 (0 < dg s (4 * t + f)) = 0 := fun f h1 h2 => by
    unfold b1; rw [hs.2 t f ht h1 h2]; rfl
  have := b1_le (0 < dg s (4 * t)); have := b1_le (0 < dg s (4 * t + 1)); have := b1_le (0 < dg s (4 * t + 2)); have := b1_le (0 < dg s (4 * t + 3))
  have z0 := z 0 (by decide); have z1 := z 1 (by decide); have z2 := z 2 (by decide); have z3 := z 3 (by decide)
  rw [Nat.add_zero] at z0
  unfold kn
  rcases (show hm_f H = 0 ∨ hm_f H = 1 ∨ hm_f H = 2 ∨ hm_f H = 3 ∨ hm_f H = 4 by omega) with e | e | e | e | e <;> rw [e] at z0 z1 z2 z3 ⊢ <;> simp only [Nat.reduceLeDiff, forall_const, false_implies] at z0 z1 z2 z3 <;> omega
theorem one_sub {t : Nat} (ht : t < 2) : (1 : Int32) - nI t = nI (1 - t) := by
  rcases (show t = 0 ∨ t = 1 by omega) with rfl | rfl <;> decide
theorem rc_laysWords (F : Nat) (hF : 100 ≤ F) {m : Nat} {h : Hp} (hS : SR h m) {s t f b : Nat} (hs : s < 65536) (ht : t < 2) (hf : f < 4) (hb : hp_I h (m + 1) 51 = nI b) : ∃ h', f_X12_laysWords F m (nI s) (nI t) (nI f) h = some ((), h') ∧ CI m [6] h h' ∧ ∀ j, j < 6 → hp_I h' (m + 6) j = wd t f (hp_I h (m + 1) (9 + f)) (kn s t) (kn s (1 - t)) b j := by
  unfold f_X12_laysWords
  rw [hS.g 6 17 (by decide) rfl, hS.w 6 0 (show (0 : Int32) = nI 0 from rfl) (by decide) (by decide)]
  have S1 := hS.sI (m + 6) 0 (nI t)
  rw [S1.g 6 17 (by decide) rfl, S1.w 6 1 (show (1 : Int32) = nI 1 from rfl) (by decide) (by decide)]
  have S2 := S1.sI (m + 6) 1 (nI f)
  rw [S2.g 6 17 (by decide) rfl, S2.g 1 1 (by decide) rfl, S2.a 1 (9 + f) (show 9 + nI f = nI (9 + f) from nI_add 9 f) (by decide) (show 9 + f < 3132 by omega)]
  have e9 : hp_I (hp_sI (hp_sI h (m + 6) 0 (nI t)) (m + 6) 1 (nI f)) (m + 1) (9 + f) = hp_I h (m + 1) (9 + f) := by
    rw [hp_I_sI, if_neg (by omega), hp_I_sI, if_neg (by omega)]
  rw [e9]
  generalize hkd : hp_I h (m + 1) (9 + f) = kd
  rw [S2.w 6 2 (show (2 : Int32) = nI 2 from rfl) (by decide) (by decide)]
  have S3 := S2.sI (m + 6) 2 kd
  rw [S3.g 6 17 (by decide) rfl, bd_n (rc_knownIn F hF hs ht _), S3.w 6 3 (show (3 : Int32) = nI 3 from rfl) (by decide) (by decide)]
  have S4 := S3.sI (m + 6) 3 (nI (kn s t))
  rw [S4.g 6 17 (by decide) rfl, one_sub ht, bd_n (rc_knownIn F hF hs (show 1 - t < 2 by omega) _), S4.w 6 4 (show (4 : Int32) = nI 4 from rfl) (by decide) (by decide)]
  have S5 := S4.sI (m + 6) 4 (nI (kn s (1 - t)))
  rw [S5.g 6 17 (by decide) rfl, S5.g 1 1 (by decide) rfl, S5.a 1 51 (show (51 : Int32) = nI 51 from rfl) (by decide) (by decide)]
  rw [show hp_I (hp_sI (hp_sI (hp_sI (hp_sI (hp_sI h (m + 6) 0 (nI t)) (m + 6) 1 (nI f)) (m + 6) 2 kd) (m + 6) 3 (nI (kn s t))) (m + 6) 4 (nI (kn s (1 - t)))) (m + 1) 51 = nI b by
    rw [hp_I_sI, if_neg (by omega), hp_I_sI, if_neg (by omega), hp_I_sI, if_neg (by omega), hp_I_sI, if_neg (by omega), hp_I_sI, if_neg (by omega), hb]]
  rw [S5.w 6 5 (show (5 : Int32) = nI 5 from rfl) (by decide) (by decide)]
  refine ⟨_, rfl, ?_, fun j hj => ?_⟩
  · have k6 : 6 ∈ [6] := by decide
    exact (((((CI.sI (h := h) k6).tr (CI.sI k6)).tr (CI.sI k6)).tr (CI.sI k6)).tr (CI.sI k6)).tr (CI.sI k6)
  · rcases (show j = 0 ∨ j = 1 ∨ j = 2 ∨ j = 3 ∨ j = 4 ∨ j = 5 by omega) with rfl | rfl | rfl | rfl | rfl | rfl <;> simp [hp_I_sI, wd]
def bsm {α : Type} (o : Option α) : Nat := match o with
  | none => 0
  | some _ => 1
theorem blk {A : Nat → Int32} {h h' : Hp} {m : Nat} {ks : List Nat} (c : CI m ks h h') (hk : 1 ∉ ks) (hA : hp_I h (m + 1) = A) : ∀ k, (k < 13 ∨ 144 ≤ k ∧ k < 1044) → hp_I h' (m + 1) k = A k := fun k _ => by rw [c.at hk, hA]
/-- what a telling brings, at a stand -/
def tel (H : HM) (b s t f : Nat) : Option Nat := hm_c H b t f (kn s t) (kn s (1 - t))
theorem rc_mayTell (F : Nat) (hF : 2000 ≤ F) {m : Nat} {h : Hp} (hS : SR h m) {H : HM} (hH : HMok H) {s b s0 : Nat} (hB : RB (hp_I h (m + 1)) H s0 b) (hL : LC (hp_I h (m + 1)) H) (hb : b < 10) (hs : STok H s) {t f : Nat} (ht : t < 2) (hf : f < hm_f H) : ∃ h', f_X12_mayTell F m (nI s) (nI t) (nI f) h = some (nI (bsm (tel H b s t f)), h') ∧ CI m [5, 6] h h' := by
  have hf4 : f < 4 := Nat.lt_of_lt_of_le hf hH.1
  obtain ⟨vm, vc, l1, l2, l3⟩ := hL b t f (kn s t) (kn s (1 - t)) hb ht hf (kn_f hs ht hH.1) (kn_f hs (by omega) hH.1)
  unfold f_X12_mayTell tel
  rw [hS.g 1 1 (by decide) rfl, hS.a 1 4 (show (4 : Int32) = nI 4 from rfl) (by decide) (by decide), l3]
  by_cases q : hp_I h (m + 1) 4 = 0
  · rw [if_pos q, if_pos (Or.inl q)]
    exact ⟨h, rfl, CI.rf _ _ _⟩
  · rw [if_neg q]
    obtain ⟨h1, e1, c1, w1⟩ := rc_laysWords F (by omega) hS hs.1 ht hf4 hB.2.2.2.2.2.2
    obtain ⟨h2, e2, c2⟩ := l1 q F h1 m hF (c1.1.SR hS) (blk c1 (by decide) rfl) w1
    rw [cV_n hS.1 e1, cV_n (c1.1.SR hS).1 (show f_X12_reckons F m 1 h1 = _ from e2)]
    refine ⟨h2, ?_, (c1.mono (by decide)).tr (c2.mono (by decide))⟩
    by_cases q2 : vm = 1
    · rw [if_pos q2, if_pos (Or.inr q2)]; rfl
    · rw [if_neg q2, if_neg (fun z => z.elim q q2)]; rfl
theorem rc_comesTo (F : Nat) (hF : 2000 ≤ F) {m : Nat} {h : Hp} (hS : SR h m) {H : HM} (hH : HMok H) {s b s0 : Nat} (hB : RB (hp_I h (m + 1)) H s0 b) (hL : LC (hp_I h (m + 1)) H) (hb : b < 10) (hs : STok H s) {t f c : Nat} (ht : t < 2) (hf : f < hm_f H) (hc : tel H b s t f = some c) : ∃ h', f_X12_comesTo F m (nI s) (nI t) (nI f) h = some (nI c, h') ∧ CI m [5, 6] h h' := by
  have hf4 : f < 4 := Nat.lt_of_lt_of_le hf hH.1
  obtain ⟨vm, vc, l1, l2, l3⟩ := hL b t f (kn s t) (kn s (1 - t)) hb ht hf (kn_f hs ht hH.1) (kn_f hs (by omega) hH.1)
  unfold tel at hc
  rw [hc] at l3
  have l4 : c = if hp_I h (m + 1) 3 = 0 then 2 else clc vc := by
    by_cases q : hp_I h (m + 1) 4 = 0 ∨ vm = 1
    · rw [if_pos q] at l3; exact Option.some.inj l3
    · rw [if_neg q] at l3; cases l3
  unfold f_X12_comesTo
  rw [hS.g 1 1 (by decide) rfl, hS.a 1 3 (show (3 : Int32) = nI 3 from rfl) (by decide) (by decide), l4]
  by_cases q : hp_I h (m + 1) 3 = 0
  · rw [if_pos q, if_pos q]
    exact ⟨h, rfl, CI.rf _ _ _⟩
  · rw [if_neg q, if_neg q]
    obtain ⟨h1, e1, c1, w1⟩ := rc_laysWords F (by omega) hS hs.1 ht hf4 hB.2.2.2.2.2.2
    obtain ⟨h2, e2, c2⟩ := l2 q F h1 m hF (c1.1.SR hS) (blk c1 (by decide) rfl) w1
    rw [cV_n hS.1 e1, cV_n (c1.1.SR hS).1 (show f_X12_reckons F m 0 h1 = _ from e2)]
    refine ⟨h2, ?_, (c1.mono (by decide)).tr (c2.mono (by decide))⟩
    unfold clc
    by_cases q2 : 0 ≤ vc
    · rw [if_pos q2, if_pos q2]
      by_cases q3 : vc ≤ 3
      · rw [if_pos q3, if_pos q3]
        obtain ⟨j, hj3, hj⟩ := nI_of2 (x := vc) (M := 3) (n := 3) rfl (Int32.not_lt.mpr q2) q3
        rw [hj, nI_clamp (by omega)]
      · rw [if_neg q3, if_neg q3]; rfl
    · rw [if_neg q2, if_neg q2]; rfl
/-- the stand behind a telling by which c comes -/
def tos (s t f c : Nat) : Nat := st4 (st4 s (4 * t + f) (if dg s (4 * t + f) = 0 then 1 else dg s (4 * t + f))) (4 * (1 - t) + f) (if c ≤ dg s (4 * (1 - t) + f) then dg s (4 * (1 - t) + f) else c)
theorem rc_toldTo (F : Nat) (hF : 2000 ≤ F) {m : Nat} {h : Hp} (hS : SR h m) {H : HM} (hH : HMok H) {s b s0 : Nat} (hB : RB (hp_I h (m + 1)) H s0 b) (hL : LC (hp_I h (m + 1)) H) (hb : b < 10) (hs : STok H s) {t f c : Nat} (ht : t < 2) (hf : f < hm_f H) (hc : tel H b s t f = some c) : ∃ h', f_X12_toldTo F m (nI s) (nI t) (nI f) h = some (nI (tos s t f c), h') ∧ CI m [5, 6] h h' := by
  have hf4 : f < 4 := Nat.lt_of_lt_of_le hf hH.1
  obtain ⟨h1, e1, c1⟩ := rc_comesTo F hF hS hH hB hL hb hs ht hf hc
  have hc4 : c < 4 := hH.2.2.2.2.1 _ _ _ _ _ _ hc
  refine ⟨h1, ?_, c1⟩
  unfold f_X12_toldTo
  have d0 := dg_lt s (4 * t + f)
  have d1 := dg_lt s (4 * (1 - t) + f)
  rw [cV_n hS.1 e1, one_sub ht, bd_n (rc_ageIn F hs.1 (show 1 - t < 2 by omega) hf4 h1), bd_n (rc_ageIn F hs.1 ht hf4 h1)]
  have key : ∀ v, v < 4 → f_X12_toldTo_41 F (nI t) (nI f) (nI c) (nI (dg s (4 * (1 - t) + f))) (nI v) (nI f) (nI t) (nI s) h1 = some (nI (st4 (st4 s (4 * t + f) v) (4 * (1 - t) + f) (if c ≤ dg s (4 * (1 - t) + f) then dg s (4 * (1 - t) + f) else c)), h1) := by
    intro v hv
    unfold f_X12_toldTo_41 f_X12_toldTo_62
    rw [bd_n (rc_withAge F hs.1 ht hf4 hv h1), one_sub ht]
    by_cases q : c ≤ dg s (4 * (1 - t) + f)
    · rw [if_pos (nI_le q (by omega)), if_pos q, bd_n (rc_withAge F (st4_lt hv) (show 1 - t < 2 by omega) hf4 d1 h1)]
    · rw [if_neg (nI_ge (by omega) (by omega)), if_neg q, bd_n (rc_withAge F (st4_lt hv) (show 1 - t < 2 by omega) hf4 hc4 h1)]
  unfold tos
  by_cases q : dg s (4 * t + f) = 0
  · rw [if_pos (show nI _ = 0 by rw [q]; rfl), if_pos q]
    exact key 1 (by decide)
  · rw [if_neg (nI_ne0 (by omega) (by omega)), if_neg q]
    exact key _ d0
