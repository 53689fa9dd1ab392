/-! L3, the class: what comes is weighed -/
section case
variable {F x a nf fc fm t f k1 k2 : Nat} {ks : Nat → Nat} {lc lm : List Nat}
theorem lwv_nb {b b' kd : Nat} {l : List Nat} (h : ∀ r ∈ l, r ≠ 1005) : lwv (Wd t f kd k1 k2 b') l = lwv (Wd t f kd k1 k2 b) l := by
  unfold lwv
  rw [ev_nb (W := Wd t f kd k1 k2 b) (fun j hj => by
    match j with
    | 0 => rfl
    | 1 => rfl
    | 2 => rfl
    | 3 => rfl
    | 4 => rfl
    | 5 => exact absurd rfl hj
    | _ + 6 => rfl) l [] h]
theorem cc_b45 (hF : 2000 ≤ F) (ht : t < 2) (hf : f < nf) (h1 : k1 ≤ nf) (h2 : k2 ≤ nf) {l2 : Int32} (no : l2 = 0 → ∀ b, b < 10 → hmc ks lc lm b t f k1 k2 = none) (ya : l2 ≠ 0 → ∀ b, b < 10 → hmc ks lc lm b t f k1 k2 = some (if lc = [] then 2 else clc (zI (lwv (Wd t f (ks f) k1 k2 b) lc)))) : ∀ r b n (h : Hp) (l3 : Int32), b + r = 10 → r < n → WIx x a h nf ks fc lc fm lm → WN h x t f (ks f) k1 k2 → (l2 = 0 → l3 = oN none) → (l2 ≠ 0 → lc = [] → l3 = oN (some 2)) → (l2 ≠ 0 → lc ≠ [] → 0 < b → l3 = oN (hmc ks lc lm (b - 1) t f k1 k2)) → ∃ h', f_X3_weighBonds_45 F n (x + 11) a l2 l3 (nI b) h = some ((), h') ∧ FVw x a h h' ∧ WIx x a h' nf ks fc lc fm lm ∧ WN h' x t f (ks f) k1 k2 ∧ (∀ b', b ≤ b' → b' < 10 → hp_I h' (a + 5) (cpl b' t k1 k2 + f) = oN (hmc ks lc lm b' t f k1 k2)) ∧ ∀ j, (∀ b', b ≤ b' → b' < 10 → j ≠ cpl b' t k1 k2 + f) → hp_I h' (a + 5) j = hp_I h (a + 5) j := by
  intro r
  induction r with
  | zero =>
    intro b n h l3 hb hn c w q1 q2 q3
    obtain ⟨n, rfl⟩ : ∃ j, n = j + 1 := ⟨n - 1, by omega⟩
    obtain rfl : b = 10 := by omega
    refine ⟨h, ?_, FVw.rf _ _ _, c, w, fun b' u v => by omega, fun j _ => rfl⟩
    show f_X3_weighBonds_45_b F (f_X3_weighBonds_45 F n) (x + 11) a l2 l3 (nI 10) h = _
    unfold f_X3_weighBonds_45_b
    rw [if_pos (show (10 : Int32) ≤ nI 10 by decide)]
  | succ r ih =>
    intro b n h l3 hb hn c w q1 q2 q3
    obtain ⟨n, rfl⟩ : ∃ j, n = j + 1 := ⟨n - 1, by omega⟩
    have b10 : b < 10 := by omega
    have c' := c
    obtain ⟨⟨s, sh, ap⟩, ⟨-, n4⟩, kd, cl, ⟨lk, lkm⟩, -⟩ := c'
    have t11 : hp_t h (x + 11) = 4 := s.t 11 4 (by decide)
    -- one bond is written, the others follow
    have go : ∀ (h0 : Hp) (l3' : Int32), FVw x a h h0 → hp_I h0 (a + 5) = hp_I h (a + 5) → WIx x a h0 nf ks fc lc fm lm → WN h0 x t f (ks f) k1 k2 → l3' = oN (hmc ks lc lm b t f k1 k2) → ∃ h', f_X3_weighBonds_108 F (f_X3_weighBonds_45 F n) (x + 11) a l2 l3' (nI b) h0 = some ((), h') ∧ FVw x a h h' ∧ WIx x a h' nf ks fc lc fm lm ∧ WN h' x t f (ks f) k1 k2 ∧ (∀ b', b ≤ b' → b' < 10 → hp_I h' (a + 5) (cpl b' t k1 k2 + f) = oN (hmc ks lc lm b' t f k1 k2)) ∧ ∀ j, (∀ b', b ≤ b' → b' < 10 → j ≠ cpl b' t k1 k2 + f) → hp_I h' (a + 5) j = hp_I h (a + 5) j := fun h0 l3' fv0 e5 c0 w0 hl3 => by
      have f1 : FVw x a h0 (hp_sI h0 (a + 5) (cpl b t k1 k2 + f) l3') := FVw.w5 ap
      have e13 : hp_I (hp_sI h0 (a + 5) (cpl b t k1 k2 + f) l3') (x + 13) = hp_I h0 (x + 13) := sI_ne _ _ _ (Ne.symm (ap 5 13 (by decide) (by decide) (by decide)))
      have c1 := c0.fv f1 (by rw [e13]; exact c0.2.2.2.2.2)
      have w1 : WN (hp_sI h0 (a + 5) (cpl b t k1 k2 + f) l3') x t f (ks f) k1 k2 := by
        unfold WN
        rw [e13]
        exact w0
      obtain ⟨h', e, fv, c2, w2, v1, v2⟩ := ih (b + 1) n _ l3' (by omega) (by omega) c1 w1 (fun z => by rw [hl3, no z b b10]) (fun z y => by rw [hl3, ya z b b10, if_pos y]) (fun z y _ => by rw [hl3]; rfl)
      refine ⟨h', by rw [cc_108 c0 w0 ht hf h1 h2 b10]; exact e, (fv0.tr f1).tr fv, c2, w2, fun b' u v => ?_, fun j hj => ?_⟩
      · by_cases z : b' = b
        · subst z
          rw [v2 _ (fun b'' u' v' => by unfold cpl; omega), sI_at, if_pos rfl, hl3]
        · exact v1 b' (by omega) v
      · rw [v2 j (fun b'' u' v' => hj b'' (by omega) v'), sI_at, if_neg (hj b (Nat.le_refl _) b10), e5]
    have yes : lc ≠ [] → l2 ≠ 0 → ∃ h', f_X3_weighBonds_79 F (f_X3_weighBonds_45 F n) (x + 11) a l2 (nI b) h = some ((), h') ∧ FVw x a h h' ∧ WIx x a h' nf ks fc lc fm lm ∧ WN h' x t f (ks f) k1 k2 ∧ (∀ b', b ≤ b' → b' < 10 → hp_I h' (a + 5) (cpl b' t k1 k2 + f) = oN (hmc ks lc lm b' t f k1 k2)) ∧ ∀ j, (∀ b', b ≤ b' → b' < 10 → j ≠ cpl b' t k1 k2 + f) → hp_I h' (a + 5) j = hp_I h (a + 5) j := fun ne z => by
      obtain ⟨h0, e0, fv0, e5, c0, w0⟩ := cc_79 hF c w ht hf h1 h2 b10 ne (f_X3_weighBonds_45 F n) l2
      rw [e0]
      exact go h0 _ fv0 e5 c0 w0 (by rw [ya z b b10, if_neg ne]; rfl)
    show ∃ h', f_X3_weighBonds_45_b F (f_X3_weighBonds_45 F n) (x + 11) a l2 l3 (nI b) h = _ ∧ _
    unfold f_X3_weighBonds_45_b
    rw [if_neg (show ¬ (10 : Int32) ≤ nI b from i_ge b10 (by decide))]
    by_cases z : l2 = 0
    · rw [if_pos z]
      exact go h l3 (FVw.rf _ _ _) rfl c w (by rw [q1 z, no z b b10])
    · obtain ⟨⟨k1', k2', k3', k4'⟩, ⟨k5', -⟩, k6', k7'⟩ := cl
      rw [if_neg z, gI_n t11, gI_n t11, k2', k1']
      by_cases y : lc = []
      · rw [if_pos (by rw [y]; exact nI_le (Nat.le_refl _) (by rw [y] at k5'; exact Nat.lt_of_le_of_lt k5' (by decide)))]
        exact go h l3 (FVw.rf _ _ _) rfl c w (by rw [q2 z y, ya z b b10, if_pos y])
      · have pos : 0 < lc.length := List.length_pos_iff.mpr y
        rw [if_neg (nI_ge (show fc < fc + lc.length by omega) (by omega))]
        by_cases b0 : b = 0
        · rw [if_pos (by rw [b0]; rfl)]
          exact yes y z
        · rw [if_neg (nI_ne0 (by omega) (by omega))]
          have vl : Val lc := by
            rcases lk with u | u
            · exact absurd u y
            · exact u.2
          obtain ⟨v, ev, hv⟩ := cc_names F hF s c.2.2.2.1 vl
          rw [cV_n t11 ev]
          by_cases v0 : v = 0
          · rw [if_pos v0]
            refine go h l3 (FVw.rf _ _ _) rfl c w ?_
            rw [q3 z y (by omega), ya z b b10, ya z (b - 1) (by omega), if_neg y, if_neg y, lwv_nb (b := b) (b' := b - 1) (hv v0)]
          · rw [if_neg v0]
            exact yes y z
/-- cases that are right -/
def CMs (h : Hp) (a nf : Nat) (ks : Nat → Nat) (lc lm : List Nat) (P : Nat → Nat → Nat → Nat → Prop) : Prop := ∀ b t f k1 k2, b < 10 → t < 2 → f < nf → k1 ≤ nf → k2 ≤ nf → P t f k1 k2 → hp_I h (a + 5) (cpl b t k1 k2 + f) = oN (hmc ks lc lm b t f k1 k2)
theorem CMs.mono {h : Hp} {P Q : Nat → Nat → Nat → Nat → Prop} (c : CMs h a nf ks lc lm P) (hq : ∀ t f k1 k2, t < 2 → f < nf → k1 ≤ nf → k2 ≤ nf → Q t f k1 k2 → P t f k1 k2) : CMs h a nf ks lc lm Q := fun b t f k1 k2 h0 h1 h2 h3 h4 q => c b t f k1 k2 h0 h1 h2 h3 h4 (hq t f k1 k2 h1 h2 h3 h4 q)
theorem cc_wb (hF : 2000 ≤ F) (ht : t < 2) (hf : f < nf) (h1 : k1 ≤ nf) (h2 : k2 ≤ nf) {h : Hp} (c : WIx x a h nf ks fc lc fm lm) (w : WN h x t f (ks f) k1 k2) {P : Nat → Nat → Nat → Nat → Prop} (cm : CMs h a nf ks lc lm P) : ∃ h', f_X3_weighBonds F (x + 11) a h = some ((), h') ∧ FVw x a h h' ∧ WIx x a h' nf ks fc lc fm lm ∧ WN h' x t f (ks f) k1 k2 ∧ CMs h' a nf ks lc lm (fun t' f' k1' k2' => P t' f' k1' k2' ∨ (t' = t ∧ f' = f ∧ k1' = k1 ∧ k2' = k2)) := by
  have c' := c
  obtain ⟨⟨s, sh, ap⟩, ⟨-, n4⟩, kd, ⟨⟨q1, q2, q3, q4⟩, ⟨q5, q6⟩, q7, q8⟩, ⟨lk, lkm⟩, w5, w5a, w5b⟩ := c'
  have t11 : hp_t h (x + 11) = 4 := s.t 11 4 (by decide)
  have kf := kd f (by omega)
  -- the loop over bonds
  have run : ∀ (h0 : Hp) (l2 l3 : Int32), FVw x a h h0 → hp_I h0 (a + 5) = hp_I h (a + 5) → WIx x a h0 nf ks fc lc fm lm → WN h0 x t f (ks f) k1 k2 → (l2 = 0 → ∀ b, b < 10 → hmc ks lc lm b t f k1 k2 = none) → (l2 ≠ 0 → ∀ b, b < 10 → hmc ks lc lm b t f k1 k2 = some (if lc = [] then 2 else clc (zI (lwv (Wd t f (ks f) k1 k2 b) lc)))) → (l2 = 0 → l3 = oN none) → (l2 ≠ 0 → l3 = oN (some 2)) → ∃ h', f_X3_weighBonds_41 F (x + 11) a l2 l3 h0 = some ((), h') ∧ FVw x a h h' ∧ WIx x a h' nf ks fc lc fm lm ∧ WN h' x t f (ks f) k1 k2 ∧ CMs h' a nf ks lc lm (fun t' f' k1' k2' => P t' f' k1' k2' ∨ (t' = t ∧ f' = f ∧ k1' = k1 ∧ k2' = k2)) := fun h0 l2 l3 fv0 e5 c0 w0 no ya y1 y2 => by
    obtain ⟨h', e, fv, c2, w2, v1, v2⟩ := cc_b45 hF ht hf h1 h2 no ya 10 0 F h0 l3 (by omega) (by omega) c0 w0 y1 (fun z _ => y2 z) (fun _ _ z => absurd z (by omega))
    refine ⟨h', e, fv0.tr fv, c2, w2, fun b t' f' k1' k2' g0 g1 g2 g3 g4 p => ?_⟩
    by_cases z : t' = t ∧ f' = f ∧ k1' = k1 ∧ k2' = k2
    · obtain ⟨rfl, rfl, rfl, rfl⟩ := z
      exact v1 b (Nat.zero_le _) g0
    · rw [v2 _ (fun b'' _ _ => by unfold cpl; omega), e5]
      exact cm b t' f' k1' k2' g0 g1 g2 g3 g4 (p.resolve_right z)
  unfold f_X3_weighBonds f_X3_weighBonds_26
  rw [gI_n t11, gI_n t11, q4, q3]
  have free : lm = [] ∨ lwv (Wd t f (ks f) k1 k2 w5) lm = 1 → ∀ b, b < 10 → hmc ks lc lm b t f k1 k2 = some (if lc = [] then 2 else clc (zI (lwv (Wd t f (ks f) k1 k2 b) lc))) := fun q b b10 => by
    unfold hmc
    rcases q with q | q
    · rw [if_pos (Or.inl q)]
    · by_cases y : lm = []
      · rw [if_pos (Or.inl y)]
      · have wb := Wd_b (t := t) (f := f) (kd := ks f) (k1 := k1) (k2 := k2) (b := w5) ⟨by omega, by omega, by omega, by omega, by omega, by omega⟩
        have wb' := Wd_b (t := t) (f := f) (kd := ks f) (k1 := k1) (k2 := k2) (b := b) ⟨by omega, by omega, by omega, by omega, by omega, by omega⟩
        rw [if_pos (Or.inr _)]
        rw [(lkm.v y wb).2.2.2 _ wb' (fun j => by
          match j with
          | 0 => exact Or.inr rfl
          | 1 => exact Or.inr rfl
          | 2 => exact Or.inr rfl
          | 3 => exact Or.inr rfl
          | 4 => exact Or.inr rfl
          | 5 => exact Or.inl ⟨rfl, rfl⟩
          | _ + 6 => exact Or.inr rfl)]
        exact q
  by_cases y : lm = []
  · rw [if_pos (by rw [y]; rfl)]
    unfold f_X3_weighBonds_31
    rw [if_neg (show ¬ (1 : Int32) = 0 by decide)]
    exact run h 1 2 (FVw.rf _ _ _) rfl c w (fun z => absurd z (by decide)) (fun _ => free (Or.inl y)) (fun z => absurd z (by decide)) (fun _ => rfl)
  · have pos : 0 < lm.length := List.length_pos_iff.mpr y
    have sm : t < 1000 ∧ f < 1000 ∧ ks f < 1000 ∧ k1 < 1000 ∧ k2 < 1000 ∧ w5 < 1000 := ⟨by omega, by omega, by omega, by omega, by omega, by omega⟩
    have wb := Wd_b sm
    have lv := lkm.v y wb
    have vl : Val lm := by
      rcases lkm with u | u
      · exact absurd u y
      · exact u.2
    rw [if_neg (fun e => by have := nI_inj (by omega) (by omega) e; omega), gI_n t11, gI_n t11, q3, q4]
    obtain ⟨h0, e0, fg, s0⟩ := cc_value F hF (h := h) (x := x) (fr := fm) (l := lm) wb q6 s q8 vl (fun j hj => by
      rw [Wd_z sm hj]
      obtain ⟨u0, u1, u2, u3, u4⟩ := w
      match j with
      | 0 => exact u0
      | 1 => exact u1
      | 2 => exact u2
      | 3 => exact u3
      | 4 => exact u4
      | 5 => exact w5b
      | _ + 6 => omega) lv.1
    have i13 : hp_I h0 (x + 13) = hp_I h (x + 13) := fg.1.at (by decide)
    have fv0 : FVw x a h h0 := fg.fv
    have c0 := c.fv fv0 ⟨w5, w5a, by rw [i13]; exact w5b⟩
    have w0 : WN h0 x t f (ks f) k1 k2 := by
      unfold WN
      rw [i13]
      exact w
    have e5 : hp_I h0 (a + 5) = hp_I h (a + 5) := (fg.1.2 (a + 5) (fun k hk => by
      rcases List.mem_cons.mp hk with rfl | hk
      · exact ap 5 11 (by decide) (by decide) (by decide)
      · rw [List.mem_singleton.mp hk]; exact ap 5 14 (by decide) (by decide) (by decide))).1
    rw [cV_n t11 e0]
    have z0 : zI (lwv (Wd t f (ks f) k1 k2 w5) lm) = 0 ↔ lwv (Wd t f (ks f) k1 k2 w5) lm = 0 := zI_e (b := 0) lv.2.1 ⟨by decide, by decide⟩
    by_cases u : lwv (Wd t f (ks f) k1 k2 w5) lm = 0
    · rw [if_pos (z0.mpr u)]
      unfold f_X3_weighBonds_31
      rw [if_pos rfl]
      refine run h0 0 (-1) fv0 e5 c0 w0 (fun _ b b10 => ?_) (fun z => absurd rfl z) (fun _ => rfl) (fun z => absurd rfl z)
      unfold hmc
      have wb' := Wd_b (t := t) (f := f) (kd := ks f) (k1 := k1) (k2 := k2) (b := b) ⟨by omega, by omega, by omega, by omega, by omega, by omega⟩
      rw [if_neg]
      intro q
      rcases q with q | q
      · exact y q
      · rw [lv.2.2.2 _ wb' (fun j => by
          match j with
          | 0 => exact Or.inr rfl
          | 1 => exact Or.inr rfl
          | 2 => exact Or.inr rfl
          | 3 => exact Or.inr rfl
          | 4 => exact Or.inr rfl
          | 5 => exact Or.inl ⟨rfl, rfl⟩
          | _ + 6 => exact Or.inr rfl), u] at q
        exact absurd q (by decide)
    · rw [if_neg (fun q => u (z0.mp q))]
      unfold f_X3_weighBonds_31
      rw [if_neg (show ¬ (1 : Int32) = 0 by decide)]
      exact run h0 1 2 fv0 e5 c0 w0 (fun z => absurd z (by decide)) (fun _ => free (Or.inr ((lv.2.2.1 rfl).resolve_left u))) (fun z => absurd z (by decide)) (fun _ => rfl)
def WN3 (h : Hp) (x t f kd : Nat) : Prop := hp_I h (x + 13) 0 = nI t ∧ hp_I h (x + 13) 1 = nI f ∧ hp_I h (x + 13) 2 = nI kd
theorem wW {h : Hp} (s : CSH h x) {α : Type} (j : Nat) {i v : Int32} (hi : i = nI j) (hj : j < 6) (K : Hp → Option α) : (gR 4 h (x + 11) 6 fun q => wI h q i v K) = K (hp_sI h (x + 13) j v) := by
  rw [s.g 4 11 6 13 (by decide), wI_n (s.t 13 20 (by decide)) (s.l 13 6 (by decide)) hi hj (by decide)]
theorem CMs.w13 {h : Hp} {P : Nat → Nat → Nat → Nat → Prop} (ap : apt x a) (c : CMs h a nf ks lc lm P) (k : Nat) (v : Int32) : CMs (hp_sI h (x + 13) k v) a nf ks lc lm P := fun b t f k1 k2 h0 h1 h2 h3 h4 p => by
  rw [sI_ne _ _ _ (ap 5 13 (by decide) (by decide) (by decide))]
  exact c b t f k1 k2 h0 h1 h2 h3 h4 p
theorem WIx.w13 {h : Hp} (c : WIx x a h nf ks fc lc fm lm) {k : Nat} (hk : k ≠ 5) (v : Int32) : WIx x a (hp_sI h (x + 13) k v) nf ks fc lc fm lm := c.fv FVw.w13 (by
  obtain ⟨w, w1, w2⟩ := c.2.2.2.2.2
  exact ⟨w, w1, by rw [sI_at, if_neg (Ne.symm hk)]; exact w2⟩)
theorem cc_w57 (hF : 2000 ≤ F) (ht : t < 2) (hf : f < nf) (h1 : k1 ≤ nf) (K2 : Nat → Nat → Int32 → Hp → Option (Unit × Hp)) (K9 : Nat → Nat → Int32 → Int32 → Hp → Option (Unit × Hp)) (K45 : Nat → Nat → Int32 → Int32 → Int32 → Hp → Option (Unit × Hp)) : ∀ r k2 n (h : Hp) (P : Nat → Nat → Nat → Nat → Prop), k2 + r = nf + 1 → r < n → WIx x a h nf ks fc lc fm lm → WN3 h x t f (ks f) → CMs h a nf ks lc lm P → ∃ h', f_X3_weigh_57 F K2 K9 K45 n (x + 11) a (nI t) (nI f) (nI k1) (nI k2) h = K45 (x + 11) a (nI t) (nI f) (nI (k1 + 1)) h' ∧ FVw x a h h' ∧ WIx x a h' nf ks fc lc fm lm ∧ WN3 h' x t f (ks f) ∧ CMs h' a nf ks lc lm (fun t' f' k1' k2' => P t' f' k1' k2' ∨ (t' = t ∧ f' = f ∧ k1' = k1 ∧ k2 ≤ k2')) := by
  intro r
  induction r with
  | zero =>
    intro k2 n h P hk hn c w cm
    obtain ⟨n, rfl⟩ : ∃ j, n = j + 1 := ⟨n - 1, by omega⟩
    have n4 := c.2.1.2
    refine ⟨h, ?_, FVw.rf _ _ _, c, w, cm.mono (fun t' f' k1' k2' _ _ _ g4 q => q.resolve_right (fun u => by omega))⟩
    show f_X3_weigh_57_b F K2 K9 K45 (f_X3_weigh_57 F K2 K9 K45 n) (x + 11) a (nI t) (nI f) (nI k1) (nI k2) h = _
    unfold f_X3_weigh_57_b
    rw [gI_n c.1.2.1.1, c.2.1.1, if_pos (nI_lt (by omega) (by omega)), nI_1]
  | succ r ih =>
    intro k2 n h P hk hn c w cm
    obtain ⟨n, rfl⟩ : ∃ j, n = j + 1 := ⟨n - 1, by omega⟩
    have n4 := c.2.1.2
    have ap := c.1.2.2
    have c1 := c.w13 (k := 3) (by decide) (nI k1)
    have c2 := c1.w13 (k := 4) (by decide) (nI k2)
    have w2 : WN (hp_sI (hp_sI h (x + 13) 3 (nI k1)) (x + 13) 4 (nI k2)) x t f (ks f) k1 k2 := by
      obtain ⟨u0, u1, u2⟩ := w
      refine ⟨?_, ?_, ?_, ?_, ?_⟩
      · rw [sI_at, if_neg (by decide), sI_at, if_neg (by decide)]; exact u0
      · rw [sI_at, if_neg (by decide), sI_at, if_neg (by decide)]; exact u1
      · rw [sI_at, if_neg (by decide), sI_at, if_neg (by decide)]; exact u2
      · rw [sI_at, if_neg (by decide), sI_at, if_pos rfl]
      · rw [sI_at, if_pos rfl]
    obtain ⟨h3, e3, fv3, c3, w3, cm3⟩ := cc_wb hF ht hf h1 (show k2 ≤ nf by omega) c2 w2 ((cm.w13 ap 3 (nI k1)).w13 ap 4 (nI k2))
    obtain ⟨h', e, fv, c4, w4, cm4⟩ := ih (k2 + 1) n h3 _ (by omega) (by omega) c3 ⟨w3.1, w3.2.1, w3.2.2.1⟩ cm3
    refine ⟨h', ?_, ((FVw.w13.tr FVw.w13).tr fv3).tr fv, c4, w4, cm4.mono (fun t' f' k1' k2' _ _ _ g4 q => ?_)⟩
    · show f_X3_weigh_57_b F K2 K9 K45 (f_X3_weigh_57 F K2 K9 K45 n) (x + 11) a (nI t) (nI f) (nI k1) (nI k2) h = _
      unfold f_X3_weigh_57_b
      rw [gI_n c.1.2.1.1, c.2.1.1, if_neg (fun z => by have := (nI_ltI (by omega) (by omega)).mp z; omega), wW c.1.1 3 (i := 3) rfl (by decide), wW c1.1.1 4 (i := 4) rfl (by decide), cV_n (c2.1.1.t 11 4 (by decide)) e3, nI_1]
      exact e
    · rcases q with q | ⟨q1, q2, q3, q4⟩
      · exact Or.inl (Or.inl q)
      · by_cases z : k2' = k2
        · exact Or.inl (Or.inr ⟨q1, q2, q3, z⟩)
        · exact Or.inr ⟨q1, q2, q3, by omega⟩
theorem cc_w45 (hF : 2000 ≤ F) (ht : t < 2) (hf : f < nf) (K2 : Nat → Nat → Int32 → Hp → Option (Unit × Hp)) (K9 : Nat → Nat → Int32 → Int32 → Hp → Option (Unit × Hp)) : ∀ r k1 n (h : Hp) (P : Nat → Nat → Nat → Nat → Prop), k1 + r = nf + 1 → r < n → WIx x a h nf ks fc lc fm lm → WN3 h x t f (ks f) → CMs h a nf ks lc lm P → ∃ h', f_X3_weigh_45 F K2 K9 n (x + 11) a (nI t) (nI f) (nI k1) h = K9 (x + 11) a (nI t) (nI (f + 1)) h' ∧ FVw x a h h' ∧ WIx x a h' nf ks fc lc fm lm ∧ CMs h' a nf ks lc lm (fun t' f' k1' k2' => P t' f' k1' k2' ∨ (t' = t ∧ f' = f ∧ k1 ≤ k1')) := by
  intro r
  induction r with
  | zero =>
    intro k1 n h P hk hn c w cm
    obtain ⟨n, rfl⟩ : ∃ j, n = j + 1 := ⟨n - 1, by omega⟩
    have n4 := c.2.1.2
    refine ⟨h, ?_, FVw.rf _ _ _, c, cm.mono (fun t' f' k1' k2' _ _ g3 _ q => q.resolve_right (fun u => by omega))⟩
    show f_X3_weigh_45_b F K2 K9 (f_X3_weigh_45 F K2 K9 n) (x + 11) a (nI t) (nI f) (nI k1) h = _
    unfold f_X3_weigh_45_b
    rw [gI_n c.1.2.1.1, c.2.1.1, if_pos (nI_lt (by omega) (by omega)), nI_1]
  | succ r ih =>
    intro k1 n h P hk hn c w cm
    obtain ⟨n, rfl⟩ : ∃ j, n = j + 1 := ⟨n - 1, by omega⟩
    have n4 := c.2.1.2
    obtain ⟨h3, e3, fv3, c3, w3, cm3⟩ := cc_w57 hF ht hf (show k1 ≤ nf by omega) K2 K9 (f_X3_weigh_45 F K2 K9 n) (nf + 1) 0 F h P (by omega) (by omega) c w cm
    obtain ⟨h', e, fv, c4, cm4⟩ := ih (k1 + 1) n h3 _ (by omega) (by omega) c3 w3 cm3
    refine ⟨h', ?_, fv3.tr fv, c4, cm4.mono (fun t' f' k1' k2' _ _ _ g4 q => ?_)⟩
    · show f_X3_weigh_45_b F K2 K9 (f_X3_weigh_45 F K2 K9 n) (x + 11) a (nI t) (nI f) (nI k1) h = _
      unfold f_X3_weigh_45_b
      rw [gI_n c.1.2.1.1, c.2.1.1, if_neg (fun z => by have := (nI_ltI (by omega) (by omega)).mp z; omega), ← e]
      exact e3
    · rcases q with q | ⟨q1, q2, q3⟩
      · exact Or.inl (Or.inl q)
      · by_cases z : k1' = k1
        · exact Or.inl (Or.inr ⟨q1, q2, z, Nat.zero_le _⟩)
        · exact Or.inr ⟨q1, q2, by omega⟩
theorem cc_w9 (hF : 2000 ≤ F) (ht : t < 2) (K2 : Nat → Nat → Int32 → Hp → Option (Unit × Hp)) : ∀ r f n (h : Hp) (P : Nat → Nat → Nat → Nat → Prop), f + r = nf → r < n → WIx x a h nf ks fc lc fm lm → CMs h a nf ks lc lm P → ∃ h', f_X3_weigh_9 F K2 n (x + 11) a (nI t) (nI f) h = K2 (x + 11) a (nI (t + 1)) h' ∧ FVw x a h h' ∧ WIx x a h' nf ks fc lc fm lm ∧ CMs h' a nf ks lc lm (fun t' f' k1' k2' => P t' f' k1' k2' ∨ (t' = t ∧ f ≤ f')) := by
  intro r
  induction r with
  | zero =>
    intro f n h P hk hn c cm
    obtain ⟨n, rfl⟩ : ∃ j, n = j + 1 := ⟨n - 1, by omega⟩
    have n4 := c.2.1.2
    refine ⟨h, ?_, FVw.rf _ _ _, c, cm.mono (fun t' f' k1' k2' _ g2 _ _ q => q.resolve_right (fun u => by omega))⟩
    show f_X3_weigh_9_b F K2 (f_X3_weigh_9 F K2 n) (x + 11) a (nI t) (nI f) h = _
    unfold f_X3_weigh_9_b
    rw [gI_n c.1.2.1.1, c.2.1.1, if_pos (nI_le (by omega) (by omega)), nI_1]
  | succ r ih =>
    intro f n h P hk hn c cm
    obtain ⟨n, rfl⟩ : ∃ j, n = j + 1 := ⟨n - 1, by omega⟩
    have n4 := c.2.1.2
    have ap := c.1.2.2
    have kf := c.2.2.1 f (by omega)
    have c1 := c.w13 (k := 0) (by decide) (nI t)
    have c2 := c1.w13 (k := 1) (by decide) (nI f)
    have c3 := c2.w13 (k := 2) (by decide) (nI (ks f))
    have w3 : WN3 (hp_sI (hp_sI (hp_sI h (x + 13) 0 (nI t)) (x + 13) 1 (nI f)) (x + 13) 2 (nI (ks f))) x t f (ks f) := by
      refine ⟨?_, ?_, ?_⟩
      · rw [sI_at, if_neg (by decide), sI_at, if_neg (by decide), sI_at, if_pos rfl]
      · rw [sI_at, if_neg (by decide), sI_at, if_pos rfl]
      · rw [sI_at, if_pos rfl]
    have cm3 := ((cm.w13 ap 0 (nI t)).w13 ap 1 (nI f)).w13 ap 2 (nI (ks f))
    obtain ⟨h4, e4, fv4, c4, cm4⟩ := cc_w45 hF ht (show f < nf by omega) K2 (f_X3_weigh_9 F K2 n) (nf + 1) 0 F _ P (by omega) (by omega) c3 w3 cm3
    obtain ⟨h', e, fv, c5, cm5⟩ := ih (f + 1) n h4 _ (by omega) (by omega) c4 cm4
    refine ⟨h', ?_, (((FVw.w13.tr FVw.w13).tr FVw.w13).tr fv4).tr fv, c5, cm5.mono (fun t' f' k1' k2' _ _ _ g4 q => ?_)⟩
    · show f_X3_weigh_9_b F K2 (f_X3_weigh_9 F K2 n) (x + 11) a (nI t) (nI f) h = _
      unfold f_X3_weigh_9_b
      have ek : f_X2_kindOf F a (nI f) (hp_sI (hp_sI h (x + 13) 0 (nI t)) (x + 13) 1 (nI f)) = some (nI (ks f), hp_sI (hp_sI h (x + 13) 0 (nI t)) (x + 13) 1 (nI f)) := by
        unfold f_X2_kindOf
        rw [if_neg (nI_pos (by omega)), if_neg (show ¬ (4 : Int32) ≤ nI f from i_ge (show f < 4 by omega) (by decide)), c2.1.2.1.g 1 5 (by decide), c2.1.2.1.a 1 f rfl (by decide) (show f < 4 by omega), (c2.2.2.1 f (by omega)).1]
      rw [gI_n c.1.2.1.1, c.2.1.1, if_neg (nI_ge (by omega) (by omega)), wW c.1.1 0 (i := 0) rfl (by decide), wW c1.1.1 1 (i := 1) rfl (by decide), c2.1.1.g 4 11 6 13 (by decide), cV_n c2.1.2.1.1 ek, wI_n (c2.1.1.t 13 20 (by decide)) (c2.1.1.l 13 6 (by decide)) (show (2 : Int32) = nI 2 from rfl) (by decide) (by decide), ← e]
      exact e4
    · rcases q with q | ⟨q1, q2⟩
      · exact Or.inl (Or.inl q)
      · by_cases z : f' = f
        · exact Or.inl (Or.inr ⟨q1, z, Nat.zero_le _⟩)
        · exact Or.inr ⟨q1, by omega⟩
theorem cc_w2 (hF : 2000 ≤ F) : ∀ r t n (h : Hp) (P : Nat → Nat → Nat → Nat → Prop), t + r = 2 → r < n → WIx x a h nf ks fc lc fm lm → CMs h a nf ks lc lm P → ∃ h', f_X3_weigh_2 F n (x + 11) a (nI t) h = some ((), h') ∧ FVw x a h h' ∧ WIx x a h' nf ks fc lc fm lm ∧ CMs h' a nf ks lc lm (fun t' f' k1' k2' => P t' f' k1' k2' ∨ t ≤ t') := by
  intro r
  induction r with
  | zero =>
    intro t n h P hk hn c cm
    obtain ⟨n, rfl⟩ : ∃ j, n = j + 1 := ⟨n - 1, by omega⟩
    obtain rfl : t = 2 := by omega
    refine ⟨h, ?_, FVw.rf _ _ _, c, cm.mono (fun t' f' k1' k2' g1 _ _ _ q => q.resolve_right (fun u => by omega))⟩
    show f_X3_weigh_2_b F (f_X3_weigh_2 F n) (x + 11) a (nI 2) h = _
    unfold f_X3_weigh_2_b
    rw [if_pos (show (2 : Int32) ≤ nI 2 by decide)]
  | succ r ih =>
    intro t n h P hk hn c cm
    obtain ⟨n, rfl⟩ : ∃ j, n = j + 1 := ⟨n - 1, by omega⟩
    have n4 := c.2.1.2
    obtain ⟨h4, e4, fv4, c4, cm4⟩ := cc_w9 hF (show t < 2 by omega) (f_X3_weigh_2 F n) nf 0 F h P (by omega) (by omega) c cm
    obtain ⟨h', e, fv, c5, cm5⟩ := ih (t + 1) n h4 _ (by omega) (by omega) c4 cm4
    refine ⟨h', ?_, fv4.tr fv, c5, cm5.mono (fun t' f' k1' k2' _ _ _ g4 q => ?_)⟩
    · show f_X3_weigh_2_b F (f_X3_weigh_2 F n) (x + 11) a (nI t) h = _
      unfold f_X3_weigh_2_b
      rw [if_neg (show ¬ (2 : Int32) ≤ nI t from i_ge (show t < 2 by omega) (by decide)), ← e]
      exact e4
    · rcases q with q | q
      · exact Or.inl (Or.inl q)
      · by_cases z : t' = t
        · exact Or.inl (Or.inr ⟨z, Nat.zero_le _⟩)
        · exact Or.inr (by omega)
theorem cc_lweigh (hF : 2000 ≤ F) {h : Hp} (c : WIx x a h nf ks fc lc fm lm) : ∃ h', f_X3_weigh F (x + 11) a h = some ((), h') ∧ FVw x a h h' ∧ WIx x a h' nf ks fc lc fm lm ∧ CMs h' a nf ks lc lm (fun _ _ _ _ => True) := by
  obtain ⟨h', e, fv, c', cm⟩ := cc_w2 hF 2 0 F h (fun _ _ _ _ => False) (by omega) (by omega) c (fun _ _ _ _ _ _ _ _ _ _ q => absurd q id)
  exact ⟨h', e, fv, c', cm.mono (fun _ _ _ _ _ _ _ _ _ => Or.inr (Nat.zero_le _))⟩
end case
