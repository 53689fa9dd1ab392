/-! L3, the class: what comes is weighed, for one case at all bonds -/
def apt (x a : Nat) : Prop := ∀ k j, k < 6 → j < 48 → ct j ≠ 0 → a + k ≠ x + j
/-- the class's rows of codes hold both laws -/
def CLw (h : Hp) (x fc : Nat) (lc : List Nat) (fm : Nat) (lm : List Nat) : Prop := (hp_I h (x + 11) 2 = nI fc ∧ hp_I h (x + 11) 3 = nI (fc + lc.length) ∧ hp_I h (x + 11) 4 = nI fm ∧ hp_I h (x + 11) 5 = nI (fm + lm.length)) ∧ (fc + lc.length ≤ 900 ∧ fm + lm.length ≤ 900) ∧ (∀ j, j < lc.length → hp_I h (x + 12) (fc + j) = nI (ccd (lc.getD j 0))) ∧ ∀ j, j < lm.length → hp_I h (x + 12) (fm + j) = nI (ccd (lm.getD j 0))
def FVw (x a : Nat) (h h' : Hp) : Prop := SH h h' ∧ (∀ y, y ≠ x + 11 → y ≠ x + 13 → y ≠ x + 14 → y ≠ a + 5 → hp_I h' y = hp_I h y ∧ hp_L h' y = hp_L h y) ∧ ∀ k, k ≠ 8 → hp_I h' (x + 11) k = hp_I h (x + 11) k
theorem FVw.rf (x a : Nat) (h : Hp) : FVw x a h h := ⟨SH.rf h, fun _ _ _ _ _ => ⟨rfl, rfl⟩, fun _ _ => rfl⟩
theorem FVw.tr {x a : Nat} {h h1 h2 : Hp} (p : FVw x a h h1) (q : FVw x a h1 h2) : FVw x a h h2 := ⟨p.1.tr q.1, fun y a1 a2 a3 a4 => ⟨(q.2.1 y a1 a2 a3 a4).1.trans (p.2.1 y a1 a2 a3 a4).1, (q.2.1 y a1 a2 a3 a4).2.trans (p.2.1 y a1 a2 a3 a4).2⟩, fun k hk => (q.2.2 k hk).trans (p.2.2 k hk)⟩
theorem FG.fv {x a : Nat} {h h' : Hp} (f : FG x h h') : FVw x a h h' := ⟨f.1.1, fun y a1 _ a3 _ => f.1.2 y (fun k hk => by
  rcases List.mem_cons.mp hk with rfl | hk
  · exact a1
  · rw [List.mem_singleton.mp hk]; exact a3), f.2⟩
theorem FVw.w13 {x a k : Nat} {v : Int32} {h : Hp} : FVw x a h (hp_sI h (x + 13) k v) := ⟨SH.rf h, fun y _ a2 _ _ => ⟨sI_ne _ _ _ a2, rfl⟩, fun j _ => by rw [sI_ne _ _ _ (by omega)]⟩
theorem FVw.w5 {x a k : Nat} {v : Int32} {h : Hp} (ap : apt x a) : FVw x a h (hp_sI h (a + 5) k v) := ⟨SH.rf h, fun y _ _ _ a4 => ⟨sI_ne _ _ _ a4, rfl⟩, fun j _ => by rw [sI_ne _ _ _ (Ne.symm (ap 5 11 (by decide) (by decide) (by decide)))]⟩
/-- what is there while laws are weighed -/
def WIx (x a : Nat) (h : Hp) (nf : Nat) (ks : Nat → Nat) (fc : Nat) (lc : List Nat) (fm : Nat) (lm : List Nat) : Prop := (CSH h x ∧ HSh h a ∧ apt x a) ∧ (hp_I h a 0 = nI nf ∧ nf ≤ 4) ∧ (∀ f, f < 4 → hp_I h (a + 1) f = nI (ks f) ∧ ks f < 10) ∧ CLw h x fc lc fm lm ∧ (LK 0 lc ∧ LK 1 lm) ∧ ∃ w, w < 10 ∧ hp_I h (x + 13) 5 = nI w
theorem WIx.fv {x a : Nat} {h h' : Hp} {nf : Nat} {ks : Nat → Nat} {fc fm : Nat} {lc lm : List Nat} (c : WIx x a h nf ks fc lc fm lm) (f : FVw x a h h') (w5 : ∃ w, w < 10 ∧ hp_I h' (x + 13) 5 = nI w) : WIx x a h' nf ks fc lc fm lm := by
  obtain ⟨⟨c1, c2, ap⟩, ⟨c3, c4⟩, c5, ⟨⟨k1, k2, k3, k4⟩, k5, k6, k7⟩, c7, -⟩ := c
  have e0 : hp_I h' a = hp_I h a := (f.2.1 a (ap 0 11 (by decide) (by decide) (by decide)) (ap 0 13 (by decide) (by decide) (by decide)) (ap 0 14 (by decide) (by decide) (by decide)) (by omega)).1
  have e1 : hp_I h' (a + 1) = hp_I h (a + 1) := (f.2.1 (a + 1) (ap 1 11 (by decide) (by decide) (by decide)) (ap 1 13 (by decide) (by decide) (by decide)) (ap 1 14 (by decide) (by decide) (by decide)) (by omega)).1
  have e12 : hp_I h' (x + 12) = hp_I h (x + 12) := (f.2.1 (x + 12) (by omega) (by omega) (by omega) (Ne.symm (ap 5 12 (by decide) (by decide) (by decide)))).1
  refine ⟨⟨c1.sh f.1, c2.sh f.1, ap⟩, ⟨by rw [e0]; exact c3, c4⟩, by rw [e1]; exact c5, ⟨⟨?_, ?_, ?_, ?_⟩, k5, by rw [e12]; exact k6, by rw [e12]; exact k7⟩, c7, w5⟩
  · rw [f.2.2 _ (by decide)]; exact k1
  · rw [f.2.2 _ (by decide)]; exact k2
  · rw [f.2.2 _ (by decide)]; exact k3
  · rw [f.2.2 _ (by decide)]; exact k4
theorem ccd5 {r : Nat} (h : r < 1006 ∨ (3000 ≤ r ∧ r < 3010)) : (nI (ccd r) = 5 ↔ r = 1005) := by
  have b : ccd r < 2 ^ 31 ∧ (ccd r = 5 ↔ r = 1005) := by
    rcases h with h | ⟨h1, h2⟩
    · unfold ccd
      by_cases z : r < 1000
      · rw [if_pos z]; omega
      · rw [if_neg z, if_pos (by omega)]; omega
    · have v := ccd_v (r - 3000) (by omega)
      rw [show 3000 + (r - 3000) = r by omega] at v
      obtain ⟨-, v2, v3, -⟩ := v
      omega
  refine ⟨fun e => b.2.mp (nI_inj (b := 5) b.1 (by decide) e), fun e => ?_⟩
  rw [b.2.mpr e]; rfl
theorem nb_run (F : Nat) {x hi' : Nat} (hb : hi' ≤ 900) {h : Hp} (s : CSH h x) (h3 : hp_I h (x + 11) 3 = nI hi') : ∀ (l : List Nat) (i k : Nat), i + l.length = hi' → l.length < k → (∀ j, j < l.length → hp_I h (x + 12) (i + j) = nI (ccd (l.getD j 0))) → Val l → ∃ v : Int32, f_X3_namesBond_5 F k (x + 11) (nI i) h = some (v, h) ∧ (v = 0 → ∀ r ∈ l, r ≠ 1005) := by
  have t11 : hp_t h (x + 11) = 4 := s.t 11 4 (by decide)
  intro l
  induction l with
  | nil =>
    intro i k hi hk c3 vl
    obtain ⟨k, rfl⟩ : ∃ j, k = j + 1 := ⟨k - 1, by omega⟩
    have hi : i + 0 = hi' := hi
    refine ⟨0, ?_, fun _ r hr => absurd hr List.not_mem_nil⟩
    show f_X3_namesBond_5_b F (f_X3_namesBond_5 F k) (x + 11) (nI i) h = _
    unfold f_X3_namesBond_5_b
    rw [gI_n t11, h3, if_pos (nI_le (by omega) (by omega))]
  | cons r l ih =>
    intro i k hi hk c3 vl
    obtain ⟨k, rfl⟩ : ∃ j, k = j + 1 := ⟨k - 1, by omega⟩
    have hi : i + (l.length + 1) = hi' := hi
    have hk : l.length + 1 < k + 1 := hk
    have c0 : hp_I h (x + 12) i = nI (ccd r) := c3 0 (Nat.succ_pos _)
    have c5 := ccd5 (vl r List.mem_cons_self)
    obtain ⟨v, e, hv⟩ := ih (i + 1) k (by omega) (by omega) (fun j hj => by
      have := c3 (j + 1) (Nat.succ_lt_succ hj)
      rw [show i + 1 + j = i + (j + 1) by omega]
      exact this) (fun u hu => vl u (List.mem_cons_of_mem _ hu))
    have go : f_X3_namesBond_5 F (k + 1) (x + 11) (nI i) h = if nI (ccd r) = 5 then some (1, h) else f_X3_namesBond_5 F k (x + 11) (nI (i + 1)) h := by
      show f_X3_namesBond_5_b F (f_X3_namesBond_5 F k) (x + 11) (nI i) h = _
      unfold f_X3_namesBond_5_b
      rw [gI_n t11, h3, if_neg (nI_ge (show i < hi' by omega) (by omega)), s.g 4 11 0 12 (by decide), al_n (s.t 12 20 (by decide)) (s.l 12 900 (by decide)), if_neg (nI_ge (show i < 900 by omega) (by decide)), s.g 4 11 0 12 (by decide), aI_n (s.t 12 20 (by decide)) (s.l 12 900 (by decide)) rfl (show i < 900 by omega) (by decide), c0, nI_1]
    by_cases z : nI (ccd r) = 5
    · exact ⟨1, by rw [go, if_pos z], fun q => absurd q (by decide)⟩
    · refine ⟨v, by rw [go, if_neg z]; exact e, fun q u hu => ?_⟩
      rcases List.mem_cons.mp hu with rfl | y
      · exact fun w => z (c5.mpr w)
      · exact hv q u y
theorem cc_names (F : Nat) (hF : 2000 ≤ F) {h : Hp} {x fc fm : Nat} {lc lm : List Nat} (s : CSH h x) (c : CLw h x fc lc fm lm) (vl : Val lc) : ∃ v : Int32, f_X3_namesBond F (x + 11) h = some (v, h) ∧ (v = 0 → ∀ r ∈ lc, r ≠ 1005) := by
  obtain ⟨⟨k1, k2, k3, k4⟩, ⟨k5, -⟩, k6, k7⟩ := c
  unfold f_X3_namesBond
  rw [gI_n (s.t 11 4 (by decide)), k1]
  exact nb_run F k5 s k2 lc fc F rfl (by omega) k6 vl
/-- the named words of a case -/
def WN (h : Hp) (x t f kd k1 k2 : Nat) : Prop := hp_I h (x + 13) 0 = nI t ∧ hp_I h (x + 13) 1 = nI f ∧ hp_I h (x + 13) 2 = nI kd ∧ hp_I h (x + 13) 3 = nI k1 ∧ hp_I h (x + 13) 4 = nI k2
section case
variable {F x a nf fc fm t f k1 k2 : Nat} {ks : Nat → Nat} {lc lm : List Nat}
theorem w13 {h : Hp} (s : CSH h x) {α : Type} (j : Nat) {i : Int32} (hi : i = nI j) (hj : j < 6) (K : Int32 → Option α) : (gR 4 h (x + 11) 6 fun v => aI 20 h v i K) = K (hp_I h (x + 13) j) := by
  rw [s.g 4 11 6 13 (by decide), aI_n (s.t 13 20 (by decide)) (s.l 13 6 (by decide)) hi hj (by decide)]
theorem cc_108 {h : Hp} (c : WIx x a h nf ks fc lc fm lm) (w : WN h x t f (ks f) k1 k2) (ht : t < 2) (hf : f < nf) (h1 : k1 ≤ nf) (h2 : k2 ≤ nf) {b : Nat} (hb : b < 10) (K45 : Nat → Nat → Int32 → Int32 → Int32 → Hp → Option (Unit × Hp)) (l2 l3 : Int32) : f_X3_weighBonds_108 F K45 (x + 11) a l2 l3 (nI b) h = K45 (x + 11) a l2 l3 (nI (b + 1)) (hp_sI h (a + 5) (cpl b t k1 k2 + f) l3) := by
  obtain ⟨⟨s, sh, ap⟩, ⟨-, n4⟩, -⟩ := c
  obtain ⟨w0, w1, w2, w3, w4⟩ := w
  have hl : cpl b t k1 k2 + f < 2000 := by unfold cpl; omega
  unfold f_X3_weighBonds_108
  rw [w13 s 0 (i := 0) rfl (by decide), w0, w13 s 3 (i := 3) rfl (by decide), w3, w13 s 4 (i := 4) rfl (by decide), w4, bd_n (cc_caseOf F b t k1 k2 h), w13 s 1 (i := 1) rfl (by decide), w1, nI_add]
  have e : f_X2_setComing F a (nI (cpl b t k1 k2 + f)) l3 h = some ((), hp_sI h (a + 5) (cpl b t k1 k2 + f) l3) := by
    unfold f_X2_setComing
    rw [if_neg (nI_pos (by omega)), sh.g 5 9 (by decide), sh.al 5 (by decide), if_neg (nI_ge (show _ < hs_l 5 from hl) (by decide)), sh.g 5 9 (by decide), sh.w 5 _ rfl (by decide) (show _ < hs_l 5 from hl)]
  rw [cV_n sh.1 e, nI_1]
theorem cut_j (F : Nat) (v : Int32) (h : Hp) (K : Int32 → Hp → Option (Unit × Hp)) : (bd (f_J9_min_7cf53 F 3 v h) fun v29 h30 => bd (f_J9_max_7cf53 F 0 v29 h30) fun v31 h32 => K v31 h32) = K (nI (clc v)) h := by
  have z3 : (3 : Int32).toInt = 3 := rfl
  have z0 : (0 : Int32).toInt = 0 := rfl
  unfold f_J9_min_7cf53 f_J9_max_7cf53 clc
  by_cases a : v < 3
  · rw [if_pos a]
    show (bd (if 0 < v then _ else _) fun v31 h32 => K v31 h32) = _
    have a1 := Int32.lt_iff_toInt_lt.mp a
    by_cases b : 0 < v
    · have b1 := Int32.lt_iff_toInt_lt.mp b
      have ge : (0 : Int32) ≤ v := Int32.le_iff_toInt_le.mpr (by omega)
      rw [if_pos b, if_pos ge, if_pos (Int32.le_iff_toInt_le.mpr (by omega))]
      obtain ⟨j, hj3, hj⟩ := nI_of2 (x := v) (M := 3) (n := 3) rfl (Int32.not_lt.mpr ge) (Int32.le_iff_toInt_le.mpr (by omega))
      show K v h = _
      rw [hj, nI_clamp (by omega)]
    · rw [if_neg b]
      show K 0 h = _
      by_cases ge : (0 : Int32) ≤ v
      · have g1 := Int32.le_iff_toInt_le.mp ge
        have : v = 0 := i32_eq (by
          have nb : ¬ (0 : Int32).toInt < v.toInt := fun w => b (Int32.lt_iff_toInt_lt.mpr w)
          omega)
        rw [this]; rfl
      · rw [if_neg ge]; rfl
  · rw [if_neg a]
    show K 3 h = _
    have na : ¬ v.toInt < (3 : Int32).toInt := fun w => a (Int32.lt_iff_toInt_lt.mpr w)
    have ge : (0 : Int32) ≤ v := Int32.le_iff_toInt_le.mpr (by omega)
    rw [if_pos ge]
    by_cases b : v ≤ 3
    · have b1 := Int32.le_iff_toInt_le.mp b
      rw [if_pos b, show v = 3 from i32_eq (by omega)]; rfl
    · rw [if_neg b]; rfl
theorem cc_79 (hF : 2000 ≤ F) {h : Hp} (c : WIx x a h nf ks fc lc fm lm) (w : WN h x t f (ks f) k1 k2) (ht : t < 2) (hf : f < nf) (h1 : k1 ≤ nf) (h2 : k2 ≤ nf) {b : Nat} (hb : b < 10) (ne : lc ≠ []) (K45 : Nat → Nat → Int32 → Int32 → Int32 → Hp → Option (Unit × Hp)) (l2 : Int32) : ∃ h', f_X3_weighBonds_79 F K45 (x + 11) a l2 (nI b) h = f_X3_weighBonds_108 F K45 (x + 11) a l2 (nI (clc (zI (lwv (Wd t f (ks f) k1 k2 b) lc)))) (nI b) h' ∧ FVw x a h h' ∧ hp_I h' (a + 5) = hp_I h (a + 5) ∧ WIx x a h' nf ks fc lc fm lm ∧ WN h' x t f (ks f) k1 k2 := by
  have c' := c
  obtain ⟨⟨s, sh, ap⟩, ⟨-, n4⟩, kd, ⟨⟨q1, q2, q3, q4⟩, ⟨q5, q6⟩, q7, q8⟩, ⟨lk, -⟩, -⟩ := c'
  have kf := kd f (by omega)
  have sm : t < 1000 ∧ f < 1000 ∧ ks f < 1000 ∧ k1 < 1000 ∧ k2 < 1000 ∧ b < 1000 := ⟨by omega, by omega, by omega, by omega, by omega, by omega⟩
  have wb := Wd_b sm
  have f0 : FVw x a h (hp_sI h (x + 13) 5 (nI b)) := FVw.w13
  have s0 : CSH (hp_sI h (x + 13) 5 (nI b)) x := s.sh f0.1
  have w0 : WN (hp_sI h (x + 13) 5 (nI b)) x t f (ks f) k1 k2 := by
    unfold WN
    rw [sI_at, sI_at, sI_at, sI_at, sI_at, if_neg (by decide), if_neg (by decide), if_neg (by decide), if_neg (by decide), if_neg (by decide)]
    exact w
  have e5 : hp_I (hp_sI h (x + 13) 5 (nI b)) (x + 13) 5 = nI b := by rw [sI_at, if_pos rfl]
  have vl : Val lc := by
    rcases lk with z | z
    · exact absurd z ne
    · exact z.2
  have e11 : hp_I (hp_sI h (x + 13) 5 (nI b)) (x + 11) = hp_I h (x + 11) := sI_ne _ _ _ (by omega)
  have e12 : hp_I (hp_sI h (x + 13) 5 (nI b)) (x + 12) = hp_I h (x + 12) := sI_ne _ _ _ (by omega)
  obtain ⟨h', e, fg, s'⟩ := cc_value F hF (h := hp_sI h (x + 13) 5 (nI b)) (x := x) (fr := fc) (l := lc) wb q5 s0 (by rw [e12]; exact q7) vl (fun j hj => by
    rw [Wd_z sm hj]
    obtain ⟨u0, u1, u2, u3, u4⟩ := w0
    match j with
    | 0 => exact u0
    | 1 => exact u1
    | 2 => exact u2
    | 3 => exact u3
    | 4 => exact u4
    | 5 => exact e5
    | _ + 6 => omega) (lk.v ne wb).1
  have i13 : hp_I h' (x + 13) = hp_I (hp_sI h (x + 13) 5 (nI b)) (x + 13) := fg.1.at (by decide)
  have fv := f0.tr fg.fv
  refine ⟨h', ?_, fv, ?_, c.fv fv ⟨b, hb, by rw [i13]; exact e5⟩, ?_⟩
  · unfold f_X3_weighBonds_79
    rw [s.g 4 11 6 13 (by decide), wI_n (s.t 13 20 (by decide)) (s.l 13 6 (by decide)) (show (5 : Int32) = nI 5 from rfl) (by decide) (by decide), gI_n (s0.t 11 4 (by decide)), gI_n (s0.t 11 4 (by decide)), e11, q1, q2, cV_n (s0.t 11 4 (by decide)) e]
    exact cut_j F _ h' _
  · have y1 := (fg.1.2 (a + 5) (fun k hk => by
      rcases List.mem_cons.mp hk with rfl | hk
      · exact ap 5 11 (by decide) (by decide) (by decide)
      · rw [List.mem_singleton.mp hk]; exact ap 5 14 (by decide) (by decide) (by decide))).1
    rw [y1, sI_ne _ _ _ (ap 5 13 (by decide) (by decide) (by decide))]
  · unfold WN
    rw [i13]
    exact w0
end case
