/-! L3, the class: what can be undone; the calls that do deeds -/
def PAC (h : Hp) (x n : Nat) (ps : Nat → Nat × Nat) : Prop := hp_I h (x + 17) 0 = nI n ∧ n ≤ 10 ∧ ∀ i, i < n → hp_I h (x + 18) i = nI (cs (ps i).1) ∧ hp_I h (x + 19) i = nI (ps i).2
theorem PAC.fa {h h' : Hp} {x n : Nat} {ps : Nat → Nat × Nat} {ks : List Nat} (p : PAC h x n ps) (f : FA x ks h h') (h1 : 17 ∉ ks) (h2 : 18 ∉ ks) (h3 : 19 ∉ ks) : PAC h' x n ps := by
  unfold PAC
  rw [f.at h1, f.at h2, f.at h3]; exact p
theorem cc_keep45 (F : Nat) {h : Hp} {x n : Nat} {ps : Nat → Nat × Nat} {s b : Nat} (c : CSH h x) (h0 : hp_I h (x + 17) 0 = nI n) (hn : n < 10) (p : ∀ i, i < n → hp_I h (x + 18) i = nI (cs (ps i).1) ∧ hp_I h (x + 19) i = nI (ps i).2) (st : ST h (x + 15) s b) : ∃ h', f_X4_keep_45 F (x + 17) (x + 15) h = some ((), h') ∧ FA x [17, 18, 19] h h' ∧ PAC h' x (n + 1) (fun i => if i = n then (s, b) else ps i) := by
  unfold f_X4_keep_45
  rw [c.g 5 17 1 18 (by decide), gI_n (c.t 17 5 (by decide)), h0, gI_n st.1, st.2.1, wI_n (c.t 18 20 (by decide)) (c.l 18 10 (by decide)) rfl hn (by decide)]
  have c1 : CSH (hp_sI h (x + 18) n (nI (cs s))) x := c.sh (SH.rf h)
  rw [c1.g 5 17 2 19 (by decide), gI_n (c1.t 17 5 (by decide)), sI_ne h n _ (show x + 17 ≠ x + 18 by omega), h0, gI_n (c1.t 15 9 (by decide)), sI_ne h n _ (show x + 15 ≠ x + 18 by omega), st.2.2, wI_n (c1.t 19 20 (by decide)) (c1.l 19 10 (by decide)) rfl hn (by decide)]
  have c2 : CSH (hp_sI (hp_sI h (x + 18) n (nI (cs s))) (x + 19) n (nI b)) x := c1.sh (SH.rf _)
  rw [gI_n (c2.t 17 5 (by decide)), sI_ne _ n _ (show x + 17 ≠ x + 19 by omega), sI_ne h n _ (show x + 17 ≠ x + 18 by omega), h0, pI_n (c2.t 17 5 (by decide)), nI_1]
  refine ⟨_, rfl, ((FA.sI (by decide)).tr (FA.sI (by decide))).tr (FA.sI (by decide)), ?_, by omega, fun i hi => ?_⟩
  · rw [sI_at, if_pos rfl]
  · rw [sI_ne _ 0 _ (show x + 18 ≠ x + 17 by omega), sI_ne _ n _ (show x + 18 ≠ x + 19 by omega), sI_ne _ 0 _ (show x + 19 ≠ x + 17 by omega), sI_at, sI_at, sI_ne h n _ (show x + 19 ≠ x + 18 by omega)]
    dsimp only
    by_cases e : i = n
    · rw [if_pos e, if_pos e, if_pos e]; exact ⟨rfl, rfl⟩
    · rw [if_neg e, if_neg e, if_neg e]; exact p i (by omega)
theorem pus_lt {n : Nat} (h : n ≠ 10) (ps : Nat → Nat × Nat) (v : Nat × Nat) : pus n ps v = fun i => if i = n then v else ps i := by
  funext i
  unfold pus
  rw [if_neg h]
theorem pus_10 (ps : Nat → Nat × Nat) (v : Nat × Nat) : pus 10 ps v = fun i => if i = 9 then v else ps (i + 1) := by
  funext i
  unfold pus
  rw [if_pos rfl]
theorem cp_n {α : Type} {h : Hp} {a : Nat} (t : hp_t h a = 20) (l : hp_l h a = 10) (K : Hp → Option α) : cp h a 1 a 0 9 K = K (hp_cp h a 1 a 0 9) := by
  unfold cp
  have e1 : ix (1 : Int32) = 1 := by decide
  have e0 : ix (0 : Int32) = 0 := by decide
  have e9 : ix (9 : Int32) = 9 := by decide
  rw [e1, e0, e9, gd_t ⟨t, t, by decide, by decide, by decide, by rw [l]; decide, by rw [l]; decide⟩]
theorem cp_at (h : Hp) (a j : Nat) (hj : j < 9) : hp_I (hp_cp h a 1 a 0 9) a j = hp_I h a (j + 1) := by
  show (if a = a then va_cpy (hp_I h a) (hp_I h a) 1 0 9 j else hp_I h a j) = _
  rw [if_pos rfl, pk_cpy_in (Nat.zero_le _) (by omega), show 1 + (j - 0) = j + 1 by omega]
theorem cp_ne (h : Hp) {a b : Nat} (hb : b ≠ a) : hp_I (hp_cp h a 1 a 0 9) b = hp_I h b := by
  funext j
  show (if b = a then va_cpy (hp_I h a) (hp_I h a) 1 0 9 j else hp_I h b j) = _
  rw [if_neg hb]
theorem FA.cp {x k : Nat} {ks : List Nat} {h : Hp} (hk : k ∈ ks) : FA x ks h (hp_cp h (x + k) 1 (x + k) 0 9) := ⟨SH.rf h, fun _ hy => ⟨cp_ne h (hy k hk), rfl⟩⟩
theorem cc_keep (F : Nat) {h : Hp} {x n : Nat} {ps : Nat → Nat × Nat} {s b : Nat} (c : CSH h x) (p : PAC h x n ps) (st : ST h (x + 15) s b) : ∃ h', f_X4_keep F (x + 17) (x + 15) h = some ((), h') ∧ FA x [17, 18, 19] h h' ∧ PAC h' x (pun n) (pus n ps (s, b)) := by
  obtain ⟨p1, p2, p3⟩ := p
  unfold f_X4_keep
  rw [gI_n (c.t 17 5 (by decide)), p1]
  by_cases q : n < 10
  · rw [if_pos (show nI n < 10 from nI_lt (b := 10) q (by decide))]
    obtain ⟨h', e, f, r⟩ := cc_keep45 F c p1 q p3 st
    refine ⟨h', e, f, ?_⟩
    rw [pus_lt (by omega), show pun n = n + 1 by unfold pun; rw [if_neg (by omega)]]
    exact r
  · have e10 : n = 10 := by omega
    subst e10
    rw [if_neg (show ¬ nI 10 < 10 by decide), c.g 5 17 1 18 (by decide), c.g 5 17 1 18 (by decide), cp_n (c.t 18 20 (by decide)) (c.l 18 10 (by decide))]
    have c1 : CSH (hp_cp h (x + 18) 1 (x + 18) 0 9) x := c.sh (SH.rf h)
    rw [c1.g 5 17 2 19 (by decide), c1.g 5 17 2 19 (by decide), cp_n (c1.t 19 20 (by decide)) (c1.l 19 10 (by decide))]
    have c2 : CSH (hp_cp (hp_cp h (x + 18) 1 (x + 18) 0 9) (x + 19) 1 (x + 19) 0 9) x := c1.sh (SH.rf _)
    rw [pI_n (c2.t 17 5 (by decide))]
    have c3 := c2.sh (h' := hp_sI (hp_cp (hp_cp h (x + 18) 1 (x + 18) 0 9) (x + 19) 1 (x + 19) 0 9) (x + 17) 0 9) (SH.rf _)
    have f3 : FA x [17, 18, 19] h (hp_sI (hp_cp (hp_cp h (x + 18) 1 (x + 18) 0 9) (x + 19) 1 (x + 19) 0 9) (x + 17) 0 9) := ((FA.cp (by decide)).tr (FA.cp (by decide))).tr (FA.sI (by decide))
    obtain ⟨h', e, f, r⟩ := cc_keep45 F (ps := fun i => ps (i + 1)) (n := 9) c3 (by rw [sI_at, if_pos rfl]; rfl) (by decide) (fun i hi => by
      rw [sI_ne _ 0 _ (show x + 18 ≠ x + 17 by omega), sI_ne _ 0 _ (show x + 19 ≠ x + 17 by omega), cp_ne _ (show x + 18 ≠ x + 19 by omega), cp_at h _ i hi, cp_at _ _ i hi, cp_ne h (show x + 19 ≠ x + 18 by omega)]
      exact p3 (i + 1) (by omega)) (st.cg rfl (f3.at (by decide)))
    refine ⟨h', e, f3.tr f, ?_⟩
    rw [pus_10]
    exact r
theorem cc_takeTrial (F : Nat) {h : Hp} {x n : Nat} {ps : Nat → Nat × Nat} {s b s' b' : Nat} (c : CSH h x) (p : PAC h x n ps) (st : ST h (x + 15) s b) (st' : ST h (x + 16) s' b') : ∃ h', f_X11_takeTrial F x h = some ((), h') ∧ FA x [15, 17, 18, 19] h h' ∧ PAC h' x (pun n) (pus n ps (s, b)) ∧ ST h' (x + 15) s' b' := by
  unfold f_X11_takeTrial
  obtain ⟨h1, e1, f1, p1⟩ := cc_keep F c p st
  have c1 := c.sh f1.1
  rw [c.g0 7 17 (by decide), c.g0 5 15 (by decide), cV_n (c.t 17 5 (by decide)) e1, c1.g0 5 15 (by decide), c1.g0 6 16 (by decide)]
  obtain ⟨h2, e2, f2, s2, -⟩ := cc_copy F (show x + 15 ≠ x + 16 by omega) (c1.t 15 9 (by decide)) (st'.cg (by rw [f1.1.1]) (f1.at (by decide)))
  rw [cV_n (c1.t 15 9 (by decide)) e2]
  have f2' : FA x [15] h1 h2 := f2.fa (by decide)
  exact ⟨h2, rfl, (f1.mono (by decide)).tr (f2'.mono (by decide)), p1.fa f2' (by decide) (by decide) (by decide), s2⟩
/-- house, stand, bond, what can be undone -/
def CP (h : Hp) (x a : Nat) (H : HM) (s b n : Nat) (ps : Nat → Nat × Nat) : Prop := CB h x a H s b ∧ PAC h x n ps ∧ ∀ i, i < n → STok H (ps i).1 ∧ (ps i).2 < 10
def CPo (h' : Hp) (x a : Nat) (H : HM) (s b n : Nat) (ps : Nat → Nat × Nat) (o : Option (Nat × Nat)) : Prop := match o with
  | none => CP h' x a H s b n ps
  | some q => CP h' x a H q.1 q.2 (pun n) (pus n ps (s, b))
theorem CP.fa {h h' : Hp} {x a : Nat} {H : HM} {s b n : Nat} {ps : Nat → Nat × Nat} {ks : List Nat} (r : CP h x a H s b n ps) (f : FA x ks h h') (hk : ∀ k ∈ ks, k < 48 ∧ ct k ≠ 0 ∧ k ≠ 15 ∧ k ≠ 17 ∧ k ≠ 18 ∧ k ≠ 19) : CP h' x a H s b n ps :=
  ⟨r.1.fa f (fun k q => ⟨(hk k q).1, (hk k q).2.1, (hk k q).2.2.1⟩), r.2.1.fa f (fun q => (hk 17 q).2.2.2.1 rfl) (fun q => (hk 18 q).2.2.2.2.1 rfl) (fun q => (hk 19 q).2.2.2.2.2 rfl), r.2.2⟩
theorem pus_ok {H : HM} {s b n : Nat} {ps : Nat → Nat × Nat} (hn : n ≤ 10) (hs : STok H s) (hb : b < 10) (h : ∀ i, i < n → STok H (ps i).1 ∧ (ps i).2 < 10) : ∀ i, i < pun n → STok H (pus n ps (s, b) i).1 ∧ (pus n ps (s, b) i).2 < 10 := by
  intro i hi
  unfold pun at hi
  unfold pus
  by_cases q : n = 10
  · rw [if_pos q] at hi
    rw [if_pos q]
    by_cases q2 : i = 9
    · rw [if_pos q2]; exact ⟨hs, hb⟩
    · rw [if_neg q2]; exact h _ (by omega)
  · rw [if_neg q] at hi
    rw [if_neg q]
    by_cases q2 : i = n
    · rw [if_pos q2]; exact ⟨hs, hb⟩
    · rw [if_neg q2]; exact h _ (by omega)
/-- the trial is what was done: it is taken -/
theorem CP.take {h h1 : Hp} {x a : Nat} {H : HM} {s b n : Nat} {ps : Nat → Nat × Nat} {s' b' : Nat} (F : Nat) (r : CP h x a H s b n ps) (f1 : FA x [16] h h1) (st : ST h1 (x + 16) s' b') (hs : STok H s') (hb : b' < 10) : ∃ h', f_X11_takeTrial F x h1 = some ((), h') ∧ FA x [15, 16, 17, 18, 19] h h' ∧ CP h' x a H s' b' (pun n) (pus n ps (s, b)) := by
  have r1 := r.fa f1 (by decide)
  obtain ⟨h2, e2, f2, p2, s2⟩ := cc_takeTrial F r1.1.1 r1.2.1 r1.1.2.2.2.1 st
  have f2' : FA x [15, 16, 17, 18, 19] h1 h2 := f2.mono (by decide)
  exact ⟨h2, e2, (f1.mono (by decide)).tr f2', r1.1.mv f2 (by decide) s2 hs hb, p2, pus_ok r.2.1.2.1 r.1.ok r.1.b10 r.2.2⟩
/-- the trial is begun -/
theorem CP.try {h : Hp} {x a : Nat} {H : HM} {s b n : Nat} {ps : Nat → Nat × Nat} (F : Nat) (r : CP h x a H s b n ps) : ∃ h1, f_X8_copy F (x + 16) (x + 15) h = some ((), h1) ∧ FA x [16] h h1 ∧ ST h1 (x + 16) s b := by
  obtain ⟨h1, e1, f1, s1, -⟩ := cc_copy F (show x + 16 ≠ x + 15 by omega) (r.1.1.t 16 9 (by decide)) r.1.2.2.2.1
  exact ⟨h1, e1, f1.fa (by decide), s1⟩
theorem hqa16 {h : Hp} {x a : Nat} {H : HM} {s b : Nat} (c : CB h x a H s b) : ∀ k, k < 6 → a + k ≠ x + 16 := fun k hk => c.2.2.2.2.2.2 k 16 hk (by decide) (by decide)
theorem cc_tell (F : Nat) {h : Hp} {x a : Nat} {H : HM} {s b n : Nat} {ps : Nat → Nat × Nat} (r : CP h x a H s b n ps) (y z : Int32) : ∃ h', f_X11_tell F x y z h = some ((sp_tell H s b y z).1, h') ∧ FA x [15, 16, 17, 18, 19] h h' ∧ CPo h' x a H s b n ps ((sp_tell H s b y z).2.map fun u => (u, b)) := by
  have f4 := r.1.hc.f4
  unfold f_X11_tell sp_tell
  obtain ⟨h1, e1, f1, s1⟩ := r.try F
  have r1 := r.fa f1 (by decide)
  have f1' : FA x [15, 16, 17, 18, 19] h h1 := f1.mono (by decide)
  have et := cc_telling F r1.1.hc s1 r1.1.ok r1.1.b10 y z
  rw [r.1.1.g0 6 16 (by decide), r.1.now, cV_n (r.1.1.t 16 9 (by decide)) e1, r1.1.1.g0 6 16 (by decide), r1.1.home]
  cases hx : vi y 2 with
  | none =>
    rw [hx] at et
    rw [cV_n s1.1 (show _ = some ((1 : Int32), h1) from et), if_neg (by decide)]
    exact ⟨h1, rfl, f1', r1⟩
  | some t =>
    rw [hx] at et
    cases hy : vi z (hm_f H) with
    | none =>
      rw [hy] at et
      rw [cV_n s1.1 (show _ = some ((1 : Int32), h1) from et), if_neg (by decide)]
      exact ⟨h1, rfl, f1', r1⟩
    | some f =>
      rw [hy] at et
      obtain ⟨t1, rfl⟩ := vi_some hx
      obtain ⟨g1, rfl⟩ := vi_some hy
      cases hu : tld H b s t f with
      | none =>
        dsimp only at et
        rw [hu] at et
        rw [cV_n s1.1 (show _ = some ((3 : Int32), h1) from et), if_neg (by decide)]
        dsimp only
        rw [hu]
        exact ⟨h1, rfl, f1', r1⟩
      | some u =>
        dsimp only at et
        rw [hu] at et
        have ok := tld_ok r.1.hc.2.1 r.1.ok t1 g1 hu
        obtain ⟨h3, e3, f3, r3⟩ := r.take F (f1.tr (FA.sI (k := 16) (j := 0) (v := nI (cs u)) (by decide))) ⟨s1.1, by rw [sI_at, if_pos rfl], by rw [sI_at, if_neg (by decide)]; exact s1.2.2⟩ ok r.1.b10
        rw [cV_n s1.1 (show _ = some ((0 : Int32), hp_sI h1 (x + 16) 0 (nI (cs u))) from et), if_pos rfl, cV_n (show hp_t (hp_sI h1 (x + 16) 0 (nI (cs u))) x = 12 from r1.1.1.t0) e3, r3.1.now, r3.1.ages, one_sub t1, bd_n (cc_ageIn F (show 1 - t < 2 by omega) (by omega) h3)]
        dsimp only
        rw [hu]
        exact ⟨h3, rfl, f3, r3⟩
theorem cc_forget (F : Nat) {h : Hp} {x a : Nat} {H : HM} {s b n : Nat} {ps : Nat → Nat × Nat} (r : CP h x a H s b n ps) (y z : Int32) : ∃ h', f_X11_forget F x y z h = some ((sp_forget H s b y z).1, h') ∧ FA x [15, 16, 17, 18, 19] h h' ∧ CPo h' x a H s b n ps (sp_forget H s b y z).2 := by
  have f4 := r.1.hc.f4
  unfold f_X11_forget sp_forget
  obtain ⟨h1, e1, f1, s1⟩ := r.try F
  have r1 := r.fa f1 (by decide)
  have f1' : FA x [15, 16, 17, 18, 19] h h1 := f1.mono (by decide)
  have et := cc_forgetting F r1.1.hc s1 y z
  rw [r.1.1.g0 6 16 (by decide), r.1.now, cV_n (r.1.1.t 16 9 (by decide)) e1, r1.1.1.g0 6 16 (by decide), r1.1.home]
  cases hx : vi y 2 with
  | none =>
    rw [hx] at et
    rw [cV_n s1.1 (show _ = some ((1 : Int32), h1) from et), if_neg (by decide)]
    exact ⟨h1, rfl, f1', r1⟩
  | some t =>
    rw [hx] at et
    cases hy : vi z (hm_f H) with
    | none =>
      rw [hy] at et
      rw [cV_n s1.1 (show _ = some ((1 : Int32), h1) from et), if_neg (by decide)]
      exact ⟨h1, rfl, f1', r1⟩
    | some f =>
      rw [hy] at et
      obtain ⟨t1, rfl⟩ := vi_some hx
      obtain ⟨g1, rfl⟩ := vi_some hy
      dsimp only at et ⊢
      by_cases q : dg s (4 * t + f) = 0
      · rw [if_pos q] at et ⊢
        rw [cV_n s1.1 et, if_neg (by decide)]; exact ⟨h1, rfl, f1', r1⟩
      · rw [if_neg q] at et ⊢
        have ok : STok H (st4 s (4 * t + f) 0) := r.1.ok.st (by decide) (fun t' f' h1 h2 h3 => by omega)
        have f2 : FA x [16] h (hp_sI h1 (x + 16) 0 (nI (cs (st4 s (4 * t + f) 0)))) := f1.tr (FA.sI (by decide))
        have r2 := r.fa f2 (by decide)
        obtain ⟨h3, e3, f3, r3⟩ := r.take F f2 ⟨s1.1, by rw [sI_at, if_pos rfl], by rw [sI_at, if_neg (by decide)]; exact s1.2.2⟩ ok r.1.b10
        rw [cV_n s1.1 et, if_pos rfl, r2.1.now, r2.1.ages, bd_n (cc_ageIn F t1 (by omega) _), cV_n r2.1.1.t0 e3]
        exact ⟨h3, rfl, f3, r3⟩
theorem cc_bond (F : Nat) {h : Hp} {x a : Nat} {H : HM} {s b n : Nat} {ps : Nat → Nat × Nat} (r : CP h x a H s b n ps) (y : Int32) : ∃ h', f_X11_bond F x y h = some ((sp_bond s b y).1, h') ∧ FA x [15, 16, 17, 18, 19] h h' ∧ CPo h' x a H s b n ps (sp_bond s b y).2 := by
  unfold f_X11_bond sp_bond
  obtain ⟨h1, e1, f1, s1⟩ := r.try F
  have r1 := r.fa f1 (by decide)
  have f1' : FA x [15, 16, 17, 18, 19] h h1 := f1.mono (by decide)
  have et := cc_bonding F s1.1 y
  rw [r.1.1.g0 6 16 (by decide), r.1.now, cV_n (r.1.1.t 16 9 (by decide)) e1, r1.1.1.g0 6 16 (by decide)]
  cases hx : vi y 10 with
  | none =>
    rw [hx] at et
    rw [cV_n s1.1 (show _ = some ((1 : Int32), h1) from et), if_neg (by decide)]
    exact ⟨h1, rfl, f1', r1⟩
  | some k =>
    rw [hx] at et
    obtain ⟨k1, rfl⟩ := vi_some hx
    have f2 : FA x [16] h (hp_sI h1 (x + 16) 1 (nI k)) := f1.tr (FA.sI (by decide))
    have r2 := r.fa f2 (by decide)
    obtain ⟨h3, e3, f3, r3⟩ := r.take F f2 ⟨s1.1, by rw [sI_at, if_neg (by decide)]; exact s1.2.1, by rw [sI_at, if_pos rfl]⟩ r.1.ok k1
    rw [cV_n s1.1 (show _ = some ((0 : Int32), hp_sI h1 (x + 16) 1 (nI k)) from et), if_pos rfl, r2.1.now, r2.1.bond, cV_n r2.1.1.t0 e3]
    exact ⟨h3, rfl, f3, r3⟩
theorem cc_days_r (F : Nat) {h0 : Hp} {x a : Nat} {H : HM} {s0 b n0 : Nat} {ps : Nat → Nat × Nat} (r : CP h0 x a H s0 b n0 ps) {N : Nat} (hN : N ≤ 99) : ∀ q k n (h : Hp) (s : Nat), k + q = N → q < n → FA x [16] h0 h → ST h (x + 16) s b → STok H s → ∃ h', f_X11_days_27 F n x (nI N) (nI k) h = some (nI (pb2 H (dyn q s)), h') ∧ FA x [15, 16, 17, 18, 19] h0 h' ∧ CP h' x a H (dyn q s) b (pun n0) (pus n0 ps (s0, b)) := by
  intro q
  induction q with
  | zero =>
    intro k n h s hk hn f st hs
    obtain ⟨n, rfl⟩ : ∃ j, n = j + 1 := ⟨n - 1, by omega⟩
    show ∃ h', f_X11_days_27_b F (f_X11_days_27 F n) x (nI N) (nI k) h = _ ∧ _
    unfold f_X11_days_27_b
    have r1 := r.fa f (by decide)
    obtain ⟨h3, e3, f3, r3⟩ := r.take F f st hs r.1.b10
    rw [if_pos (nI_le (by omega) (by omega)), cV_n r1.1.1.t0 e3, r3.1.home, r3.1.now, r3.1.ages, cV_n r3.1.hc.t (cc_doneByBoth F r3.1.hc hs)]
    exact ⟨h3, rfl, f3, r3⟩
  | succ q ih =>
    intro k n h s hk hn f st hs
    obtain ⟨n, rfl⟩ : ∃ j, n = j + 1 := ⟨n - 1, by omega⟩
    show ∃ h', f_X11_days_27_b F (f_X11_days_27 F n) x (nI N) (nI k) h = _ ∧ _
    unfold f_X11_days_27_b
    have r1 := r.fa f (by decide)
    rw [if_neg (nI_ge (by omega) (by omega)), r1.1.1.g0 6 16 (by decide), r1.1.1.g0 6 16 (by decide), gI_n st.1, st.2.1, bd_n (cc_day F s h), pI_n st.1, nI_1]
    exact ih (k + 1) n _ (dy s) (by omega) (by omega) (f.tr (FA.sI (by decide))) ⟨st.1, by rw [sI_at, if_pos rfl], by rw [sI_at, if_neg (by decide)]; exact st.2.2⟩ hs.dy
theorem vb_n {x : Int32} {a c : Nat} (ha : a < 2 ^ 31) (hc : c < 2 ^ 31) (h : vb x a c = none) : x < nI a ∨ nI c < x := by
  have := vb_none h
  by_cases q : x.toInt < a
  · exact Or.inl (Int32.lt_iff_toInt_lt.mpr (by rw [nI_toInt ha]; exact q))
  · exact Or.inr (Int32.lt_iff_toInt_lt.mpr (by rw [nI_toInt hc]; omega))
theorem cc_days (F : Nat) (hF : 200 ≤ F) {h : Hp} {x a : Nat} {H : HM} {s b n : Nat} {ps : Nat → Nat × Nat} (r : CP h x a H s b n ps) (y : Int32) : ∃ h', f_X11_days F x y h = some ((sp_days H s b y).1, h') ∧ FA x [15, 16, 17, 18, 19] h h' ∧ CPo h' x a H s b n ps (sp_days H s b y).2 := by
  unfold f_X11_days sp_days
  cases hx : vb y 1 99 with
  | none =>
    have fr : FA x [15, 16, 17, 18, 19] h h := FA.rf _ _ _
    by_cases q : y < 1
    · rw [if_pos q]; exact ⟨h, rfl, fr, r⟩
    · rw [if_neg q]
      rcases vb_n (by decide) (by decide) hx with z | z
      · exact absurd z q
      · rw [if_neg (show ¬ y ≤ 99 from not_le_lt z)]; exact ⟨h, rfl, fr, r⟩
  | some k =>
    obtain ⟨k1, k2, rfl, -⟩ := vb_some hx
    obtain ⟨h1, e1, f1, s1⟩ := r.try F
    rw [if_neg (show ¬ nI k < 1 from nI_nlt (b := 1) k1 (by omega)), if_pos (show nI k ≤ 99 from nI_le (b := 99) k2 (by decide)), r.1.1.g0 6 16 (by decide), r.1.now, cV_n (r.1.1.t 16 9 (by decide)) e1]
    exact cc_days_r F r k2 k 0 F h1 s (by omega) (by omega) f1 s1 r.1.ok
theorem cc_bringBack (F : Nat) {h : Hp} {x n k : Nat} {ps : Nat → Nat × Nat} (c : CSH h x) (p : PAC h x n ps) (k1 : 1 ≤ k) (kn : k ≤ n) : ∃ h', f_X4_bringBack F (x + 17) (nI k) (x + 15) h = some ((), h') ∧ FA x [15, 17] h h' ∧ PAC h' x (n - k) ps ∧ ST h' (x + 15) (ps (n - k)).1 (ps (n - k)).2 := by
  obtain ⟨p1, p2, p3⟩ := p
  have hp := p3 (n - k) (by omega)
  unfold f_X4_bringBack
  rw [if_neg (show ¬ nI k < 1 from nI_nlt (b := 1) k1 (by omega)), gI_n (c.t 17 5 (by decide)), p1, if_neg (nI_nlt kn (by omega)), gI_n (c.t 17 5 (by decide)), p1, pk_sub kn, pI_n (c.t 17 5 (by decide))]
  have c1 : CSH (hp_sI h (x + 17) 0 (nI (n - k))) x := c.sh (SH.rf h)
  rw [c1.g 5 17 1 18 (by decide), gI_n (c1.t 17 5 (by decide)), sI_at, if_pos rfl, aI_n (c1.t 18 20 (by decide)) (c1.l 18 10 (by decide)) rfl (show n - k < 10 by omega) (by decide), sI_ne _ 0 _ (show x + 18 ≠ x + 17 by omega), hp.1, pI_n (c1.t 15 9 (by decide))]
  have c2 : CSH (hp_sI (hp_sI h (x + 17) 0 (nI (n - k))) (x + 15) 0 (nI (cs (ps (n - k)).1))) x := c1.sh (SH.rf _)
  rw [c2.g 5 17 2 19 (by decide), gI_n (c2.t 17 5 (by decide)), sI_ne _ 0 _ (show x + 17 ≠ x + 15 by omega), sI_at, if_pos rfl, aI_n (c2.t 19 20 (by decide)) (c2.l 19 10 (by decide)) rfl (show n - k < 10 by omega) (by decide), sI_ne _ 0 _ (show x + 19 ≠ x + 15 by omega), sI_ne _ 0 _ (show x + 19 ≠ x + 17 by omega), hp.2, pI_n (c2.t 15 9 (by decide))]
  refine ⟨_, rfl, ((FA.sI (by decide)).tr (FA.sI (by decide))).tr (FA.sI (by decide)), ⟨?_, by omega, fun i hi => ?_⟩, c2.t 15 9 (by decide), ?_, ?_⟩
  · rw [sI_ne _ 1 _ (show x + 17 ≠ x + 15 by omega), sI_ne _ 0 _ (show x + 17 ≠ x + 15 by omega), sI_at, if_pos rfl]
  · rw [sI_ne _ 1 _ (show x + 18 ≠ x + 15 by omega), sI_ne _ 0 _ (show x + 18 ≠ x + 15 by omega), sI_ne _ 0 _ (show x + 18 ≠ x + 17 by omega), sI_ne _ 1 _ (show x + 19 ≠ x + 15 by omega), sI_ne _ 0 _ (show x + 19 ≠ x + 15 by omega), sI_ne _ 0 _ (show x + 19 ≠ x + 17 by omega)]
    exact p3 i (by omega)
  · rw [sI_at, if_neg (by decide), sI_at, if_pos rfl]
  · rw [sI_at, if_pos rfl]
theorem cc_undo (F : Nat) {h : Hp} {x a : Nat} {H : HM} {s b n : Nat} {ps : Nat → Nat × Nat} (r : CP h x a H s b n ps) (y : Int32) : ∃ h', f_X11_undo F x y h = some ((match sp_undo n y with | some k => nI k | none => -3), h') ∧ FA x [15, 16, 17, 18, 19] h h' ∧ (match sp_undo n y with
    | some k => CP h' x a H (ps k).1 (ps k).2 k ps
    | none => CP h' x a H s b n ps) := by
  have p2 := r.2.1.2.1
  have fr : FA x [15, 16, 17, 18, 19] h h := FA.rf _ _ _
  unfold f_X11_undo sp_undo
  by_cases q : y < 1
  · rw [if_pos q]
    have : vb y 1 10 = none := by
      cases hv : vb y 1 10 with
      | none => rfl
      | some k =>
        obtain ⟨k1, k2, rfl, -⟩ := vb_some hv
        exact absurd q (nI_nlt (b := 1) k1 (by omega))
    rw [this]
    exact ⟨h, rfl, fr, r⟩
  rw [if_neg q, r.1.1.g0 7 17 (by decide), gI_n (r.1.1.t 17 5 (by decide)), r.2.1.1]
  by_cases q2 : y ≤ nI n
  · rw [if_pos q2]
    obtain ⟨k, hk, rfl⟩ := nI_of2 (x := y) (M := nI n) (n := n) (nI_toInt (by omega)) (fun z => q (Int32.lt_trans z (by decide))) q2
    have k1 : 1 ≤ k := Nat.not_lt.mp fun z => q (nI_lt (b := 1) z (by decide))
    have hv : vb (nI k) 1 10 = some k := by unfold vb; rw [nI_toInt (by omega), if_pos (by omega)]; rfl
    obtain ⟨h1, e1, f1, p1, s1⟩ := cc_bringBack F r.1.1 r.2.1 k1 hk
    have ok := r.2.2 (n - k) (by omega)
    have r1 := r.1.mv f1 (by decide) s1 ok.1 ok.2
    rw [r.1.1.g0 7 17 (by decide), r.1.now, cV_n (r.1.1.t 17 5 (by decide)) e1, r1.1.g0 7 17 (by decide), gI_n (r1.1.t 17 5 (by decide)), p1.1, hv]
    show ∃ h', _ ∧ _ ∧ (match (if k ≤ n then some (n - k) else none) with | some k => _ | none => _)
    rw [if_pos hk]
    refine ⟨h1, ?_, f1.mono (by decide), r1, p1, fun i hi => r.2.2 i (by omega)⟩
    show _ = some ((match (if k ≤ n then some (n - k) else none) with | some k => nI k | none => -3), h1)
    rw [if_pos hk]
  · rw [if_neg q2]
    have : (vb y 1 10).bind (fun k => if k ≤ n then some (n - k) else none) = none := by
      cases hv : vb y 1 10 with
      | none => rfl
      | some k =>
        obtain ⟨k1, k2, rfl, -⟩ := vb_some hv
        show (if k ≤ n then some (n - k) else none) = none
        rw [if_neg (fun z => q2 (nI_le z (by omega)))]
    rw [this]
    exact ⟨h, rfl, fr, r⟩
