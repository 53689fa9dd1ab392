/-! L3, the class: chances -/
def lk2 (H : HM) (b t n v d : Nat) : Nat := if d < hm_d H then lk H b t d n v else 0
/-- q counts, its row of hits is at j -/
def DW (h : Hp) (q j a : Nat) (H : HM) (b t : Nat) (Al : Nat) (Hi : Nat → Nat) : Prop := (hp_t h q = 1 ∧ hp_R h q 1 = some j ∧ hp_R h q 2 = some a) ∧ (hp_t h j = 20 ∧ hp_l h j = 6) ∧ (HC h a H ∧ b < 10 ∧ t < 2 ∧ ∀ k, k < 6 → a + k ≠ j) ∧ (hp_I h q 0 = nI Al ∧ hp_I h q 3 = nI b ∧ hp_I h q 4 = nI t) ∧ ∀ d, d < 6 → hp_I h j d = nI (Hi d)
/-- only ints of q and j changed -/
def F2 (q j : Nat) (h h' : Hp) : Prop := SH h h' ∧ hp_L h' = hp_L h ∧ ∀ y, y ≠ q → y ≠ j → hp_I h' y = hp_I h y
theorem F2.rf (q j : Nat) (h : Hp) : F2 q j h h := ⟨SH.rf h, rfl, fun _ _ _ => rfl⟩
theorem F2.tr {q j : Nat} {h h1 h2 : Hp} (a : F2 q j h h1) (b : F2 q j h1 h2) : F2 q j h h2 := ⟨a.1.tr b.1, b.2.1.trans a.2.1, fun y h1 h2 => (b.2.2 y h1 h2).trans (a.2.2 y h1 h2)⟩
theorem F2.q {q j k : Nat} {v : Int32} {h : Hp} : F2 q j h (hp_sI h q k v) := ⟨SH.rf h, rfl, fun _ h1 _ => sI_ne h k v h1⟩
theorem F2.j {q j k : Nat} {v : Int32} {h : Hp} : F2 q j h (hp_sI h j k v) := ⟨SH.rf h, rfl, fun _ _ h2 => sI_ne h k v h2⟩
theorem F2.fw {q j : Nat} {h h' : Hp} (f : F2 q j h h') : FW (fun y => y = q ∨ y = j) h h' :=
  ⟨Nat.le_of_eq f.1.2.2.2.1.symm, f.1.2.2.2.2.2, fun y _ => ⟨⟨by rw [f.1.1], by rw [f.1.2.1]⟩, fun hn => ⟨f.2.2 y (fun e => hn (Or.inl e)) (fun e => hn (Or.inr e)), by rw [f.2.1], by rw [f.1.2.2.1]⟩⟩⟩
theorem DW.qj {h : Hp} {q j a : Nat} {H : HM} {b t Al : Nat} {Hi : Nat → Nat} (c : DW h q j a H b t Al Hi) : q ≠ j := fun e => by
  have := c.1.1
  rw [e, c.2.1.1] at this
  exact absurd this (by decide)
theorem HC.f2 {h h' : Hp} {a q j : Nat} {H : HM} (c : HC h a H) (f : F2 q j h h') (ht : hp_t h q = 1) (ha : ∀ k, k < 6 → a + k ≠ j) : HC h' a H := by
  refine c.cg (fun k _ => by rw [f.1.1, f.1.2.1]; exact ⟨rfl, rfl⟩) (by rw [f.1.2.2.1]) (fun k hk => f.2.2 _ (fun e => ?_) (ha k hk))
  rcases Nat.eq_zero_or_pos k with z | z
  · subst z
    have := c.t
    rw [show a = q by omega, ht] at this
    exact absurd this (by decide)
  · have := (c.1.2 k z hk).2.1
    rw [e, ht] at this
    exact absurd this (by decide)
theorem cc_tally_r (F : Nat) {q j a : Nat} {H : HM} {b t v Al : Nat} {Hi : Nat → Nat} : ∀ r k n (h : Hp), k + r = 6 → r < n → DW h q j a H b t Al (fun d => Hi d + (if d < k then b2 ((dsa H v t).testBit d) else 0)) → ∃ h', f_X0_tally_12 F n q (nI (dsa H v t)) (nI k) h = some ((), h') ∧ F2 q j h h' ∧ DW h' q j a H b t Al (fun d => Hi d + (if d < 6 then b2 ((dsa H v t).testBit d) else 0)) := by
  intro r
  induction r with
  | zero =>
    intro k n h hk hn c
    obtain ⟨n, rfl⟩ : ∃ j, n = j + 1 := ⟨n - 1, by omega⟩
    have e : k = 6 := by omega
    subst e
    refine ⟨h, ?_, F2.rf _ _ _, c⟩
    show f_X0_tally_12_b F (f_X0_tally_12 F n) q (nI (dsa H v t)) (nI 6) h = _
    unfold f_X0_tally_12_b
    rw [gR_n c.1.1 c.1.2.1, al_n c.2.1.1 c.2.1.2, if_pos (by decide)]
  | succ r ih =>
    intro k n h hk hn c
    obtain ⟨n, rfl⟩ : ∃ j, n = j + 1 := ⟨n - 1, by omega⟩
    have qj := c.qj
    have dl := dsa_lt c.2.2.1.1.2.1 v t
    have hk6 := c.2.2.2.2 k (by omega)
    dsimp only at hk6
    rw [if_neg (Nat.lt_irrefl k), Nat.add_zero] at hk6
    show ∃ h', f_X0_tally_12_b F (f_X0_tally_12 F n) q (nI (dsa H v t)) (nI k) h = _ ∧ _
    unfold f_X0_tally_12_b
    rw [gR_n c.1.1 c.1.2.1, al_n c.2.1.1 c.2.1.2, if_neg (nI_ge (by omega) (by decide)), gR_n c.1.1 c.1.2.1, aI_n c.2.1.1 c.2.1.2 rfl (show k < 6 by omega) (by decide), wI_n c.2.1.1 c.2.1.2 rfl (show k < 6 by omega) (by decide), hk6, tb_and (by omega) (by omega), nI_add, nI_1]
    have eb : b1 ((dsa H v t).testBit k = true) = b2 ((dsa H v t).testBit k) := by cases (dsa H v t).testBit k <;> rfl
    rw [eb]
    have c1 : DW (hp_sI h j k (nI (Hi k + b2 ((dsa H v t).testBit k)))) q j a H b t Al (fun d => Hi d + (if d < k + 1 then b2 ((dsa H v t).testBit d) else 0)) := by
      obtain ⟨c1, c2, ⟨c3, c4, c5, c6⟩, c7, c8⟩ := c
      refine ⟨c1, c2, ⟨c3.f2 (F2.j (q := q) (j := j)) c1.1 c6, c4, c5, c6⟩, by rw [sI_ne _ _ _ qj]; exact c7, fun d hd => ?_⟩
      rw [sI_at]
      dsimp only
      by_cases z : d = k
      · rw [if_pos z, if_pos (by omega), z]
      · rw [if_neg z, c8 d hd]
        dsimp only
        by_cases y : d < k
        · rw [if_pos y, if_pos (by omega)]
        · rw [if_neg y, if_neg (by omega)]
    obtain ⟨h2, e2, f2, c2⟩ := ih (k + 1) n _ (by omega) (by omega) c1
    exact ⟨h2, e2, F2.j.tr f2, c2⟩
theorem DW.cg {h : Hp} {q j a : Nat} {H : HM} {b t Al Al' : Nat} {Hi Hi' : Nat → Nat} (c : DW h q j a H b t Al Hi) (e : Al = Al') (e2 : ∀ d, d < 6 → Hi d = Hi' d) : DW h q j a H b t Al' Hi' := by
  obtain ⟨c1, c2, c3, c4, c5⟩ := c
  exact ⟨c1, c2, c3, by rw [← e]; exact c4, fun d hd => by rw [c5 d hd, e2 d hd]⟩
theorem dsa_b2 {H : HM} {v t d : Nat} : b2 ((dsa H v t).testBit d) = if d < hm_d H then b2 (dse H v t d) else 0 := by
  by_cases z : d < hm_d H
  · rw [if_pos z, dse_tb z]
  · rw [if_neg z]
    unfold dsa
    rw [Nat.testBit_lt_two_pow (Nat.lt_of_lt_of_le (msk_lt _ _) (Nat.pow_le_pow_right (by decide) (by omega)))]; rfl
theorem cc_tally (F : Nat) (hF : 100 ≤ F) {h : Hp} {q j a : Nat} {H : HM} {b t v Al : Nat} {Hi : Nat → Nat} (c : DW h q j a H b t Al Hi) : ∃ h', f_X0_tally F q (nI (dsa H v t)) h = some ((), h') ∧ F2 q j h h' ∧ DW h' q j a H b t (Al + 1) (fun d => Hi d + lk2 H b t 0 v d) := by
  have qj := c.qj
  unfold f_X0_tally
  rw [gI_n c.1.1, c.2.2.2.1.1, pI_n c.1.1, nI_1]
  have c1 : DW (hp_sI h q 0 (nI (Al + 1))) q j a H b t (Al + 1) (fun d => Hi d + (if d < 0 then b2 ((dsa H v t).testBit d) else 0)) := by
    obtain ⟨c1, c2, ⟨c3, c4, c5, c6⟩, ⟨c7, c8, c9⟩, c10⟩ := c
    refine ⟨c1, c2, ⟨c3.f2 (F2.q (q := q) (j := j)) c1.1 c6, c4, c5, c6⟩, ⟨?_, ?_, ?_⟩, fun d hd => ?_⟩
    · rw [sI_at, if_pos rfl]
    · rw [sI_at, if_neg (by decide)]; exact c8
    · rw [sI_at, if_neg (by decide)]; exact c9
    · rw [sI_ne _ _ _ (Ne.symm qj), c10 d hd]
      dsimp only
      rw [if_neg (by omega), Nat.add_zero]
  obtain ⟨h2, e2, f2, c2⟩ := cc_tally_r F (v := v) 6 0 F _ (by omega) (by omega) c1
  refine ⟨h2, e2, F2.q.tr f2, c2.cg rfl (fun d hd => ?_)⟩
  rw [if_pos hd, dsa_b2]
  rfl
/-- what the tellings of one twin from f on add -/
theorem cc_dr41 (F : Nat) {q j a : Nat} {H : HM} {b t v n told : Nat} (ok : STok H v) (ht : told < 2) (Rc : Nat → Nat → Int32 → Int32 → Hp → Option (Unit × Hp)) (hR : ∀ (h : Hp) (v Al : Nat) (Hi : Nat → Nat), STok H v → DW h q j a H b t Al Hi → ∃ h', Rc 0 q (nI (cs v)) (nI n) h = some ((), h') ∧ F2 q j h h' ∧ DW h' q j a H b t (Al + whl H n) (fun d => Hi d + lk2 H b t n v d)) (K33 : Nat → Int32 → Int32 → Int32 → Hp → Option (Unit × Hp)) : ∀ r f m (h : Hp) (Al : Nat) (Hi : Nat → Nat), f + r = hm_f H → r < m → DW h q j a H b t Al Hi → ∃ h', f_X0_go_41 F Rc K33 m q (nI (cs v)) (nI (n + 1)) (nI told) (nI f) h = K33 q (nI (cs v)) (nI (n + 1)) (nI (told + 1)) h' ∧ F2 q j h h' ∧ DW h' q j a H b t (Al + r * whl H n) (fun d => Hi d + sfr (fun f => lk2 H b t n (tdy H b v told f) d) f r) := by
  intro r
  induction r with
  | zero =>
    intro f m h Al Hi hf hm c
    obtain ⟨m, rfl⟩ : ∃ j, m = j + 1 := ⟨m - 1, by omega⟩
    have h4 := c.2.2.1.1.f4
    show ∃ h', f_X0_go_41_b F Rc K33 (f_X0_go_41 F Rc K33 m) _ _ _ _ _ h = _ ∧ _
    unfold f_X0_go_41_b
    rw [gR_n c.1.1 c.1.2.2, c.2.2.1.1.fs, if_pos (nI_le (by omega) (by omega)), nI_1]
    exact ⟨h, rfl, F2.rf _ _ _, c.cg (by rw [Nat.zero_mul, Nat.add_zero]) (fun d _ => rfl)⟩
  | succ r ih =>
    intro f m h Al Hi hf hm c
    obtain ⟨m, rfl⟩ : ∃ j, m = j + 1 := ⟨m - 1, by omega⟩
    have h4 := c.2.2.1.1.f4
    have hfl : f < hm_f H := by omega
    show ∃ h', f_X0_go_41_b F Rc K33 (f_X0_go_41 F Rc K33 m) _ _ _ _ _ h = _ ∧ _
    unfold f_X0_go_41_b f_X0_go_82
    have okt := tdy_ok (b := b) c.2.2.1.1.2.1 ok ht hfl
    obtain ⟨h1, e1, f1, c1⟩ := hR h _ Al Hi okt c
    obtain ⟨h2, e2, f2, c2⟩ := ih (f + 1) m h1 _ _ (by omega) (by omega) c1
    have fin : ∃ h', f_X0_go_41 F Rc K33 m q (nI (cs v)) (nI (n + 1)) (nI told) (nI (f + 1)) h1 = K33 q (nI (cs v)) (nI (n + 1)) (nI (told + 1)) h' ∧ F2 q j h h' ∧ DW h' q j a H b t (Al + (r + 1) * whl H n) (fun d => Hi d + sfr (fun f => lk2 H b t n (tdy H b v told f) d) f (r + 1)) := by
      refine ⟨h2, e2, f1.tr f2, c2.cg ?_ (fun d _ => ?_)⟩
      · rw [Nat.add_mul, Nat.one_mul]; omega
      · show Hi d + lk2 H b t n (tdy H b v told f) d + sfr (fun f => lk2 H b t n (tdy H b v told f) d) (f + 1) r = Hi d + (lk2 H b t n (tdy H b v told f) d + sfr (fun f => lk2 H b t n (tdy H b v told f) d) (f + 1) r)
        omega
    rw [gR_n c.1.1 c.1.2.2, c.2.2.1.1.fs, if_neg (nI_ge (by omega) (by omega)), gR_n c.1.1 c.1.2.2, gI_n c.1.1, c.2.2.2.1.2.1, cV_n c.2.2.1.1.t (cc_afterTelling F c.2.2.1.1 ok c.2.2.1.2.1 ht hfl), nI_1, show nI (n + 1) - 1 = nI n from pk_sub (a := n + 1) (b := 1) (by omega)]
    have et : tdy H b v told f = match tld H b v told f with | none => dy v | some u => dy u := rfl
    cases hv : tld H b v told f with
    | none =>
      rw [hv] at et
      have et : tdy H b v told f = dy v := et
      rw [et] at e1
      rw [show oN (Option.map cs none) = -1 from rfl, if_neg (by decide), bd_n (cc_day F v h), cV_n c.1.1 e1]
      exact fin
    | some u =>
      rw [hv] at et
      have et : tdy H b v told f = dy u := et
      have cu := cs_lt u
      rw [et] at e1
      rw [show oN (Option.map cs (some u)) = nI (cs u) from rfl, if_pos (nI_pos' (by omega)), bd_n (cc_day F u h), cV_n c.1.1 e1]
      exact fin
theorem lk_f0 {H : HM} (h0 : hm_f H = 0) (b t d : Nat) : ∀ n v, lk H b t d n v = 1 := by
  have e : ∀ v, dse H v t d = true := fun v => by unfold dse; rw [h0]; rfl
  intro n
  induction n with
  | zero => intro v; show b2 (dse H v t d) = 1; rw [e]; rfl
  | succ n ih => intro v; unfold lk; rw [if_pos h0]; exact ih _
theorem cc_dgo (F : Nat) (hF : 100 ≤ F) {q j a : Nat} {H : HM} {b t : Nat} : ∀ n D (h : Hp) (v Al : Nat) (Hi : Nat → Nat), n < D → n < 100 → STok H v → DW h q j a H b t Al Hi → ∃ h', f_grp_X0_go F D 0 q (nI (cs v)) (nI n) h = some ((), h') ∧ F2 q j h h' ∧ DW h' q j a H b t (Al + whl H n) (fun d => Hi d + lk2 H b t n v d) := by
  have leaf : ∀ (h : Hp) (v Al : Nat) (Hi : Nat → Nat) (Rc : Nat → Nat → Int32 → Int32 → Hp → Option (Unit × Hp)), STok H v → DW h q j a H b t Al Hi → ∃ h', f_X0_go_14 F Rc q (nI (cs v)) h = some ((), h') ∧ F2 q j h h' ∧ DW h' q j a H b t (Al + 1) (fun d => Hi d + lk2 H b t 0 v d) := fun h v Al Hi Rc ok c => by
    unfold f_X0_go_14
    obtain ⟨h1, e1, f1, c1⟩ := cc_tally F hF (v := v) c
    rw [gR_n c.1.1 c.1.2.2, gI_n c.1.1, c.2.2.2.1.2.2, cV_n c.2.2.1.1.t (cc_doneBy F c.2.2.1.1 ok c.2.2.1.2.2.1), cV_n c.1.1 e1]
    exact ⟨h1, rfl, f1, c1⟩
  intro n
  induction n with
  | zero =>
    intro D h v Al Hi hD h100 ok c
    obtain ⟨D, rfl⟩ : ∃ j, D = j + 1 := ⟨D - 1, by omega⟩
    show ∃ h', f_X0_go_w F (f_grp_X0_go F D) q (nI (cs v)) (nI 0) h = _ ∧ _
    unfold f_X0_go_w
    rw [if_pos (show nI 0 ≤ 0 by decide)]
    obtain ⟨h1, e1, f1, c1⟩ := leaf h v Al Hi (f_grp_X0_go F D) ok c
    refine ⟨h1, e1, f1, c1.cg ?_ (fun d _ => rfl)⟩
    unfold whl
    split <;> rfl
  | succ n ih =>
    intro D h v Al Hi hD h100 ok c
    obtain ⟨D, rfl⟩ : ∃ j, D = j + 1 := ⟨D - 1, by omega⟩
    obtain ⟨F1, hF1⟩ : ∃ j, F = j + 3 := ⟨F - 3, by omega⟩
    have h4 := c.2.2.1.1.f4
    show ∃ h', f_X0_go_w F (f_grp_X0_go F D) q (nI (cs v)) (nI (n + 1)) h = _ ∧ _
    unfold f_X0_go_w
    rw [if_neg (nI_nle (by omega) (by omega)), gR_n c.1.1 c.1.2.2, c.2.2.1.1.fs]
    by_cases z : hm_f H = 0
    · rw [if_pos (show nI (hm_f H) = 0 by rw [z]; rfl)]
      obtain ⟨h1, e1, f1, c1⟩ := leaf h v Al Hi (f_grp_X0_go F D) ok c
      refine ⟨h1, e1, f1, c1.cg ?_ (fun d _ => ?_)⟩
      · unfold whl; rw [if_pos z]
      · unfold lk2
        rw [lk_f0 z, lk_f0 z]
    · rw [if_neg (nI_ne0 (by omega) (by omega)), congrArg (f_X0_go_33 F (f_grp_X0_go F D)) hF1]
      have hR : ∀ (h : Hp) (v Al : Nat) (Hi : Nat → Nat), STok H v → DW h q j a H b t Al Hi → ∃ h', f_grp_X0_go F D 0 q (nI (cs v)) (nI n) h = some ((), h') ∧ F2 q j h h' ∧ DW h' q j a H b t (Al + whl H n) (fun d => Hi d + lk2 H b t n v d) := fun h v Al Hi o cc => ih D h v Al Hi (by omega) (by omega) o cc
      show ∃ h', f_X0_go_33_b F (f_grp_X0_go F D) (f_X0_go_33 F (f_grp_X0_go F D) (F1 + 2)) q (nI (cs v)) (nI (n + 1)) (nI 0) h = _ ∧ _
      unfold f_X0_go_33_b
      obtain ⟨h1, e1, f1, c1⟩ := cc_dr41 F (told := 0) ok (by decide) (f_grp_X0_go F D) hR (f_X0_go_33 F (f_grp_X0_go F D) (F1 + 2)) (hm_f H) 0 F h Al Hi (by omega) (by omega) c
      rw [if_neg (show ¬ (2 : Int32) ≤ nI 0 by decide), show f_X0_go_41 F (f_grp_X0_go F D) (f_X0_go_33 F (f_grp_X0_go F D) (F1 + 2)) F q (nI (cs v)) (nI (n + 1)) (nI 0) 0 h = _ from e1]
      show ∃ h', f_X0_go_33_b F (f_grp_X0_go F D) (f_X0_go_33 F (f_grp_X0_go F D) (F1 + 1)) q (nI (cs v)) (nI (n + 1)) (nI 1) h1 = _ ∧ _
      unfold f_X0_go_33_b
      obtain ⟨h2, e2, f2, c2⟩ := cc_dr41 F (told := 1) ok (by decide) (f_grp_X0_go F D) hR (f_X0_go_33 F (f_grp_X0_go F D) (F1 + 1)) (hm_f H) 0 F h1 _ _ (by omega) (by omega) c1
      rw [if_neg (show ¬ (2 : Int32) ≤ nI 1 by decide), show f_X0_go_41 F (f_grp_X0_go F D) (f_X0_go_33 F (f_grp_X0_go F D) (F1 + 1)) F q (nI (cs v)) (nI (n + 1)) (nI 1) 0 h1 = _ from e2]
      show ∃ h', f_X0_go_33_b F (f_grp_X0_go F D) (f_X0_go_33 F (f_grp_X0_go F D) F1) q (nI (cs v)) (nI (n + 1)) (nI 2) h2 = _ ∧ _
      unfold f_X0_go_33_b
      rw [if_pos (show (2 : Int32) ≤ nI 2 by decide)]
      refine ⟨h2, rfl, f1.tr f2, c2.cg ?_ (fun d _ => ?_)⟩
      · unfold whl
        rw [if_neg z, if_neg z, Nat.pow_succ, Nat.mul_comm ((2 * hm_f H) ^ n), Nat.mul_assoc 2, Nat.two_mul]
        omega
      · show Hi d + sfr (fun f => lk2 H b t n (tdy H b v 0 f) d) 0 (hm_f H) + sfr (fun f => lk2 H b t n (tdy H b v 1 f) d) 0 (hm_f H) = Hi d + lk2 H b t (n + 1) v d
        unfold lk2
        by_cases y : d < hm_d H
        · rw [if_pos y, lk, if_neg z]
          show _ = Hi d + (sfr (fun f => lk H b t d n (tdy H b v 0 f)) 0 (hm_f H) + (sfr (fun f => lk H b t d n (tdy H b v 1 f)) 0 (hm_f H) + 0))
          rw [sfr_cg (g := fun f => lk H b t d n (tdy H b v 0 f)) _ _ (fun f _ _ => if_pos y), sfr_cg (f := fun f => if d < hm_d H then lk H b t d n (tdy H b v 1 f) else 0) (g := fun f => lk H b t d n (tdy H b v 1 f)) _ _ (fun f _ _ => if_pos y)]
          omega
        · rw [if_neg y, sfr_0 _ _ (fun f _ _ => if_neg y), sfr_0 _ _ (fun f _ _ => if_neg y)]
