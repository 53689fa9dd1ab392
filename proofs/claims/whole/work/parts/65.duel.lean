/-! L3, the class: what a friend can force -/
theorem bt_2 : ∀ i, i < 32 → bt 2 i = decide (i = 1) := by decide +kernel
theorem two_b (x : Int32) {n : Nat} (hn : n + 1 < 32) : (x >>> (nI n &&& 31)) &&& 3 = nI ((if bt x n = true then 1 else 0) + (if bt x (n + 1) = true then 2 else 0)) := by
  have key : ∀ i, i < 32 → bt ((x >>> (nI n &&& 31)) &&& 3) i = if i = 0 then bt x n else if i = 1 then bt x (n + 1) else false := fun i hi => by
    rw [b_and, bt_3 i hi, b_sshr n (by omega) _ hi]
    by_cases z : i = 0
    · rw [if_pos z, z, if_pos (by omega), Nat.add_zero, decide_eq_true (by decide), Bool.and_true]
    · rw [if_neg z]
      by_cases z1 : i = 1
      · rw [if_pos z1, z1, if_pos (by omega), decide_eq_true (by decide), Bool.and_true]
      · rw [if_neg z1, decide_eq_false (show ¬ i < 2 by omega), Bool.and_false]
  refine b_ext fun i hi => ?_
  rw [key i hi]
  cases bt x n <;> cases bt x (n + 1)
  · show (if i = 0 then false else if i = 1 then false else false) = bt 0 i
    rw [b_0]
    by_cases z : i = 0
    · rw [if_pos z]
    · rw [if_neg z]; split <;> rfl
  · show (if i = 0 then false else if i = 1 then true else false) = bt 2 i
    rw [bt_2 i hi]
    by_cases z : i = 0
    · rw [if_pos z, z]; rfl
    · rw [if_neg z]
      by_cases z1 : i = 1
      · rw [if_pos z1, z1]; rfl
      · rw [if_neg z1, decide_eq_false z1]
  · show (if i = 0 then true else if i = 1 then false else false) = bt 1 i
    rw [bt_1 i hi]
    by_cases z : i = 0
    · rw [if_pos z, z]; rfl
    · rw [if_neg z, decide_eq_false z]; split <;> rfl
  · show (if i = 0 then true else if i = 1 then true else false) = bt 3 i
    rw [bt_3 i hi]
    by_cases z : i = 0
    · rw [if_pos z, z]; rfl
    · rw [if_neg z]
      by_cases z1 : i = 1
      · rw [if_pos z1, z1]; rfl
      · rw [if_neg z1, decide_eq_false (show ¬ i < 2 by omega)]
theorem or_bit {x : Int32} {n i : Nat} (hn : n + 1 < 32) (hi : i < 32) (f : Bool) : bt (x ||| ((if f = true then (2 : Int32) else 1) <<< (nI n &&& 31))) i = (bt x i || decide (i = n + b2 f)) := by
  rw [b_or, b_shl n (by omega) _ hi]
  congr 1
  cases f with
  | false =>
    show (decide (n ≤ i) && bt 1 (i - n)) = decide (i = n + 0)
    rw [bt_1 _ (by omega)]
    by_cases z : i = n
    · rw [z]; simp
    · rw [decide_eq_false (show ¬ i = n + 0 by omega)]
      by_cases y : n ≤ i
      · rw [decide_eq_false (show ¬ i - n = 0 by omega), Bool.and_false]
      · rw [decide_eq_false y, Bool.false_and]
  | true =>
    show (decide (n ≤ i) && bt 2 (i - n)) = decide (i = n + 1)
    rw [bt_2 _ (by omega)]
    by_cases z : i = n + 1
    · rw [z]; simp
    · rw [decide_eq_false z]
      by_cases y : n ≤ i
      · rw [decide_eq_false (show ¬ i - n = 1 by omega), Bool.and_false]
      · rw [decide_eq_false y, Bool.false_and]
noncomputable def fb (H : HM) (b t d l : Nat) (w : Bool) (v : Nat) : Bool := @decide (frc H b t d l w v) (Classical.propDecidable _)
theorem fb_e {H : HM} {b t d l : Nat} {w : Bool} {v : Nat} : fb H b t d l w v = true ↔ frc H b t d l w v := @decide_eq_true_iff _ (Classical.propDecidable _)
theorem fb_f {H : HM} {b t d l : Nat} {w : Bool} {v : Nat} : fb H b t d l w v = false ↔ ¬ frc H b t d l w v := by
  rw [← fb_e]
  cases fb H b t d l w v <;> simp
/-- some move leads to where it is w -/
def hm (H : HM) (b t d l : Nat) (w : Bool) (v : Nat) : Prop := ∃ k u, k < 9 ∧ mv H b v k = some u ∧ fb H b t d l (!w) u = w
noncomputable def hmb (H : HM) (b t d l : Nat) (w : Bool) (v : Nat) : Bool := @decide (hm H b t d l w v) (Classical.propDecidable _)
theorem hmb_e {H : HM} {b t d l : Nat} {w : Bool} {v : Nat} : hmb H b t d l w v = true ↔ hm H b t d l w v := @decide_eq_true_iff _ (Classical.propDecidable _)
theorem fb_s {H : HM} {b t d l : Nat} {w : Bool} {v : Nat} (h0 : dse H v t d = false) : fb H b t d (l + 1) w v = decide (hmb H b t d l w v = w) := by
  cases w with
  | true =>
    have : fb H b t d (l + 1) true v = true ↔ hmb H b t d l true v = true := by
      rw [fb_e, hmb_e]
      constructor
      · rintro (h | ⟨k, u, h1, h2, h3⟩)
        · rw [h0] at h; exact absurd h (by decide)
        · exact ⟨k, u, h1, h2, fb_e.mpr h3⟩
      · rintro ⟨k, u, h1, h2, h3⟩; exact Or.inr ⟨k, u, h1, h2, fb_e.mp h3⟩
    cases z : hmb H b t d l true v with
    | true => rw [this.mpr z]; rfl
    | false =>
      cases y : fb H b t d (l + 1) true v with
      | false => rfl
      | true => rw [this.mp y] at z; exact absurd z (by decide)
  | false =>
    have : fb H b t d (l + 1) false v = true ↔ ¬ hmb H b t d l false v = true := by
      rw [fb_e, hmb_e]
      constructor
      · rintro (h | h) ⟨k, u, h1, h2, h3⟩
        · rw [h0] at h; exact absurd h (by decide)
        · exact fb_f.mp h3 (h k u h1 h2)
      · intro h
        refine Or.inr fun k u h1 h2 => ?_
        cases y : fb H b t d l true u with
        | true => exact fb_e.mp y
        | false => exact absurd ⟨k, u, h1, h2, y⟩ h
    cases z : hmb H b t d l false v with
    | false => rw [this.mpr (by rw [z]; decide)]; rfl
    | true =>
      cases y : fb H b t d (l + 1) false v with
      | false => rfl
      | true => exact absurd z (this.mp y)
def shf (l : Nat) (w : Bool) : Nat := 2 * l + (if w = true then 12 else 0)
def MJg (A : Nat → Int32) (H : HM) (b t d : Nat) : Prop := ∀ v l w, STok H v → l < 6 → (bt (A (cs v)) (shf l w) = true → ¬ frc H b t d (l + 1) w v) ∧ (bt (A (cs v)) (shf l w + 1) = true → frc H b t d (l + 1) w v)
def DK (h : Hp) (q J L a : Nat) (H : HM) (b t d : Nat) : Prop := (hp_t h q = 2 ∧ hp_R h q 0 = some J ∧ hp_R h q 1 = some a) ∧ (hp_t h J = 20 ∧ hp_l h J = L ∧ L ≤ 65536) ∧ (HC h a H ∧ b < 10 ∧ 16 ^ hm_f H ≤ L ∧ ∀ k, k < 6 → a + k ≠ J) ∧ (hp_I h q 2 = nI b ∧ hp_I h q 3 = nI t ∧ hp_I h q 4 = nI d ∧ t < 2 ∧ d < hm_d H) ∧ MJg (hp_I h J) H b t d
theorem DK.qJ {h : Hp} {q J L a : Nat} {H : HM} {b t d : Nat} (c : DK h q J L a H b t d) : q ≠ J := fun e => by
  have := c.1.1
  rw [e, c.2.1.1] at this
  exact absurd this (by decide)
theorem DK.fq {h h' : Hp} {q J L a : Nat} {H : HM} {b t d : Nat} (c : DK h q J L a H b t d) (f : FQ J h h') (m : MJg (hp_I h' J) H b t d) : DK h' q J L a H b t d := by
  have qJ := c.qJ
  obtain ⟨⟨a1, a2, a3⟩, ⟨b1, b2, b3⟩, ⟨c1, c2, c3, c4⟩, d1, -⟩ := c
  refine ⟨⟨by rw [f.1.1]; exact a1, by rw [f.1.2.2.1]; exact a2, by rw [f.1.2.2.1]; exact a3⟩, ⟨by rw [f.1.1]; exact b1, by rw [f.1.2.1]; exact b2, b3⟩, ⟨c1.cg (fun k _ => by rw [f.1.1, f.1.2.1]; exact ⟨rfl, rfl⟩) (by rw [f.1.2.2.1]) (fun k hk => f.2.2 _ (c4 k hk)), c2, c3, c4⟩, by rw [f.2.2 q qJ]; exact d1, m⟩
theorem shf_i {l l' : Nat} {w w' : Bool} (h : l < 6) (h' : l' < 6) (e : shf l w = shf l' w') : l = l' ∧ w = w' := by
  unfold shf at e
  cases w <;> cases w' <;> simp at e
  · exact ⟨by omega, rfl⟩
  · omega
  · omega
  · exact ⟨by omega, rfl⟩
theorem shf_p (l : Nat) (w : Bool) : shf l w % 2 = 0 := by
  unfold shf
  cases w <;> simp <;> omega
theorem shf_lt {l : Nat} (w : Bool) (h : l < 6) : shf l w + 1 < 32 := by
  unfold shf
  cases w <;> simp <;> omega
/-- a judgement is written down -/
theorem MJg.put {A : Nat → Int32} {H : HM} {b t d : Nat} (m : MJg A H b t d) {v l : Nat} {w : Bool} (ok : STok H v) (hl : l < 6) : MJg (fun j => if j = cs v then A (cs v) ||| ((if fb H b t d (l + 1) w v = true then (2 : Int32) else 1) <<< (nI (shf l w) &&& 31)) else A j) H b t d := by
  intro v' l' w' ok' hl'
  dsimp only
  by_cases e : cs v' = cs v
  · have ev : v' = v := cs_inj ok'.1 ok.1 e
    subst ev
    have s1 := shf_lt w hl
    have s2 := shf_lt w' hl'
    have p1 := shf_p l w
    have p2 := shf_p l' w'
    rw [if_pos rfl, or_bit s1 (by omega), or_bit s1 (by omega), Bool.or_eq_true, Bool.or_eq_true, decide_eq_true_iff, decide_eq_true_iff]
    have old := m v' l' w' ok hl'
    refine ⟨fun z => ?_, fun z => ?_⟩
    · rcases z with z | z
      · exact old.1 z
      · cases hf : fb H b t d (l + 1) w v' with
        | true => rw [hf] at z; have z : shf l' w' = shf l w + 1 := z; omega
        | false =>
          rw [hf] at z
          have z : shf l' w' = shf l w := z
          obtain ⟨rfl, rfl⟩ := shf_i hl' hl z
          exact fb_f.mp hf
    · rcases z with z | z
      · exact old.2 z
      · cases hf : fb H b t d (l + 1) w v' with
        | true =>
          rw [hf] at z
          have z : shf l' w' + 1 = shf l w + 1 := z
          obtain ⟨rfl, rfl⟩ := shf_i (w := w') (w' := w) hl' hl (by omega)
          exact fb_e.mp hf
        | false => rw [hf] at z; have z : shf l' w' + 1 = shf l w := z; omega
  · rw [if_neg e]; exact m v' l' w' ok' hl'
theorem b2_e (w : Bool) : (nI (b2 w) = 0) ↔ w = false := by cases w <;> decide
theorem b2_i (w w' : Bool) : (nI (b2 w) = nI (b2 w')) ↔ w = w' := by cases w <;> cases w' <;> decide
section hms
variable {q J L a : Nat} {H : HM} {b t d l D : Nat}
theorem cc_has12 (F : Nat) {v : Nat} {w : Bool} {told : Nat} (ok : STok H v) (ht : told < 2) (Rc : Nat → Nat → Int32 → Int32 → Int32 → Hp → Option (Int32 × Hp)) (hR : ∀ (h : Hp) (v : Nat) (w : Bool), STok H v → DK h q J L a H b t d → ∃ h', Rc 1 q (nI (cs v)) (nI l) (nI (b2 w)) h = some (nI (b2 (fb H b t d l w v)), h') ∧ FQ J h h' ∧ DK h' q J L a H b t d) (K3 : Nat → Int32 → Int32 → Int32 → Int32 → Hp → Option (Int32 × Hp)) : ∀ r f n (h : Hp), f + r = hm_f H → r < n → DK h q J L a H b t d → (∃ h', f_X1_hasMoveTo_12 F Rc K3 n q (nI (b2 w)) (nI (cs v)) (nI (l + 1)) (nI told) (nI f) h = some (1, h') ∧ FQ J h h' ∧ DK h' q J L a H b t d ∧ hm H b t d l w v) ∨ ∃ h', f_X1_hasMoveTo_12 F Rc K3 n q (nI (b2 w)) (nI (cs v)) (nI (l + 1)) (nI told) (nI f) h = K3 q (nI (b2 w)) (nI (cs v)) (nI (l + 1)) (nI (told + 1)) h' ∧ FQ J h h' ∧ DK h' q J L a H b t d ∧ ∀ k u, 4 * told + f ≤ k → k < 4 * told + 4 → mv H b v k = some u → fb H b t d l (!w) u ≠ w := by
  intro r
  induction r with
  | zero =>
    intro f n h hf hn c
    obtain ⟨n, rfl⟩ : ∃ j, n = j + 1 := ⟨n - 1, by omega⟩
    have h4 := c.2.2.1.1.f4
    right
    refine ⟨h, ?_, FQ.rf _ _, c, fun k u k1 k2 k3 => ?_⟩
    · show f_X1_hasMoveTo_12_b F Rc K3 (f_X1_hasMoveTo_12 F Rc K3 n) _ _ _ _ _ _ h = _
      unfold f_X1_hasMoveTo_12_b
      rw [gR_n c.1.1 c.1.2.2, c.2.2.1.1.fs, if_pos (nI_le (by omega) (by omega)), nI_1]
    · have := mv_n (H := H) (b := b) (v := v) ht (show k - 4 * told < 4 by omega) (by omega)
      rw [show 4 * told + (k - 4 * told) = k by omega, k3] at this
      cases this
  | succ r ih =>
    intro f n h hf hn c
    obtain ⟨n, rfl⟩ : ∃ j, n = j + 1 := ⟨n - 1, by omega⟩
    have h4 := c.2.2.1.1.f4
    have hfl : f < hm_f H := by omega
    have em := mv_t (b := b) (v := v) ht h4 hfl
    show (∃ h', f_X1_hasMoveTo_12_b F Rc K3 (f_X1_hasMoveTo_12 F Rc K3 n) _ _ _ _ _ _ h = _ ∧ _) ∨ ∃ h', f_X1_hasMoveTo_12_b F Rc K3 (f_X1_hasMoveTo_12 F Rc K3 n) _ _ _ _ _ _ h = _ ∧ _
    unfold f_X1_hasMoveTo_12_b f_X1_hasMoveTo_62 f_X1_hasMoveTo_71
    rw [gR_n c.1.1 c.1.2.2, c.2.2.1.1.fs, if_neg (nI_ge (by omega) (by omega)), gR_n c.1.1 c.1.2.2, gI_n c.1.1, c.2.2.2.1.1, cV_n c.2.2.1.1.t (cc_afterTelling F c.2.2.1.1 ok c.2.2.1.2.1 ht hfl), nI_1]
    cases hv : tld H b v told f with
    | none =>
      rw [show oN (Option.map cs none) = -1 from rfl, if_pos (by decide)]
      rcases ih (f + 1) n h (by omega) (by omega) c with z | ⟨h', e, f1, c1, no⟩
      · exact Or.inl z
      · right
        refine ⟨h', e, f1, c1, fun k u k1 k2 k3 => ?_⟩
        by_cases y : k = 4 * told + f
        · rw [y, em, hv] at k3; cases k3
        · exact no k u (by omega) k2 k3
    | some u =>
      have hv : mv H b v (4 * told + f) = some u := em.trans hv
      have oku := (mv_ok c.2.2.1.1.2.1 ok (by omega) hv).1
      have cu := cs_lt u
      obtain ⟨h1, e1, f1, c1⟩ := hR h u (!w) oku c
      have key : ∀ X : Int32, X = nI (b2 (!w)) → (cV 2 h q (Rc 1 q (nI (cs u)) (nI (l + 1) - 1) X h) fun v17 h18 => if v17 = nI (b2 w) then some ((1 : Int32), h18) else f_X1_hasMoveTo_12 F Rc K3 n q (nI (b2 w)) (nI (cs v)) (nI (l + 1)) (nI told) (nI (f + 1)) h18) = (if fb H b t d l (!w) u = w then some (1, h1) else f_X1_hasMoveTo_12 F Rc K3 n q (nI (b2 w)) (nI (cs v)) (nI (l + 1)) (nI told) (nI (f + 1)) h1) := fun X hX => by
        rw [hX, show nI (l + 1) - 1 = nI l from pk_sub (a := l + 1) (b := 1) (by omega), cV_n c.1.1 e1]
        by_cases y : fb H b t d l (!w) u = w
        · rw [if_pos y, if_pos ((b2_i _ _).mpr y)]
        · rw [if_neg y, if_neg (fun e => y ((b2_i _ _).mp e))]
      have fin : (∃ h', (if fb H b t d l (!w) u = w then some ((1 : Int32), h1) else f_X1_hasMoveTo_12 F Rc K3 n q (nI (b2 w)) (nI (cs v)) (nI (l + 1)) (nI told) (nI (f + 1)) h1) = some (1, h') ∧ FQ J h h' ∧ DK h' q J L a H b t d ∧ hm H b t d l w v) ∨ ∃ h', (if fb H b t d l (!w) u = w then some ((1 : Int32), h1) else f_X1_hasMoveTo_12 F Rc K3 n q (nI (b2 w)) (nI (cs v)) (nI (l + 1)) (nI told) (nI (f + 1)) h1) = K3 q (nI (b2 w)) (nI (cs v)) (nI (l + 1)) (nI (told + 1)) h' ∧ FQ J h h' ∧ DK h' q J L a H b t d ∧ ∀ k u, 4 * told + f ≤ k → k < 4 * told + 4 → mv H b v k = some u → fb H b t d l (!w) u ≠ w := by
        by_cases y : fb H b t d l (!w) u = w
        · left
          rw [if_pos y]
          exact ⟨h1, rfl, f1, c1, 4 * told + f, u, by omega, hv, y⟩
        · rw [if_neg y]
          rcases ih (f + 1) n h1 (by omega) (by omega) c1 with ⟨h', e, f2, c2, z⟩ | ⟨h', e, f2, c2, no⟩
          · exact Or.inl ⟨h', e, f1.tr f2, c2, z⟩
          · right
            refine ⟨h', e, f1.tr f2, c2, fun k u' k1 k2 k3 => ?_⟩
            by_cases y2 : k = 4 * told + f
            · rw [y2, hv] at k3
              rw [← Option.some.inj k3]; exact y
            · exact no k u' (by omega) k2 k3
      rw [show oN (Option.map cs (some u)) = nI (cs u) from rfl, if_neg (nI_pos (by omega))]
      cases w with
      | false => rw [if_pos (show nI (b2 false) = 0 by decide), key 1 rfl]; exact fin
      | true => rw [if_neg (show ¬ nI (b2 true) = 0 by decide), key 0 rfl]; exact fin
theorem cc_has (F : Nat) (hF : 100 ≤ F) {h : Hp} {v : Nat} {w : Bool} (ok : STok H v) (Rc : Nat → Nat → Int32 → Int32 → Int32 → Hp → Option (Int32 × Hp)) (hR : ∀ (h : Hp) (v : Nat) (w : Bool), STok H v → DK h q J L a H b t d → ∃ h', Rc 1 q (nI (cs v)) (nI l) (nI (b2 w)) h = some (nI (b2 (fb H b t d l w v)), h') ∧ FQ J h h' ∧ DK h' q J L a H b t d) (c : DK h q J L a H b t d) : ∃ h', f_X1_hasMoveTo_w F Rc q (nI (b2 w)) (nI (cs v)) (nI (l + 1)) h = some (nI (b2 (hmb H b t d l w v)), h') ∧ FQ J h h' ∧ DK h' q J L a H b t d := by
  obtain ⟨F1, hF1⟩ : ∃ j, F = j + 3 := ⟨F - 3, by omega⟩
  have h4 := c.2.2.1.1.f4
  have yes : hm H b t d l w v → (1 : Int32) = nI (b2 (hmb H b t d l w v)) := fun z => by rw [hmb_e.mpr z]; rfl
  unfold f_X1_hasMoveTo_w
  rw [congrArg (f_X1_hasMoveTo_3 F Rc) hF1]
  show ∃ h', f_X1_hasMoveTo_3_b F Rc (f_X1_hasMoveTo_3 F Rc (F1 + 2)) q (nI (b2 w)) (nI (cs v)) (nI (l + 1)) (nI 0) h = _ ∧ _
  unfold f_X1_hasMoveTo_3_b
  rw [if_neg (show ¬ (2 : Int32) ≤ nI 0 by decide)]
  rcases cc_has12 F (told := 0) ok (by decide) Rc hR (f_X1_hasMoveTo_3 F Rc (F1 + 2)) (w := w) (hm_f H) 0 F h (by omega) (by omega) c with ⟨h1, e1, f1, c1, z1⟩ | ⟨h1, e1, f1, c1, n1⟩
  · rw [show f_X1_hasMoveTo_12 F Rc (f_X1_hasMoveTo_3 F Rc (F1 + 2)) F q (nI (b2 w)) (nI (cs v)) (nI (l + 1)) (nI 0) 0 h = _ from e1, yes z1]
    exact ⟨h1, rfl, f1, c1⟩
  · rw [show f_X1_hasMoveTo_12 F Rc (f_X1_hasMoveTo_3 F Rc (F1 + 2)) F q (nI (b2 w)) (nI (cs v)) (nI (l + 1)) (nI 0) 0 h = _ from e1]
    show ∃ h', f_X1_hasMoveTo_3_b F Rc (f_X1_hasMoveTo_3 F Rc (F1 + 1)) q (nI (b2 w)) (nI (cs v)) (nI (l + 1)) (nI 1) h1 = _ ∧ _
    unfold f_X1_hasMoveTo_3_b
    rw [if_neg (show ¬ (2 : Int32) ≤ nI 1 by decide)]
    rcases cc_has12 F (told := 1) ok (by decide) Rc hR (f_X1_hasMoveTo_3 F Rc (F1 + 1)) (w := w) (hm_f H) 0 F h1 (by omega) (by omega) c1 with ⟨h2, e2, f2, c2, z2⟩ | ⟨h2, e2, f2, c2, n2⟩
    · rw [show f_X1_hasMoveTo_12 F Rc (f_X1_hasMoveTo_3 F Rc (F1 + 1)) F q (nI (b2 w)) (nI (cs v)) (nI (l + 1)) (nI 1) 0 h1 = _ from e2, yes z2]
      exact ⟨h2, rfl, f1.tr f2, c2⟩
    · rw [show f_X1_hasMoveTo_12 F Rc (f_X1_hasMoveTo_3 F Rc (F1 + 1)) F q (nI (b2 w)) (nI (cs v)) (nI (l + 1)) (nI 1) 0 h1 = _ from e2]
      show ∃ h', f_X1_hasMoveTo_3_b F Rc (f_X1_hasMoveTo_3 F Rc F1) q (nI (b2 w)) (nI (cs v)) (nI (l + 1)) (nI 2) h2 = _ ∧ _
      unfold f_X1_hasMoveTo_3_b f_X1_hasMoveTo_100
      rw [if_pos (show (2 : Int32) ≤ nI 2 by decide), bd_n (cc_day F v h2)]
      obtain ⟨h3, e3, f3, c3⟩ := hR h2 (dy v) (!w) ok.dy c2
      have hd : mv H b v 8 = some (dy v) := rfl
      have eq : (if fb H b t d l (!w) (dy v) = w then (1 : Int32) else 0) = nI (b2 (hmb H b t d l w v)) := by
        by_cases y : fb H b t d l (!w) (dy v) = w
        · rw [if_pos y]; exact yes ⟨8, dy v, by decide, hd, y⟩
        · rw [if_neg y]
          cases z : hmb H b t d l w v with
          | false => rfl
          | true =>
            obtain ⟨k, u, k1, k2, k3⟩ := hmb_e.mp z
            rcases (show k < 4 ∨ (4 ≤ k ∧ k < 8) ∨ k = 8 by omega) with r | r | r
            · exact absurd k3 (n1 k u (by omega) (by omega) k2)
            · exact absurd k3 (n2 k u (by omega) (by omega) k2)
            · rw [r, hd] at k2
              rw [← Option.some.inj k2] at k3
              exact absurd k3 y
      have key : ∀ X : Int32, X = nI (b2 (!w)) → (cV 2 h2 q (Rc 1 q (nI (cs (dy v))) (nI (l + 1) - 1) X h2) fun v5 h6 => if v5 = nI (b2 w) then some ((1 : Int32), h6) else some (0, h6)) = some (nI (b2 (hmb H b t d l w v)), h3) := fun X hX => by
        rw [hX, show nI (l + 1) - 1 = nI l from pk_sub (a := l + 1) (b := 1) (by omega), cV_n c2.1.1 e3, ← eq]
        by_cases y : fb H b t d l (!w) (dy v) = w
        · rw [if_pos y, if_pos ((b2_i _ _).mpr y)]
        · rw [if_neg y, if_neg (fun e => y ((b2_i _ _).mp e))]
      have fin : ∃ h', some (nI (b2 (hmb H b t d l w v)), h3) = some (nI (b2 (hmb H b t d l w v)), h') ∧ FQ J h h' ∧ DK h' q J L a H b t d := ⟨h3, rfl, (f1.tr f2).tr f3, c3⟩
      cases w with
      | false => rw [if_pos (show nI (b2 false) = 0 by decide), key 1 rfl]; exact fin
      | true => rw [if_neg (show ¬ nI (b2 true) = 0 by decide), key 0 rfl]; exact fin
end hms
theorem dse_frc {H : HM} {b t d l v : Nat} {w : Bool} (h : dse H v t d = true) : frc H b t d l w v := by
  cases l with
  | zero => exact h
  | succ l => cases w <;> exact Or.inl h
theorem frc_0 {H : HM} {b t d v : Nat} {w : Bool} : frc H b t d 0 w v ↔ dse H v t d = true := by cases w <;> exact Iff.rfl
theorem cc_forced (F : Nat) (hF : 100 ≤ F) {q J L a : Nat} {H : HM} {b t d : Nat} : ∀ l D (h : Hp) (v : Nat) (w : Bool), l ≤ 6 → 2 * l + 1 ≤ D → STok H v → DK h q J L a H b t d → ∃ h', f_grp_X1_hasMoveTo F D 1 q (nI (cs v)) (nI l) (nI (b2 w)) h = some (nI (b2 (fb H b t d l w v)), h') ∧ FQ J h h' ∧ DK h' q J L a H b t d := by
  intro l
  induction l with
  | zero =>
    intro D h v w hl hD ok c
    obtain ⟨D, rfl⟩ : ∃ j, D = j + 1 := ⟨D - 1, by omega⟩
    have hr := cs_room ok c.2.2.1.1.f4
    have L16 := c.2.1.2.2
    have hLL := c.2.2.1.2.2.1
    have d6 := c.2.2.1.1.d6
    have hd := c.2.2.2.1.2.2.2.2
    have dl := dsa_lt c.2.2.1.1.2.1 v t
    show ∃ h', f_X1_isForced_w F (f_grp_X1_hasMoveTo F D) q (nI (cs v)) (nI 0) (nI (b2 w)) h = _ ∧ _
    unfold f_X1_isForced_w
    rw [if_neg (nI_pos (by omega)), gR_n c.1.1 c.1.2.1, al_n c.2.1.1 c.2.1.2.1, if_pos (nI_lt (by omega) (by omega)), gR_n c.1.1 c.1.2.2, gI_n c.1.1, c.2.2.2.1.2.1, cV_n c.2.2.1.1.t (cc_doneBy F c.2.2.1.1 ok c.2.2.2.1.2.2.2.1), gI_n c.1.1, c.2.2.2.1.2.2.1, tb_and (by omega) (by omega), dse_tb hd]
    refine ⟨h, ?_, FQ.rf _ _, c⟩
    cases hz : dse H v t d with
    | true => rw [if_neg (show ¬ nI (b1 (true = true)) = 0 by decide), fb_e.mpr (dse_frc hz)]; rfl
    | false => rw [if_pos (show nI (b1 (false = true)) = 0 by decide), if_pos (show nI 0 ≤ 0 by decide), fb_f.mpr (fun z => by rw [frc_0.mp z] at hz; exact absurd hz (by decide))]; rfl
  | succ l ih =>
    intro D h v w hl hD ok c
    obtain ⟨D, rfl⟩ : ∃ j, D = j + 2 := ⟨D - 2, by omega⟩
    have hr := cs_room ok c.2.2.1.1.f4
    have L16 := c.2.1.2.2
    have hLL := c.2.2.1.2.2.1
    have d6 := c.2.2.1.1.d6
    have hd := c.2.2.2.1.2.2.2.2
    have dl := dsa_lt c.2.2.1.1.2.1 v t
    have s1 := shf_lt w (show l < 6 by omega)
    show ∃ h', f_X1_isForced_w F (f_grp_X1_hasMoveTo F (D + 1)) q (nI (cs v)) (nI (l + 1)) (nI (b2 w)) h = _ ∧ _
    unfold f_X1_isForced_w
    rw [if_neg (nI_pos (by omega)), gR_n c.1.1 c.1.2.1, al_n c.2.1.1 c.2.1.2.1, if_pos (nI_lt (by omega) (by omega)), gR_n c.1.1 c.1.2.2, gI_n c.1.1, c.2.2.2.1.2.1, cV_n c.2.2.1.1.t (cc_doneBy F c.2.2.1.1 ok c.2.2.2.1.2.2.2.1), gI_n c.1.1, c.2.2.2.1.2.2.1, tb_and (by omega) (by omega), dse_tb hd]
    cases hz : dse H v t d with
    | true =>
      rw [if_neg (show ¬ nI (b1 (true = true)) = 0 by decide), fb_e.mpr (dse_frc hz)]
      exact ⟨h, rfl, FQ.rf _ _, c⟩
    | false =>
      rw [if_pos (show nI (b1 (false = true)) = 0 by decide), if_neg (nI_nle (by omega) (by omega)), if_pos (show nI (l + 1) ≤ 6 from nI_le (b := 6) (by omega) (by decide)), show nI (l + 1) - 1 = nI l from pk_sub (a := l + 1) (b := 1) (by omega), two_k]
      have main : ∀ X : Int32, nI (2 * l) + X = nI (shf l w) → ∃ h', f_X1_isForced_66 F (f_grp_X1_hasMoveTo F (D + 1)) q (nI (cs v)) (nI (l + 1)) (nI (b2 w)) X (nI (2 * l)) h = some (nI (b2 (fb H b t d (l + 1) w v)), h') ∧ FQ J h h' ∧ DK h' q J L a H b t d := fun X hX => by
        have mj := c.2.2.2.2 v l w ok (by omega)
        unfold f_X1_isForced_66
        rw [lt_e, hX, gR_n c.1.1 c.1.2.1, aI_n c.2.1.1 c.2.1.2.1 rfl (show cs v < L by omega) (by omega), lt_e, two_b _ s1]
        cases h0 : bt (hp_I h J (cs v)) (shf l w) with
        | true =>
          have nf := mj.1 h0
          have h1 : bt (hp_I h J (cs v)) (shf l w + 1) = false := by
            cases y : bt (hp_I h J (cs v)) (shf l w + 1) with
            | false => rfl
            | true => exact absurd (mj.2 y) nf
          rw [h1, fb_f.mpr nf]
          rw [if_neg (show ¬ nI ((if true = true then 1 else 0) + (if false = true then 2 else 0)) = 0 by decide), if_neg (show ¬ nI ((if true = true then 1 else 0) + (if false = true then 2 else 0)) = 2 by decide)]
          exact ⟨h, rfl, FQ.rf _ _, c⟩
        | false =>
          cases h1 : bt (hp_I h J (cs v)) (shf l w + 1) with
          | true =>
            rw [if_neg (show ¬ nI ((if false = true then 1 else 0) + (if true = true then 2 else 0)) = 0 by decide), if_pos (show nI ((if false = true then 1 else 0) + (if true = true then 2 else 0)) = 2 by decide), fb_e.mpr (mj.2 h1)]
            exact ⟨h, rfl, FQ.rf _ _, c⟩
          | false =>
            rw [if_pos (show nI ((if false = true then 1 else 0) + (if false = true then 2 else 0)) = 0 by decide)]
            obtain ⟨h2, e2, f2, c2⟩ := cc_has F hF (w := w) ok (f_grp_X1_hasMoveTo F D) (fun h v w o cc => ih D h v w (by omega) (by omega) o cc) c
            have e2 : f_grp_X1_hasMoveTo F (D + 1) 0 q (nI (b2 w)) (nI (cs v)) (nI (l + 1)) h = some (nI (b2 (hmb H b t d l w v)), h2) := e2
            rw [cV_n c.1.1 e2]
            have fs := fb_s (b := b) (l := l) (w := w) hz
            have put := c2.2.2.2.2.put (v := v) (l := l) (w := w) ok (by omega)
            have go : ∀ (Y : Int32) (g : Bool), fb H b t d (l + 1) w v = g → Y = (if g = true then 1 else 0) → ∃ h', f_X1_isForced_115 F (f_grp_X1_hasMoveTo F (D + 1)) q (nI (cs v)) (nI (shf l w)) Y h2 = some (nI (b2 g), h') ∧ FQ J h h' ∧ DK h' q J L a H b t d := fun Y g hg hY => by
              unfold f_X1_isForced_115 f_X1_isForced_134
              rw [gR_n c2.1.1 c2.1.2.1, aI_n c2.2.1.1 c2.2.1.2.1 rfl (show cs v < L by omega) (by omega)]
              have sI_fun : ∀ z : Int32, hp_I (hp_sI h2 J (cs v) z) J = fun j => if j = cs v then z else hp_I h2 J j := fun z => by funext j; rw [sI_at]
              rw [hg] at put
              cases g with
              | true =>
                rw [hY, if_neg (show ¬ (if true = true then (1 : Int32) else 0) = 0 by decide), wI_n c2.2.1.1 c2.2.1.2.1 rfl (show cs v < L by omega) (by omega)]
                refine ⟨_, rfl, f2.tr FQ.sI, c2.fq FQ.sI ?_⟩
                rw [sI_fun]; exact put
              | false =>
                rw [hY, if_pos (show (if false = true then (1 : Int32) else 0) = 0 by decide), wI_n c2.2.1.1 c2.2.1.2.1 rfl (show cs v < L by omega) (by omega)]
                refine ⟨_, rfl, f2.tr FQ.sI, c2.fq FQ.sI ?_⟩
                rw [sI_fun]; exact put
            by_cases y : hmb H b t d l w v = w
            · rw [if_pos ((b2_i _ _).mpr y)]
              have hg : fb H b t d (l + 1) w v = true := by rw [fs, decide_eq_true y]
              rw [hg]
              exact go 1 true hg rfl
            · rw [if_neg (fun e => y ((b2_i _ _).mp e))]
              have hg : fb H b t d (l + 1) w v = false := by rw [fs, decide_eq_false y]
              rw [hg]
              exact go 0 false hg rfl
      cases w with
      | false => rw [if_pos (show nI (b2 false) = 0 by decide)]; exact main 0 (nI_add (2 * l) 0)
      | true => rw [if_neg (show ¬ nI (b2 true) = 0 by decide)]; exact main 12 (nI_add (2 * l) 12)
