/-! L5: the beginning -/
def yhs (k : Nat) : List Opn → Bool
  | [] => false
  | .inr (.inr q) :: l => decide (q.1 = k) || yhs k l
  | .inl _ :: l => yhs k l
  | .inr (.inl _) :: l => yhs k l
theorem yin_0 {k : Nat} : ∀ {l : List Opn}, yhs k l = false → ∀ j, yin k j l = 0 := by
  intro l
  induction l with
  | nil => intro _ j; rfl
  | cons o l ih =>
    intro h j
    match o with
    | .inl q =>
      show (if k = ycn l then 0 else yin k j l) = 0
      by_cases z : k = ycn l
      · rw [if_pos z]
      · rw [if_neg z]; exact ih h j
    | .inr (.inl q) => exact ih h j
    | .inr (.inr q) =>
      have h : (decide (q.1 = k) || yhs k l) = false := h
      rw [Bool.or_eq_false_iff] at h
      have n : ¬ q.1 = k := of_decide_eq_false h.1
      show (if k = q.1 ∧ j = q.2.1 then q.2.2 else yin k j l) = 0
      rw [if_neg (fun w => n w.1.symm)]
      exact ih h.2 j
def H0m : HM := (0, 0, 0, (fun _ _ => 0), (fun _ => 0), (fun _ _ _ _ _ => none))
def S0m : Stt := ((H0m, 0, 0), (0, fun _ => (0, 0)), (fun _ => none), (0, fun _ => 0), (fun _ => none), (0, -1))
theorem H0_ok : HMok H0m := ⟨Nat.zero_le _, Nat.zero_le _, fun _ _ _ _ => (by decide : 0 < 4), fun _ _ => (by decide : 0 < 16), fun _ _ _ _ _ _ h => by injection h, (by decide : 0 < 2000)⟩
theorem H0_st : STok H0m 0 := ⟨by decide, fun t f _ _ _ => by
  unfold dg
  rw [Nat.zero_div]⟩
def own0 (j : Nat) : Nat := if 48 ≤ j then 300 else if ct j ≠ 0 then j else if 3 ≤ j ∧ j ≤ 8 then 100 else if j = 24 then 200 else if j = 25 then 201 else if j = 27 then 202 else if j = 28 then 203 else if j = 30 then 204 else if j = 32 then 205 else 600
def ow0 (x y : Nat) : Nat := if y < x then 400 else own0 (y - x)
theorem ow0_a (x j : Nat) : ow0 x (x + j) = own0 j := by
  unfold ow0
  rw [if_neg (by omega), Nat.add_sub_cancel_left]
/-- the String constants before all -/
def KSb (h : Hp) : Prop := ∀ i, i < 3 → (hp_t h (hp_k h i) = 14 ∧ hp_I h (hp_k h i) 1 = 0 ∧ hp_k h i < hp_n h) ∧ ∃ v, hp_R h (hp_k h i) 0 = some v ∧ (hp_t h v = 27 ∧ hp_l h v = sl i ∧ ∀ j, j < sl i → hp_I h v j = nI (ch i j)) ∧ v < hp_n h
theorem y_ct : ∀ k, k < 48 → ct k ≠ 0 → ytg k yLm = ct k ∧ yln k yLm = cl k := by decide +kernel
theorem y_crf : ∀ q ∈ crf, q.1 < 66 ∧ q.1 ≠ 49 ∧ yrf q.1 q.2.1 yLm = some q.2.2 := by decide +kernel
theorem y_sr : ∀ k, k < 18 → 0 < k → yrf 48 (rs_f k) yLm = some (48 + k) ∧ ytg (48 + k) yLm = rs_t k ∧ yln (48 + k) yLm = rs_l k := by decide +kernel
theorem y_hs : ∀ k, k < 6 → 0 < k → yrf 3 (4 + k) yLm = some (3 + k) ∧ ytg (3 + k) yLm = 20 ∧ yln (3 + k) yLm = hs_l k := by decide +kernel
theorem y_ow : ∀ j, j < 48 → ct j ≠ 0 → own0 j = j := by decide +kernel
theorem y_n : ycn yLm = 66 ∧ ysl yLm ≤ 1000000 := by decide +kernel
theorem INV0 {x : Nat} {h0 h' : Hp} (hx : hp_n h0 = x) (kb : KSb h0) (f : FQ (x + 49) (ypr x h0 yLm) h') (z : ∀ j, j < 1044 → hp_I h' (x + 49) j = 0) : INV h' x (ow0 x) (fun _ => H0m) 4 1 S0m := by
  obtain ⟨⟨n1, s1⟩, c1, w1⟩ := yp_ok hx yLm
  have n66 : hp_n h' = x + 66 := by rw [f.1.2.2.2.1, n1, y_n.1]
  have c66 : ∀ k, k < 66 → k < ycn yLm := fun k hk => by rw [y_n.1]; exact hk
  have tT : ∀ k, k < 66 → hp_t h' (x + k) = ytg k yLm ∧ hp_l h' (x + k) = yln k yLm := fun k hk => by
    rw [f.1.1, f.1.2.1]
    exact ⟨(c1 k (c66 k hk)).1, (c1 k (c66 k hk)).2.1⟩
  have rR : ∀ k g, k < 66 → hp_R h' (x + k) g = (yrf k g yLm).map fun d => x + d := fun k g hk => by
    rw [f.1.2.2.1]
    exact (c1 k (c66 k hk)).2.2.1 g
  have iI : ∀ k j, k < 66 → k ≠ 49 → hp_I h' (x + k) j = yin k j yLm := fun k j hk ne => by
    rw [f.2.2 _ (by omega)]
    exact (c1 k (c66 k hk)).2.2.2 j
  have rS : ∀ k g d, k < 66 → yrf k g yLm = some d → hp_R h' (x + k) g = some (x + d) := fun k g d hk e => by rw [rR k g hk, e]; rfl
  have cs : CSH h' x := ⟨fun k hk h0 => by
    rw [(tT k (by omega)).1, (tT k (by omega)).2]
    exact y_ct k hk h0, fun q hq => by
    have := y_crf q hq
    exact rS _ _ _ this.1 this.2.2⟩
  have hsh : HSh h' (x + 3) := ⟨by rw [(tT 3 (by decide)).1]; decide +kernel, fun k h1 h2 => by
    have := y_hs k h2 h1
    rw [rS 3 (4 + k) (3 + k) (by decide) this.1, Nat.add_assoc, (tT (3 + k) (by omega)).1, (tT (3 + k) (by omega)).2]
    exact ⟨rfl, this.2⟩⟩
  have ka : KA h' x (ow0 x) := ⟨fun j h1 h2 => by
    rw [ow0_a, n66]
    exact ⟨y_ow j h1 h2, by omega⟩, fun j hj => by
    rw [ow0_a, n66]
    exact ⟨if_pos (by omega), by omega⟩⟩
  have z5 : ∀ k j, k < 66 → k ≠ 49 → yhs k yLm = false → hp_I h' (x + k) j = 0 := fun k j h1 h2 h3 => by rw [iI k j h1 h2]; exact yin_0 h3 j
  have o3 : ∀ j, j < 6 → ow0 x (x + 3 + j) = 100 ∧ x + 3 + j < hp_n h' := fun j hj => by
    rw [Nat.add_assoc, ow0_a, n66]
    have : ∀ j, j < 6 → own0 (3 + j) = 100 := by decide +kernel
    exact ⟨this j hj, by omega⟩
  have ho : HO h' (ow0 x) (x + 3) := fun k hk => by
    have := o3 k hk
    omega
  have hc : HC h' (x + 3) H0m := by
    refine ⟨hsh, H0_ok, ⟨z5 3 0 (by decide) (by decide) (by decide +kernel), z5 3 1 (by decide) (by decide) (by decide +kernel), z5 3 2 (by decide) (by decide) (by decide +kernel)⟩, fun d g _ _ => z5 5 _ (by decide) (by decide) (by decide +kernel), fun d _ => z5 6 _ (by decide) (by decide) (by decide +kernel), fun o ho => ?_, fun b t g k1 k2 _ _ hg => absurd hg (Nat.not_lt_zero g)⟩
    have e : hp_I h' (x + 7) o = 0 := z5 7 o (by decide) (by decide) (by decide +kernel)
    exact e
  have st : ST h' (x + 15) 0 0 := ⟨cs.t 15 9 (by decide), by
    rw [z5 15 0 (by decide) (by decide) (by decide +kernel), cs0]; rfl, z5 15 1 (by decide) (by decide) (by decide +kernel)⟩
  have ap : ∀ k j, k < 6 → j < 48 → ct j ≠ 0 → x + 3 + k ≠ x + j := fun k j hk hj h0 e => by
    have : ∀ k, k < 6 → ∀ j, j < 48 → ct j ≠ 0 → 3 + k ≠ j := by decide +kernel
    exact this k hk j hj h0 (by omega)
  have r3 : hp_R h' x 3 = some (x + 3) := rS 0 3 3 (by decide) (by decide +kernel)
  have cb : CB h' x (x + 3) H0m 0 0 := ⟨cs, r3, hc, st, H0_st, by decide, ap⟩
  have ss : ∀ q, q < 66 → ytg q yLm = 8 ∧ yrf q 0 yLm = some (q + 1) ∧ yrf q 1 yLm = some (q + 2) ∧ q + 2 < 66 ∧ (ytg (q + 1) yLm = 20 ∧ yln (q + 1) yLm = 1) ∧ ytg (q + 2) yLm = 20 ∧ yln (q + 2) yLm = 1 → SS h' (x + q) (x + (q + 1)) (x + (q + 2)) 1 := fun q hq ⟨a1, a2, a3, a4, ⟨a5, a6⟩, a7, a8⟩ => ⟨⟨by rw [(tT q hq).1]; exact a1, rS q 0 (q + 1) hq a2, rS q 1 (q + 2) hq a3⟩, ⟨by rw [(tT (q + 1) (by omega)).1]; exact a5, by rw [(tT (q + 1) (by omega)).2]; exact a6⟩, ⟨by rw [(tT (q + 2) (by omega)).1]; exact a7, by rw [(tT (q + 2) (by omega)).2]; exact a8⟩, by omega, 0, by decide, rfl⟩
  have s23 : SI h' (x + 23) (x + 24) (x + 25) 1 (ow0 x) (fun _ => H0m) 200 := ⟨ss 23 (by decide) (by decide +kernel), ⟨by rw [ow0_a]; decide +kernel, by omega⟩, ⟨by rw [ow0_a]; decide +kernel, by omega⟩, Or.inl (z5 23 2 (by decide) (by decide) (by decide +kernel))⟩
  have s26 : SI h' (x + 26) (x + 27) (x + 28) 1 (ow0 x) (fun _ => H0m) 202 := ⟨ss 26 (by decide) (by decide +kernel), ⟨by rw [ow0_a]; decide +kernel, by omega⟩, ⟨by rw [ow0_a]; decide +kernel, by omega⟩, Or.inl (z5 26 2 (by decide) (by decide) (by decide +kernel))⟩
  have l29 : LA h' (x + 29) 23 (x + 30) 1 (ow0 x) 204 := ⟨rS 29 0 30 (by decide) (by decide +kernel), ⟨by rw [(tT 30 (by decide)).1]; decide +kernel, by rw [(tT 30 (by decide)).2]; decide +kernel, 0, by decide, rfl⟩, by rw [ow0_a]; decide +kernel, by omega⟩
  have l31 : LA h' (x + 31) 20 (x + 32) 1 (ow0 x) 205 := ⟨rS 31 0 32 (by decide) (by decide +kernel), ⟨by rw [(tT 32 (by decide)).1]; decide +kernel, by rw [(tT 32 (by decide)).2]; decide +kernel, 0, by decide, rfl⟩, by rw [ow0_a]; decide +kernel, by omega⟩
  have cv : CV h' x (x + 3) 0 0 (ow0 x) (fun _ => H0m) 4 := ⟨ka, cb, ho, _, _, _, _, _, _, _, _, _, _, s23, s26, l29, l31, rfl⟩
  have no21 : ∀ i, hp_R h' (x + 21) i = none := fun i => by
    rw [rR 21 i (by decide)]
    have : yrf 21 i yLm = none := rfl
    rw [this]; rfl
  have ca : CA h' x (ow0 x) (fun _ => H0m) 4 1 S0m := by
    refine ⟨x + 3, fun _ => x + 3, ⟨cv, rfl, cb, ⟨z5 17 0 (by decide) (by decide) (by decide +kernel), Nat.zero_le _, fun i hi => absurd hi (Nat.not_lt_zero i)⟩, fun i hi => absurd hi (Nat.not_lt_zero i)⟩, fun i hi => ?_, ⟨z5 0 1 (by decide) (by decide) (by decide +kernel), Nat.zero_le _, fun j hj => absurd hj (Nat.not_lt_zero j)⟩, fun i hi => no21 i, ⟨by rw [iI 9 0 (by decide) (by decide)]; decide +kernel, by rw [iI 9 1 (by decide) (by decide)]; decide +kernel⟩, ⟨⟨⟨by decide, by decide⟩, fun k hk => ?_, fun k h1 h2 => ?_⟩, fun q hq => ⟨0, by decide, ?_⟩⟩, fun i hi => ?_, 0, by decide, z5 13 5 (by decide) (by decide) (by decide +kernel)⟩
    · show hp_I h' (x + (38 + 2 * i)) 0 = -1
      rw [iI (38 + 2 * i) 0 (by omega) (by omega)]
      have : ∀ i, i < 4 → yin (38 + 2 * i) 0 yLm = -1 := by decide +kernel
      exact this i hi
    · obtain rfl : k = 0 := by omega
      exact ⟨rS 2 0 3 (by decide) (by decide +kernel), hsh, o3⟩
    · rw [rR 2 k (by decide)]
      have : ∀ k, k < 4 → 1 ≤ k → yrf 2 k yLm = none := by decide +kernel
      rw [this k h2 h1]; rfl
    · rcases hq with e | e | e
      · exact e.symm
      · rw [no21] at e; injection e
      · rw [no21] at e; injection e
    · obtain ⟨⟨a1, a2, a3⟩, v, a4, ⟨a5, a6, a7⟩, a8⟩ := kb i hi
      have ek : hp_k h' = hp_k h0 := by rw [f.1.2.2.2.2.2]; exact w1.2.1
      have old : ∀ y, y < x → hp_t h' y = hp_t h0 y ∧ hp_l h' y = hp_l h0 y ∧ hp_I h' y = hp_I h0 y ∧ hp_R h' y = hp_R h0 y := fun y hy => by
        have b := w1.2.2 y (by rw [hx]; exact hy)
        have d := b.2 (fun q => q)
        rw [f.1.1, f.1.2.1, f.2.2 y (by omega), f.1.2.2.1]
        exact ⟨b.1.1, b.1.2, d.1, d.2.2⟩
      rw [hx] at a3 a8
      have ok := old _ a3
      have ov := old _ a8
      rw [ek]
      refine ⟨⟨by rw [ok.1]; exact a1, by rw [ok.2.2.1]; exact a2, by omega, if_pos a3⟩, v, by rw [ok.2.2.2]; exact a4, ⟨by rw [ov.1]; exact a5, by rw [ov.2.1]; exact a6, by rw [ov.2.2.1]; exact a7⟩, by omega, if_pos a8⟩
  have sr : SR h' (x + 48) := ⟨by rw [(tT 48 (by decide)).1]; decide +kernel, fun k h1 h2 => by
    have := y_sr k h2 h1
    rw [rS 48 (rs_f k) (48 + k) (by decide) this.1, Nat.add_assoc, (tT (48 + k) (by omega)).1, (tT (48 + k) (by omega)).2]
    exact ⟨rfl, this.2⟩⟩
  have z49 : ∀ j, j < 1044 → hp_I h' (x + 48 + 1) j = 0 := z
  refine ⟨ca, ⟨⟨⟨sr, H0_ok, ⟨z49 0 (by decide), z49 1 (by decide), z49 2 (by decide), fun d g hd hg => z49 _ (by omega), fun d hd => z49 _ (by omega), fun k hk => ?_, z49 51 (by decide)⟩, fun b t g k1 k2 _ _ hg => absurd hg (Nat.not_lt_zero g), H0_st, by decide⟩, ⟨z49 52 (by decide), Nat.zero_le _, fun i hi => absurd hi (Nat.not_lt_zero i)⟩, fun i hi => absurd hi (Nat.not_lt_zero i)⟩, fun i hi => ?_, ⟨by rw [show hp_I h' (x + 48) 5 = yin 48 5 yLm from iI 48 5 (by decide) (by decide)]; decide +kernel, Nat.zero_le _, fun j hj => absurd hj (Nat.not_lt_zero j)⟩, fun i hi => z5 50 i (by decide) (by decide) (by decide +kernel), ?_, ?_⟩, ⟨fun b b' t g k1 k2 _ _ _ hg => absurd hg (Nat.not_lt_zero g), fun i q hq => by injection hq⟩⟩
  · rw [z49 _ (by omega)]
    show (0 : Int32) = nI (dg 0 k)
    unfold dg
    rw [Nat.zero_div]; rfl
  · show hp_I h' (x + (48 + 15)) i = -1
    rw [iI 63 i (by decide) (by decide)]
    have : ∀ i, i < 4 → yin 63 i yLm = -1 := by decide +kernel
    exact this i hi
  · rw [show hp_I h' (x + 48) 13 = yin 48 13 yLm from iI 48 13 (by decide) (by decide)]; decide +kernel
  · rw [show hp_I h' (x + 48) 14 = yin 48 14 yLm from iI 48 14 (by decide) (by decide)]; decide +kernel
