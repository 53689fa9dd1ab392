/-! L4: an answer is one -/
theorem LW.nfar {H : HM} {b : Nat} {g : GL} {ms : List Nat} {s : Nat} (h : LW H b g ms s) : ¬ SD H b 511 g false s 268435456 := fun q => by
  cases ms with
  | nil => exact absurd (h.sd.uniq q) (by decide)
  | cons k ks =>
    have e := h.sd.uniq q
    have e : ks.length + 1 = 268435456 := e
    obtain ⟨-, -, ⟨u, -, u2⟩, -⟩ := h
    rcases u2.sd with ⟨z, -⟩ | ⟨z, -⟩ <;> omega
theorem A_soonest_u {H : HM} {s b : Nat} {x y v w : Int32} (h : A_soonest H s b x y v) (h' : A_soonest H s b x y w) : v = w := by
  unfold A_soonest at h h'
  cases hq : gsets H x y with
  | none => rw [hq] at h h'; exact h.trans h'.symm
  | some q =>
    rw [hq] at h h'
    obtain ⟨d, d1, rfl⟩ := h
    obtain ⟨e, e1, rfl⟩ := h'
    rw [d1.uniq e1]
theorem A_tellings_u {H : HM} {s b : Nat} {x y v w : Int32} (h : A_tellings H s b x y v) (h' : A_tellings H s b x y w) : v = w := by
  unfold A_tellings at h h'
  cases hq : gsets H x y with
  | none => rw [hq] at h h'; exact h.trans h'.symm
  | some q =>
    rw [hq] at h h'
    obtain ⟨d, d1, rfl⟩ := h
    obtain ⟨e, e1, rfl⟩ := h'
    rw [d1.uniq e1]
theorem A_at_u {H : HM} {s b : Nat} {g : GL} {i v w : Int32} (h : A_at H s b g i v) (h' : A_at H s b g i w) : v = w := by
  rcases h with ⟨h1, rfl⟩ | ⟨ms, h1, rfl⟩
  · rcases h' with ⟨k1, rfl⟩ | ⟨ms', k1, rfl⟩
    · rfl
    · exact absurd h1 k1.nfar
  · rcases h' with ⟨k1, rfl⟩ | ⟨ms', k1, rfl⟩
    · exact absurd k1 h1.nfar
    · rw [h1.uniq k1]
theorem A_way_u {H : HM} {s b : Nat} {x y i v w : Int32} (h : A_way H s b x y i v) (h' : A_way H s b x y i w) : v = w := by
  unfold A_way at h h'
  cases hq : gsets H x y with
  | none => rw [hq] at h h'; exact h.trans h'.symm
  | some q =>
    rw [hq] at h h'
    dsimp only at h h'
    by_cases z : 0 ≤ i
    · rw [if_pos z] at h h'; exact A_at_u h h'
    · rw [if_neg z] at h h'; exact h.trans h'.symm
theorem A_alone_u {H : HM} {s b : Nat} {x y v w : Int32} (h : A_alone H s b x y v) (h' : A_alone H s b x y w) : v = w := by
  unfold A_alone at h h'
  cases hq : vi x 2 with
  | none => rw [hq] at h h'; exact h.trans h'.symm
  | some q =>
    rw [hq] at h h'
    dsimp only at h h'
    cases hd : vi y (hm_d H) with
    | none => rw [hd] at h h'; exact h.trans h'.symm
    | some d =>
      rw [hd] at h h'
      obtain ⟨d, d1, rfl⟩ := h
      obtain ⟨e, e1, rfl⟩ := h'
      rw [d1.uniq e1]
theorem A_aloneWay_u {H : HM} {s b : Nat} {x y i v w : Int32} (h : A_aloneWay H s b x y i v) (h' : A_aloneWay H s b x y i w) : v = w := by
  unfold A_aloneWay at h h'
  cases hq : vi x 2 with
  | none => rw [hq] at h h'; exact h.trans h'.symm
  | some q =>
    rw [hq] at h h'
    dsimp only at h h'
    cases hd : vi y (hm_d H) with
    | none => rw [hd] at h h'; exact h.trans h'.symm
    | some d =>
      rw [hd] at h h'
      dsimp only at h h'
      by_cases z : 0 ≤ i
      · rw [if_pos z] at h h'; exact A_at_u h h'
      · rw [if_neg z] at h h'; exact h.trans h'.symm
theorem A_needed_u {H : HM} {s b : Nat} {x y v w : Int32} (h : A_needed H s b x y v) (h' : A_needed H s b x y w) : v = w := by
  unfold A_needed at h h'
  cases hq : gsets H x y with
  | none => rw [hq] at h h'; exact h.trans h'.symm
  | some q =>
    rw [hq] at h h'
    rcases h with ⟨h1, h2⟩ | ⟨h1, h2⟩
    · rcases h' with ⟨k1, k2⟩ | ⟨k1, k2⟩
      · exact h2.trans k2.symm
      · exact absurd h1 k1
    · rcases h' with ⟨k1, k2⟩ | ⟨k1, k2⟩
      · exact absurd k1 h1
      · exact h2.trans k2.symm
theorem A_can_u {H : HM} {s b : Nat} {x v w : Int32} (h : A_can H s b x v) (h' : A_can H s b x w) : v = w := by
  unfold A_can at h h'
  cases hq : vi x 2 with
  | none => rw [hq] at h h'; exact h.trans h'.symm
  | some q =>
    rw [hq] at h h'
    obtain ⟨n, n1, rfl, n3⟩ := h
    obtain ⟨k, k1, rfl, k3⟩ := h'
    rw [show n = k from Nat.eq_of_testBit_eq fun d => by
      rw [Bool.eq_iff_iff, n3 d, k3 d]]
theorem A_most_u {H : HM} {s b : Nat} {v w : Int32} (h : A_most H s b v) (h' : A_most H s b w) : v = w := by
  obtain ⟨n, n1, rfl, n3, n4⟩ := h
  obtain ⟨k, k1, rfl, k3, k4⟩ := h'
  have e : n = k := by
    rcases Nat.lt_trichotomy n k with z | z | z
    · rcases k4 with k4 | ⟨u, u1, u2⟩
      · omega
      · have := n3 u u1; omega
    · exact z
    · rcases n4 with n4 | ⟨u, u1, u2⟩
      · omega
      · have := k3 u u1; omega
  rw [e]
theorem A_over_u {H : HM} {s b : Nat} {x v w : Int32} (h : A_over H s b x v) (h' : A_over H s b x w) : v = w := by
  unfold A_over at h h'
  cases hq : vi x 2 with
  | none => rw [hq] at h h'; exact h.trans h'.symm
  | some q =>
    rw [hq] at h h'
    obtain ⟨n, n1, rfl, n3⟩ := h
    obtain ⟨k, k1, rfl, k3⟩ := h'
    rw [show n = k from Nat.eq_of_testBit_eq fun d => by
      by_cases z : d < 4
      · rw [Bool.eq_iff_iff, n3 d z, k3 d z]
      · have p : 2 ^ 4 ≤ 2 ^ d := Nat.pow_le_pow_right (by decide) (by omega)
        rw [Nat.testBit_lt_two_pow (by omega), Nat.testBit_lt_two_pow (by omega)]]
theorem A_whom_u {H : HM} {s b : Nat} {tr : TRY} {x y z i v w : Int32} (h : A_whom H s b tr x y z i v) (h' : A_whom H s b tr x y z i w) : v = w := by
  unfold A_whom at h h'
  cases hq : tdk H tr x y z with
  | inl c => rw [hq] at h h'; exact h.trans h'.symm
  | inr p =>
    rw [hq] at h h'
    dsimp only at h h'
    by_cases u : 0 ≤ i
    · rw [if_pos u] at h h'
      by_cases t : i.toInt.toNat < p.1
      · rw [if_pos t] at h h'
        rcases h with ⟨h1, h2⟩ | ⟨r, r1, r2, r3, r4⟩
        · rcases h' with ⟨k1, k2⟩ | ⟨q, q1, q2, q3, q4⟩
          · exact h2.trans k2.symm
          · rw [h1 q q1] at q2; exact absurd q2 (by decide)
        · rcases h' with ⟨k1, k2⟩ | ⟨q, q1, q2, q3, q4⟩
          · rw [k1 r r1] at r2; exact absurd r2 (by decide)
          · have e : r = q := by
              rcases Nat.lt_trichotomy r q with c | c | c
              · rw [q3 r c] at r2; exact absurd r2 (by decide)
              · exact c
              · rw [r3 q c] at q2; exact absurd q2 (by decide)
            rw [r4, q4, e]
      · rw [if_neg t] at h h'; exact h.trans h'.symm
    · rw [if_neg u] at h h'; exact h.trans h'.symm
theorem A_surely_u {H : HM} {s b : Nat} {tr : TRY} {x y z i v w : Int32} (h : A_surely H s b tr x y z i v) (h' : A_surely H s b tr x y z i w) : v = w := by
  unfold A_surely at h h'
  cases hx : vb x 0 3 with
  | none => rw [hx] at h h'; exact h.trans h'.symm
  | some _ =>
    rw [hx] at h h'
    dsimp only at h h'
    cases hw : vi i 2 with
    | none => rw [hw] at h h'; exact h.trans h'.symm
    | some t =>
      rw [hw] at h h'
      dsimp only at h h'
      cases hq : tdk H tr x y z with
      | inl c => rw [hq] at h h'; exact h.trans h'.symm
      | inr p =>
        rw [hq] at h h'
        dsimp only at h h'
        rcases h with ⟨h1, h2⟩ | ⟨⟨r, r1, r2⟩, n, n1, n2, n3⟩
        · rcases h' with ⟨k1, k2⟩ | ⟨⟨q, q1, q2⟩, -⟩
          · exact h2.trans k2.symm
          · rw [h1 q q1] at q2; exact absurd q2 (by decide)
        · rcases h' with ⟨k1, k2⟩ | ⟨-, k, k1, k2, k3⟩
          · rw [k1 r r1] at r2; exact absurd r2 (by decide)
          · rw [n2, k2, show n = k from Nat.eq_of_testBit_eq fun d => by
              by_cases c : d < p.1
              · rw [Bool.eq_iff_iff, n3 d c, k3 d c]
              · have e : 2 ^ p.1 ≤ 2 ^ d := Nat.pow_le_pow_right (by decide) (by omega)
                rw [Nat.testBit_lt_two_pow (by omega), Nat.testBit_lt_two_pow (by omega)]]
theorem A_forces_u {H : HM} {s b : Nat} {x y v w : Int32} (h : A_forces H s b x y v) (h' : A_forces H s b x y w) : v = w := by
  unfold A_forces at h h'
  cases hq : vi x 2 with
  | none => rw [hq] at h h'; exact h.trans h'.symm
  | some q =>
    rw [hq] at h h'
    dsimp only at h h'
    cases hd : vi y (hm_d H) with
    | none => rw [hd] at h h'; exact h.trans h'.symm
    | some d =>
      rw [hd] at h h'
      obtain ⟨d, d1, rfl⟩ := h
      obtain ⟨e, e1, rfl⟩ := h'
      rw [d1.uniq e1]
theorem BM_u {H : HM} {s b t d n : Nat} {v w : Int32} (h : BM H s b t d n v) (h' : BM H s b t d n w) : v = w := by
  rcases h with ⟨h1, h2⟩ | ⟨k, u, k1, k2, k3, k4, k5⟩
  · rcases h' with ⟨g1, g2⟩ | ⟨j, u', j1, j2, j3, j4, j5⟩
    · exact h1.trans g1.symm
    · exact absurd j3 (h2 j u' j1 j2)
  · rcases h' with ⟨g1, g2⟩ | ⟨j, u', j1, j2, j3, j4, j5⟩
    · exact absurd k3 (g2 k u k1 k2)
    · have e : k = j := by
        rcases Nat.lt_trichotomy k j with c | c | c
        · exact absurd k3 (j4 k u c k2)
        · exact c
        · exact absurd j3 (k4 j u' c j2)
      rw [k5, j5, e]
theorem A_best_u {H : HM} {s b : Nat} {x y v w : Int32} (h : A_best H s b x y v) (h' : A_best H s b x y w) : v = w := by
  unfold A_best at h h'
  cases hq : vi x 2 with
  | none => rw [hq] at h h'; exact h.trans h'.symm
  | some q =>
    rw [hq] at h h'
    dsimp only at h h'
    cases hd : vi y (hm_d H) with
    | none => rw [hd] at h h'; exact h.trans h'.symm
    | some d =>
      rw [hd] at h h'
      dsimp only at h h'
      rcases h with ⟨h1, h2⟩ | ⟨h1, h2⟩ | ⟨n, n1, n2, n3⟩
      · rcases h' with ⟨k1, k2⟩ | ⟨k1, k2⟩ | ⟨k, k1, k2, k3⟩
        · exact h2.trans k2.symm
        · exact h2.trans k2.symm
        · have := h1.uniq k2; omega
      · rcases h' with ⟨k1, k2⟩ | ⟨k1, k2⟩ | ⟨k, k1, k2, k3⟩
        · exact h2.trans k2.symm
        · exact h2.trans k2.symm
        · have := h1.uniq k2; omega
      · rcases h' with ⟨k1, k2⟩ | ⟨k1, k2⟩ | ⟨k, k1, k2, k3⟩
        · have := n2.uniq k1; omega
        · have := n2.uniq k1; omega
        · have e := n2.uniq k2
          obtain rfl : n = k := by omega
          exact BM_u n3 k3
theorem A_lists_u {H : HM} {s b : Nat} {tr : TRY} {x y z v w : Int32} {t1 t2 : TRY} (h : A_lists H s b tr x y z v t1) (h' : A_lists H s b tr x y z w t2) : v = w ∧ t1 = t2 := by
  unfold A_lists at h h'
  cases hq : tra tr x with
  | none => rw [hq] at h h'; exact ⟨h.1.trans h'.1.symm, h.2.trans h'.2.symm⟩
  | some q =>
    rw [hq] at h h'
    dsimp only at h h'
    cases hg : gsets H y z with
    | none => rw [hg] at h h'; exact ⟨h.1.trans h'.1.symm, h.2.trans h'.2.symm⟩
    | some p =>
      rw [hg] at h h'
      dsimp only at h h'
      rcases h with ⟨h1, h2, h3⟩ | ⟨ms, m0, m1, m2, m3⟩
      · rcases h' with ⟨k1, k2, k3⟩ | ⟨ms', k0, k1, k2, k3⟩
        · exact ⟨h2.trans k2.symm, h3.trans k3.symm⟩
        · exact absurd h1 k1.nfar
      · rcases h' with ⟨k1, k2, k3⟩ | ⟨ms', k0, k1, k2, k3⟩
        · exact absurd k1 m1.nfar
        · have e := m1.uniq k1
          subst e
          exact ⟨m2.trans k2.symm, m3.trans k3.symm⟩
