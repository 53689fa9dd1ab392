/-! L3, the class: whom, surely -/
theorem cc_whom (F : Nat) (hF : 70000 ≤ F) {h : Hp} {x a s b : Nat} {ow : Nat → Nat} {hs : Nat → HM} {T : Nat} (c : CV h x a s b ow hs T) {tr : TRY} (rt : CTR h x tr) (y z w j : Int32) : ∃ v h', f_X11_whom F x y z w j h = some (v, h') ∧ A_whom (hs a) s b tr y z w j v ∧ RC h x a s b ow hs T [35] h' ∧ CTR h' x tr := by
  unfold f_X11_whom A_whom
  rw [cV_n c.2.1.1.t0 (cc_refT F (by omega) c.2.1 rt y z w)]
  cases hk : tdk (hs a) tr y z w with
  | inl k => rw [if_neg (show ¬ tdc (Sum.inl k) = 0 from tdk_ne hk)]; exact ⟨_, h, rfl, rfl, RC.rf c _, rt⟩
  | inr p =>
    obtain ⟨N, ce, A, C⟩ := p
    obtain ⟨p1, p2, p3, rfl, rfl, p6, p7, i, so, hi, rfl, ht⟩ := tdk_inr c.2.1.hc.d6 hk
    dsimp only at p1 p2 p3 p6 p7 ht ⊢
    have p10 := p2_10 p2
    rw [if_pos (show tdc (Sum.inr (N, ce, A, C)) = 0 from rfl)]
    by_cases hj : 0 ≤ j
    · obtain ⟨j1, j2⟩ := i_nn hj
      obtain ⟨h', e, rc, rt', wi⟩ := cc_ask F hF c rt hi ht p2 p3 p6 p7
      obtain ⟨tc, r1, r2, r3, r4, r5, r6, r7⟩ := rt'.ty rc.cb.1 hi ht
      dsimp only at r5 r6 r7
      rw [if_pos hj, c.2.1.1.g0 16 35 (by decide), c.2.1.home, c.2.1.now, c.2.1.1.g0 8 20 (by decide), c.2.1.1.tray hi, cV_n (c.2.1.1.t 35 11 (by decide)) e, rc.cb.1.g0 16 35 (by decide), gI_n (rc.cb.1.t 35 11 (by decide)), wi.1]
      have cl := cb_le (itr (hs a) s b (N, ce, A, C)) (2 ^ N)
      rcases wi.2 with ⟨d1, -, -⟩ | ⟨r, d1, d2, d3, ⟨n, n1, n2, n3⟩, -, -⟩
      · have c0 : cb (itr (hs a) s b (N, ce, A, C)) (2 ^ N) = 0 := by
          have := cb_s (p := itr (hs a) s b (N, ce, A, C)) (2 ^ N) 0 (fun j _ h2 => d1 j (by omega))
          rw [Nat.zero_add] at this
          rw [this]; rfl
        rw [if_pos (show nI (cb (itr (hs a) s b (N, ce, A, C)) (2 ^ N)) = 0 by rw [c0]; rfl)]
        refine ⟨_, h', rfl, ?_, rc, rt'⟩
        rw [if_pos hj]
        by_cases z : j.toInt.toNat < N
        · rw [if_pos z]; exact Or.inl ⟨d1, rfl⟩
        · rw [if_neg z]
      · have c0 : ¬ cb (itr (hs a) s b (N, ce, A, C)) (2 ^ N) = 0 := fun z => by
          have : ∀ n, r < n → cb (itr (hs a) s b (N, ce, A, C)) n ≠ 0 := by
            intro n
            induction n with
            | zero => intro z; omega
            | succ n ih =>
              intro y e
              have e : cb (itr (hs a) s b (N, ce, A, C)) n + b2 (itr (hs a) s b (N, ce, A, C) n) = 0 := e
              by_cases u : r = n
              · rw [← u, d2] at e; have : b2 true = 1 := rfl; omega
              · exact ih (by omega) (by omega)
          exact this _ d1 z
        rw [if_neg (nI_ne0 (by omega) (by omega)), rc.cb.1.g0 8 20 (by decide), rc.cb.1.tray hi, gI_n r1, r5]
        by_cases z : j.toInt.toNat < N
        · rw [if_pos (show j < nI N by rw [j1]; exact nI_lt z (by omega)), rc.cb.1.g0 16 35 (by decide), gI_n (rc.cb.1.t 35 11 (by decide)), n1, show j = nI j.toInt.toNat from j1, tb_and (by omega) (by omega), n3 _ z]
          refine ⟨_, h', rfl, ?_, rc, rt'⟩
          rw [if_pos (show 0 ≤ nI j.toInt.toNat by rw [← j1]; exact hj), show (nI j.toInt.toNat).toInt.toNat = j.toInt.toNat by rw [← j1], if_pos z]
          exact Or.inr ⟨r, d1, d2, d3, rfl⟩
        · rw [if_neg (show ¬ j < nI N by rw [j1]; exact fun y => z ((nI_ltI (by omega) (by omega)).mp y))]
          refine ⟨_, h', rfl, ?_, rc, rt'⟩
          rw [if_pos hj, if_neg z]
    · rw [if_neg hj]
      exact ⟨_, h, rfl, by rw [if_neg hj], RC.rf c _, rt⟩
theorem cc_surely (F : Nat) (hF : 70000 ≤ F) {h : Hp} {x a s b : Nat} {ow : Nat → Nat} {hs : Nat → HM} {T : Nat} (c : CV h x a s b ow hs T) {tr : TRY} (rt : CTR h x tr) (y z w j : Int32) : ∃ v h', f_X11_surely F x y z w j h = some (v, h') ∧ A_surely (hs a) s b tr y z w j v ∧ RC h x a s b ow hs T [35] h' ∧ CTR h' x tr := by
  unfold f_X11_surely A_surely
  rw [cV_n c.2.1.1.t0 (cc_noTwin F x j h)]
  cases hj : vi j 2 with
  | none =>
    rw [if_neg nbs1]
    refine ⟨_, h, rfl, ?_, RC.rf c _, rt⟩
    cases vb y 0 3 <;> rfl
  | some t =>
    obtain ⟨t1, rfl⟩ := vi_some hj
    rw [if_pos (nbs0 t), cV_n c.2.1.1.t0 (cc_refT F (by omega) c.2.1 rt y z w)]
    cases hv : vb y 0 3 with
    | none =>
      have : tdk (hs a) tr y z w = .inl (-2) := by
        have v4 : vi y 4 = none := by
          have := vb_none hv
          unfold vi
          rw [if_neg (fun q => this ⟨by omega, by omega⟩)]
        unfold tdk tra trc
        rw [v4]; rfl
      rw [this, if_neg (show ¬ tdc (Sum.inl (-2)) = 0 by decide)]
      exact ⟨_, h, rfl, rfl, RC.rf c _, rt⟩
    | some _ =>
      dsimp only
      cases hk : tdk (hs a) tr y z w with
      | inl k => rw [if_neg (show ¬ tdc (Sum.inl k) = 0 from tdk_ne hk)]; exact ⟨_, h, rfl, rfl, RC.rf c _, rt⟩
      | inr p =>
        obtain ⟨N, ce, A, C⟩ := p
        obtain ⟨p1, p2, p3, rfl, rfl, p6, p7, i, so, hi, rfl, ht⟩ := tdk_inr c.2.1.hc.d6 hk
        dsimp only at p1 p2 p3 p6 p7 ht ⊢
        obtain ⟨h', e, rc, rt', wi⟩ := cc_ask F hF c rt hi ht p2 p3 p6 p7
        rw [if_pos (show tdc (Sum.inr (N, ce, A, C)) = 0 from rfl), c.2.1.1.g0 16 35 (by decide), c.2.1.home, c.2.1.now, c.2.1.1.g0 8 20 (by decide), c.2.1.1.tray hi, cV_n (c.2.1.1.t 35 11 (by decide)) e, rc.cb.1.g0 16 35 (by decide), gI_n (rc.cb.1.t 35 11 (by decide)), rc.cb.1.g0 16 35 (by decide), gI_n (rc.cb.1.t 35 11 (by decide))]
        rcases (show t = 0 ∨ t = 1 by omega) with rfl | rfl
        · rw [if_pos (show nI 0 = 0 from rfl)]
          refine ⟨_, h', rfl, ?_, rc, rt'⟩
          rcases wi.2 with ⟨d1, d2, -⟩ | ⟨r, d1, d2, d3, -, ⟨n, n1, n2, n3⟩, -⟩
          · exact Or.inl ⟨d1, d2⟩
          · refine Or.inr ⟨⟨r, d1, d2⟩, n, n2, n1, fun i hi => ?_⟩
            rw [n3 i hi]
            refine forall_congr' fun r => imp_congr_right fun _ => imp_congr_right fun _ => ?_
            cases r.testBit (N - 1 - i) <;> decide
        · rw [if_neg (show ¬ nI 1 = 0 by decide)]
          refine ⟨_, h', rfl, ?_, rc, rt'⟩
          rcases wi.2 with ⟨d1, -, d3⟩ | ⟨r, d1, d2, d3, -, -, n, n1, n2, n3⟩
          · exact Or.inl ⟨d1, d3⟩
          · refine Or.inr ⟨⟨r, d1, d2⟩, n, n2, n1, fun i hi => ?_⟩
            rw [n3 i hi]
            refine forall_congr' fun r => imp_congr_right fun _ => imp_congr_right fun _ => ?_
            cases r.testBit (N - 1 - i) <;> decide
