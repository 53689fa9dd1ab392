/-! L3, the class: ways into trays -/
theorem ct_tr : ∀ k, k < 46 → 38 ≤ k → ct k ≠ 0 := by decide
theorem CTR.fo {h h' : Hp} {x : Nat} {tr : TRY} {ow : Nat → Nat} {os : List Nat} (r : CTR h x tr) (ka : KA h x ow) (f : FO os ow h h') (hk : ∀ o ∈ os, o < 38 ∨ 46 ≤ o) : CTR h' x tr :=
  r.cg fun k h1 h2 => by
    have a := ka.1 k (by omega) (ct_tr k h2 h1)
    have c := (f.2.2 _ a.2).2 (fun z => by have z : ow (x + k) ∈ os := z; rw [a.1] at z; have := hk k z; omega)
    exact ⟨c.1, c.2.1⟩
/-- the owners of a search's rows -/
theorem CV.own1 {h : Hp} {x a s b : Nat} {ow : Nat → Nat} {hs : Nat → HM} {T : Nat} (c : CV h x a s b ow hs T) {P S L : Nat} (ss : SS h (x + 23) P S L) : (ow P = 200 ∧ P < hp_n h) ∧ (ow S = 201 ∧ S < hp_n h) := by
  obtain ⟨k, cb, ho, P1, S1, L1, P2, S2, L2, W, L3, J, L4, s1, s2, l3, l4, rfl⟩ := c
  have e1 : P1 = P := Option.some.inj (s1.1.1.2.1.symm.trans ss.1.2.1)
  have e2 : S1 = S := Option.some.inj (s1.1.1.2.2.symm.trans ss.1.2.2)
  rw [← e1, ← e2]
  exact ⟨s1.2.1, s1.2.2.1⟩
theorem trM_0 (tr : TRY) (i : Nat) (ms : List Nat) : trM tr i 0 ms = tr := by
  funext j
  unfold trM
  by_cases e : j = i
  · rw [if_pos e]
    cases tr j with
    | none => rfl
    | some q => rfl
  · rw [if_neg e]
theorem trM_s {tr : TRY} {i k e : Nat} {ms : List Nat} (he : ms[k]? = some e) : trW (trM tr i k ms) (some (i, k, lm e)) = trM tr i (k + 1) ms := by
  funext j
  show (if j = i then (trM tr i k ms j).map (fun q => (q.1, q.2.1, fun l => if l = k then lm e else q.2.2 l)) else trM tr i k ms j) = trM tr i (k + 1) ms j
  unfold trM
  by_cases z : j = i
  · rw [if_pos z, if_pos z, if_pos z]
    cases tr j with
    | none => rfl
    | some q =>
      show some (q.1, q.2.1, fun l => if l = k then lm e else (if l < k then (match ms[l]? with | none => 0 | some e => lm e) else q.2.2 l)) = some (q.1, q.2.1, fun l => if l < k + 1 then (match ms[l]? with | none => 0 | some e => lm e) else q.2.2 l)
      refine congrArg some (congrArg (Prod.mk q.1) (congrArg (Prod.mk q.2.1) (funext fun l => ?_)))
      by_cases y : l = k
      · subst y; rw [if_pos rfl, if_pos (by omega), he]
      · rw [if_neg y]
        by_cases y2 : l < k
        · rw [if_pos y2, if_pos (by omega)]
        · rw [if_neg y2, if_neg (by omega)]
  · rw [if_neg z, if_neg z, if_neg z]
theorem cm_lm : ∀ so, so ≤ 3 → ∀ e, e < 9 → (cm e = 20 ↔ e = 8) ∧ (e = 8 → cutL so (-1) = lm e) ∧ (¬ e = 8 → cutL so (cm e).toInt64 = lm e) := by
  have : ∀ so, so < 4 → ∀ e, e < 9 → (cm e = 20 ↔ e = 8) ∧ (e = 8 → cutL so (-1) = lm e) ∧ (¬ e = 8 → cutL so (cm e).toInt64 = lm e) := by decide +kernel
  exact fun so h => this so (by omega)
theorem cc_lists_r (F : Nat) (hF : 70000 ≤ F) {x a s b : Nat} {ow : Nat → Nat} {hs : Nat → HM} {T : Nat} {P S L : Nat} {u p kk : Nat → Nat} {n o e i N : Nat} {tr : TRY} {q : Nat × Nat × (Nat → Int64)} (hi : i < 4) (hq : tr i = some q) (he : e < n) (hN : N ≤ (Pp p kk e).length) (hN2 : N ≤ q.2.1) (h9 : ∀ k ∈ (Pp p kk e).reverse, k < 9) : ∀ r k m (h : Hp), CV h x a s b ow hs T → SC h (x + 23) P S L a (hs a) b 511 s u p kk n o 0 → CTR h x (trM tr i k (Pp p kk e).reverse) → k + r = N → r < m → ∃ h', f_X11_lists_87 F m x (x + (38 + 2 * i)) (nI e) (nI N) (nI k) h = some (nI N, h') ∧ CTR h' x (trM tr i N (Pp p kk e).reverse) ∧ CV h' x a s b ow hs T ∧ FO [39, 41, 43, 45] ow h h' ∧ SH h h' := by
  intro r
  induction r with
  | zero =>
    intro k m h c sc rt hk hm
    obtain ⟨m, rfl⟩ : ∃ j, m = j + 1 := ⟨m - 1, by omega⟩
    have l24 := sc.bq.len24 c.2.1.hc.2.1 he
    show ∃ h', f_X11_lists_87_b F (f_X11_lists_87 F m) x (x + (38 + 2 * i)) (nI e) (nI N) (nI k) h = _ ∧ _
    unfold f_X11_lists_87_b
    have e : k = N := by omega
    subst e
    rw [if_pos (nI_le (Nat.le_refl _) (by omega))]
    exact ⟨h, rfl, rt, c, FO.rf _ _ _, SH.rf h⟩
  | succ r ih =>
    intro k m h c sc rt hk hm
    obtain ⟨m, rfl⟩ : ∃ j, m = j + 1 := ⟨m - 1, by omega⟩
    have l24 := sc.bq.len24 c.2.1.hc.2.1 he
    have tt := c.2.1.1.tt hi
    obtain ⟨g, g1, g2⟩ := cc_stepAt F (by omega) sc he (I := k) (by omega)
    have g9 := h9 g (List.mem_of_getElem? g1)
    have hqk : trM tr i k (Pp p kk e).reverse i = some (q.1, q.2.1, fun l => if l < k then (match (Pp p kk e).reverse[l]? with | none => 0 | some e => lm e) else q.2.2 l) := by
      unfold trM
      rw [if_pos rfl, hq]; rfl
    have q3 : q.1 ≤ 3 := by
      have := rt i hi
      rw [hqk] at this
      exact this.2.2.2.1
    obtain ⟨m1, m2, m3⟩ := cm_lm q.1 q3 g g9
    have ho39 : ∀ i, i < 4 → 39 + 2 * i < 48 ∧ ct (39 + 2 * i) ≠ 0 ∧ 39 + 2 * i ∈ [39, 41, 43, 45] := by decide
    have fo : FO [39, 41, 43, 45] ow h (hp_sL h (x + (39 + 2 * i)) k (lm g)) := FO.sL c.1 (ho39 i hi)
    have c1 : CV (hp_sL h (x + (39 + 2 * i)) k (lm g)) x a s b ow hs T := c.fo fo (by unfold OKv OKs; decide)
    have own := c.own1 sc.ss
    have k23 := c.1.1 23 (by decide) (by decide)
    have sc1 : SC (hp_sL h (x + (39 + 2 * i)) k (lm g)) (x + 23) P S L a (hs a) b 511 s u p kk n o 0 := by
      refine sc.fw fo ⟨k23.2, by rw [k23.1]; decide⟩ ⟨own.1.2, by rw [own.1.1]; decide⟩ ⟨own.2.2, by rw [own.2.1]; decide⟩ (fun j hj => ⟨(c.2.2.1 j hj).2.2, fun z => ?_⟩)
      have y := c.2.2.1 j hj
      have : ∀ o ∈ [39, 41, 43, 45], o < 100 := by decide
      have := this _ z
      omega
    have rt1 := rt.put (k := k) hi hqk (lm g)
    rw [trM_s g1] at rt1
    obtain ⟨h', e', r', c', f', s'⟩ := ih (k + 1) m _ c1 sc1 rt1 (by omega) (by omega)
    have fin : ∃ h', f_X11_lists_87 F m x (x + (38 + 2 * i)) (nI e) (nI N) (nI (k + 1)) (hp_sL h (x + (39 + 2 * i)) k (lm g)) = some (nI N, h') ∧ CTR h' x (trM tr i N (Pp p kk e).reverse) ∧ CV h' x a s b ow hs T ∧ FO [39, 41, 43, 45] ow h h' ∧ SH h h' := ⟨h', e', r', c', fo.tr (OE.rf _ _) f', (SH.rf h).tr s'⟩
    show ∃ h', f_X11_lists_87_b F (f_X11_lists_87 F m) x (x + (38 + 2 * i)) (nI e) (nI N) (nI k) h = _ ∧ _
    unfold f_X11_lists_87_b f_X11_lists_127
    rw [if_neg (nI_ge (by omega) (by omega)), c.2.1.1.g0 11 23 (by decide), cV_n sc.ss.t g2, nI_1]
    by_cases z : g = 8
    · rw [if_pos (m1.mpr z), cV_n tt.1 (cc_put F c.2.1.1 rt hi hqk (show k < q.2.1 by omega) (-1)), show cutL (q.1, q.2.1, fun l => if l < k then (match (Pp p kk e).reverse[l]? with | none => 0 | some e => lm e) else q.2.2 l).1 (-1) = lm g from m2 z]
      exact fin
    · rw [if_neg (fun y => z (m1.mp y)), cV_n tt.1 (cc_put F c.2.1.1 rt hi hqk (show k < q.2.1 by omega) _), show cutL (q.1, q.2.1, fun l => if l < k then (match (Pp p kk e).reverse[l]? with | none => 0 | some e => lm e) else q.2.2 l).1 (cm g).toInt64 = lm g from m3 z]
      exact fin
theorem cc_lists (F : Nat) (hF : 70000 ≤ F) {h : Hp} {x a s b : Nat} {ow : Nat → Nat} {hs : Nat → HM} {T : Nat} (c : CV h x a s b ow hs T) {tr : TRY} (rt : CTR h x tr) (y z w : Int32) : ∃ v h' tr', f_X11_lists F x y z w h = some (v, h') ∧ CTR h' x tr' ∧ A_lists (hs a) s b tr y z w v tr' ∧ RC h x a s b ow hs T [23, 200, 201, 39, 41, 43, 45] h' := by
  unfold f_X11_lists A_lists tra trc
  rw [cV_n c.2.1.1.t0 (cc_noTray F c.2.1.1 y)]
  cases hy : vi y 4 with
  | none => rw [if_neg nbs1]; exact ⟨_, h, tr, rfl, rt, ⟨rfl, rfl⟩, RC.rf c _⟩
  | some i =>
    obtain ⟨hi, rfl⟩ := vi_some hy
    have tt := c.2.1.1.tt hi
    rw [if_pos (nbs0 i), c.2.1.1.g0 8 20 (by decide), c.2.1.1.tray hi]
    rw [show (some i).bind tr = tr i from rfl]
    cases hq : tr i with
    | none =>
      rw [cV_n tt.1 (cc_miss1 F rt c.2.1.1 hi hq), if_neg (by decide)]
      exact ⟨_, h, tr, rfl, rt, ⟨rfl, rfl⟩, RC.rf c _⟩
    | some q =>
      have ty := rt.ty c.2.1.1 hi hq
      rw [cV_n tt.1 (cc_miss0 F ty), if_pos rfl]
      rw [cc_sets F c.2.1 z w (fun h => some (-3, h)) (fun h13 => cV 12 h13 x (f_X11_endOfComing F x z w h13) fun v15 h16 => if 0 ≤ v15 then (gI 10 h16 (x + (38 + 2 * i)) 0 fun v18 => gR 12 h16 x 11 fun v19 => cV 8 h16 v19 (f_X7_stepsTo F v19 v15 h16) fun v20 h21 => bd (f_J9_min_7cf53 F v18 v20 h21) fun v22 h23 => f_X11_lists_87 F F x (x + (38 + 2 * i)) v15 v22 0 h23) else (some ((-5), h16)))]
      dsimp only
      cases hg : gsets (hs a) z w with
      | none => exact ⟨_, h, tr, rfl, rt, ⟨rfl, rfl⟩, RC.rf c _⟩
      | some g =>
        obtain ⟨rfl, rfl, q1, q2⟩ := gsets_some c.2.1.hc.d6 hg
        obtain ⟨v, h2, P, S, L, u, p, kk, n, o, ow', T', e2, sc, gp, cv, oe, fo, bu⟩ := cc_endOfComing F hF c q1 q2
        have rt2 : CTR h2 x tr := rt.fo c.1 fo (by decide)
        have nL := sc.nL
        dsimp only
        rw [cV_n c.2.1.1.t0 e2]
        rcases gp with ⟨rfl, g2⟩ | ⟨e, rfl, e1, g2, g3⟩
        · rw [if_neg (by decide)]
          exact ⟨_, h2, tr, rfl, rt2, Or.inl ⟨SD_none g2, rfl, rfl⟩, ow', T', cv, oe, fo.mono (by decide), bu⟩
        · have lw := sc.bq.lw c.2.1.hc.2.1 c.2.1.ok e1 g3 g2
          have l24 := sc.bq.len24 c.2.1.hc.2.1 e1
          obtain ⟨tc, r1, r2, r3, r4, r5, r6, r7⟩ := rt2.ty cv.2.1.1 hi hq
          obtain ⟨h3, e3, t3, c3, f3, s3⟩ := cc_lists_r F hF (N := min q.2.1 (Pp p kk e).length) hi hq e1 (by omega) (by omega) lw.lt9 (min q.2.1 (Pp p kk e).length) 0 F h2 cv sc (by rw [trM_0]; exact rt2) (by omega) (by omega)
          rw [if_pos (nI_pos' (by omega)), gI_n r1, r5, cv.2.1.1.g0 11 23 (by decide), cV_n sc.ss.t (cc_stepsTo F (by omega) sc e1), bd_n (jmin F (by omega) (by omega) h2), show f_X11_lists_87 F F x (x + (38 + 2 * i)) (nI e) (nI (min q.2.1 (Pp p kk e).length)) 0 h2 = _ from e3]
          refine ⟨_, h3, _, rfl, t3, Or.inr ⟨(Pp p kk e).reverse, by rw [List.length_reverse]; omega, lw, by rw [List.length_reverse, Nat.min_comm], ?_⟩, ow', T', c3, oe, FO.tr (fo.mono (by decide)) oe (f3.mono (by decide)), bu.tr (BU.sh s3)⟩
          rw [show (nI i).toInt.toNat = i by rw [nI_toInt (by omega)]; rfl, List.length_reverse, Nat.min_comm]
