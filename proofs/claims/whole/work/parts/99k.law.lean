/-! L3, the two readers: a law's line -/
theorem LPc.app {may : Nat} {ls : List Nat} {q : Nat × List Nat} (c : LPc may ls q) (l : List Nat) : LPc may (ls ++ l) q := by
  refine ⟨c.1, Nat.le_trans c.2.1 (by rw [List.length_append]; omega), fun j hj => ?_⟩
  have := c.2.1
  rw [← c.2.2 j hj, List.getD_eq_getElem?_getD, List.getD_eq_getElem?_getD, List.getElem?_append_left (by omega)]
theorem LPc.new {may : Nat} {ls l : List Nat} (k : LK may l) : LPc may (ls ++ l) (ls.length, l) := by
  refine ⟨k, by rw [List.length_append]; exact Nat.le_refl _, fun j hj => ?_⟩
  show (ls ++ l).getD (ls.length + j) 0 = l.getD j 0
  rw [List.getD_eq_getElem?_getD, List.getD_eq_getElem?_getD, List.getElem?_append_right (by omega), show ls.length + j - ls.length = j by omega]
theorem Sem.ne {may k : Nat} {T : Prop} {l : List Nat} (h : Sem may k T l) (hk : k ≤ 100) : l ≠ [] := fun e => by
  have wb : WB (fun _ => 0) := fun _ => (by decide : -1000000 ≤ (0 : Int) ∧ (0 : Int) ≤ 1000000)
  obtain ⟨v, v1, -⟩ := h (fun _ => 0) (fun _ => 0) [] wb wb (fun _ => Or.inr rfl) (by simpa using hk)
  rw [e] at v1
  have v1 : some ([] : List Int) = some [v] := v1
  injection v1 with v1
  injection v1
theorem pZ_n {α : Type} {t a k : Nat} {h : Hp} {v : Int32} (ht : hp_t h a = t) (hv : v = 0 ∨ v = 1) (K : Hp → Option α) : pZ t h a k v K = K (hp_sI h a k v) := by
  unfold pZ
  rw [gd_t ⟨ht, hv⟩]
section law
variable {F x m n a : Nat} {tp : Nat → Nat}
theorem L_comes (hF : 2000 ≤ F) {A : Nat} {ls : List Nat} {D : DR} (z : tK tp n A = 9) (ok : Dok ls D) (pk : Pok n tp (.inl (A, ls))) (n9 : n ≤ 900) (tl : ∀ j, j < n → tp j < 256) (cb : ls.length ≤ A) : LB x m n a tp (fun h => f_X5_lawLine F (x + 9) h) (fun g => f_X12_readLaw F m (nI 0) g) A ls D := by
  obtain ⟨⟨l0, fx, d⟩, k, nn, bb, so, qc, qm⟩ := D
  obtain ⟨⟨o1, o1'⟩, o2, o3, o4, o5, o8, o9⟩ := ok
  have hA := tK_lt (show tK tp n A ≠ 24 by rw [z]; decide)
  obtain ⟨p1, q1, c1, a1⟩ := nx_ok pk
  have a1 := a1 hA
  obtain ⟨p2, q2, c2⟩ := tkn_ok (K := 31) p1
  obtain ⟨σ3, p3, q3, o3', wc, wm⟩ := RG_S (F := F) (x := x) (m := m) (may := 0) hF n9 (by decide) tl ((PM_cls 0).both (Val_cls 0)) (tkn tp n 31 (nx tp n A ls)) p2 ((q1.tr q2).cb cb)
  have qq := (q1.tr q2).tr q3
  -- the class goes there
  have cl : ∀ h0 h, DJ x n tp a h0 h (.inl (A, ls)) ((l0, fx, d), k, nn, bb, so, qc, qm) → ∃ h7 h13, f_X5_lawLine F (x + 9) h = some ((), hp_sI (hp_sI h13 (x + 11) 2 (hp_I h7 (x + 11) 1)) (x + 11) 3 (hp_I h13 (x + 11) 1)) ∧ DX x n tp a h0 h7 (tkn tp n 31 (nx tp n A ls)) ∧ DX x n tp a h0 h13 σ3 ∧ CD h13 x a ((l0, fx, d), k, nn, bb, so, qc, qm) := fun h0 h ⟨c, cd⟩ => by
    have cd := cd A ls rfl
    have x3 := c.w10 (0 : Int32)
    have cd3 : CD (hp_sI h (x + 9) 10 (0 : Int32)) x a ((l0, fx, d), k, nn, bb, so, qc, qm) := cd.cg (fun j hj => sI_ne _ _ _ (c.2.1.2.1 j 9 hj (by decide) (by decide))) (fun j _ => by rw [sI_ne _ _ _ (by omega)])
    obtain ⟨h5, e5, d5⟩ := C_adv F hF x3.1 pk
    obtain ⟨x5, i5, j5, y5⟩ := x3.st d5
    obtain ⟨h7, e7, d7⟩ := C_take F hF (K := 31) (by decide) x5.1 p1
    obtain ⟨x7, i7, j7, y7⟩ := x5.st d7
    have f10 : hp_I h7 (x + 9) 10 = nI 0 := by rw [y7, y5, sI_at, if_pos rfl]; rfl
    obtain ⟨h13, e13, d13⟩ := wc h7 h7 f10 x7.1
    obtain ⟨x13, i13, j13, -⟩ := x7.st d13
    have cd13 := ((cd3.cg i5 j5).cg i7 j7).cg i13 j13
    rw [ctk_d.2.2.2.2.1] at e7
    refine ⟨h7, h13, ?_, x7, x13, cd13⟩
    have t13 : hp_t h13 (x + 11) = 4 := x13.1.1.t 11 4 (by decide)
    have es : f_X3_setComes F (x + 11) (hp_I h7 (x + 11) 1) h13 = some ((), hp_sI (hp_sI h13 (x + 11) 2 (hp_I h7 (x + 11) 1)) (x + 11) 3 (hp_I h13 (x + 11) 1)) := by
      unfold f_X3_setComes
      rw [pI_n t13, gI_n (show hp_t (hp_sI h13 (x + 11) 2 (hp_I h7 (x + 11) 1)) (x + 11) = 4 from t13), sI_at, if_neg (by decide), pI_n (show hp_t (hp_sI h13 (x + 11) 2 (hp_I h7 (x + 11) 1)) (x + 11) = 4 from t13)]
    unfold f_X5_lawLine f_X5_lawLine_16
    rw [gI_n c.tg, if_neg (show ¬ hp_I h (x + 9) 6 = 206 by rw [(C_is c.1 (K := 9) rfl).mpr z, ctk_l.2.2.2.2.1]; decide)]
    rw [pZ_n c.tg (by decide), cV_n x3.tg e5, cV_n x5.tg e7, x7.1.1.g 6 9 9 11 (by decide), gI_n (x7.1.1.t 11 4 (by decide)), gI_n x7.tg, f10, if_pos (show nI 0 = 0 from rfl), cV_n x7.tg (show f_X5_sum F (x + 9) 0 h7 = _ from e13), x13.1.1.g 6 9 9 11 (by decide), cV_n t13 es]
  -- the reference goes there
  have ml : ∀ g0 g, EJ m n tp g0 g (.inl (A, ls)) ((l0, fx, d), k, nn, bb, so, qc, qm) → ∃ g2 g4, f_X12_readLaw F m (nI 0) g = (if hp_I g4 m 11 = 0 then some ((), hp_sI (hp_sI (hp_sI g4 (m + 4) 3 1) (m + 4) 5 (hp_I g2 (m + 4) 143)) (m + 4) 7 (hp_I g4 (m + 4) 143 - hp_I g2 (m + 4) 143)) else some ((), g4)) ∧ EXr m n tp g0 g2 (tkn tp n 31 (nx tp n A ls)) ∧ EXr m n tp g0 g4 σ3 ∧ MD (hp_I g4 (m + 4)) ((l0, fx, d), k, nn, bb, so, qc, qm) := fun g0 g ⟨c, cd⟩ => by
    have cd := cd A ls rfl
    obtain ⟨g1, e1, d1⟩ := M_adv F hF c.1 pk
    obtain ⟨x1, i1, j1, -⟩ := c.st d1
    obtain ⟨g2, d2, e2⟩ := M_take2 F hF (K := 31) (by decide) x1.1 p1
    obtain ⟨x2, i2, j2, -⟩ := x1.st d2
    have x3 := x2.w15 (nI 0)
    have f15 : hp_I (hp_sI g2 m 15 (nI 0)) m 15 = nI 0 := by rw [sI_at, if_pos rfl]
    have i3 : hp_I (hp_sI g2 m 15 (nI 0)) (m + 4) = hp_I g2 (m + 4) := sI_ne _ _ _ (by omega)
    obtain ⟨g4, e4, d4⟩ := wm _ _ f15 x3.1
    obtain ⟨x4, i4, j4, -⟩ := x3.st d4
    have cd4 : MD (hp_I g4 (m + 4)) ((l0, fx, d), k, nn, bb, so, qc, qm) := ((cd.cg i1).cg i2).cg (fun j hj => by rw [i4 j hj, i3])
    refine ⟨g2, g4, ?_, x2, x4, cd4⟩
    unfold f_X12_readLaw f_X12_readLaw_18
    rw [cV_n c.tg e1]
    refine (e2 _).trans ?_
    rw [x2.rd 143 (i := 143) rfl (by decide), pI_n x2.tg, if_pos (show nI 0 = 0 from rfl), cV_n x3.tg (show f_X12_readSum F m 0 (hp_sI g2 m 15 (nI 0)) = _ from e4)]
    unfold f_X12_readLaw_49
    have y1 := x4.w (show 3 < 143 by decide) 1
    have y2 := y1.w (show 5 < 143 by decide) (hp_I g2 (m + 4) 143)
    rw [gI_n x4.tg]
    by_cases u : hp_I g4 m 11 = 0
    · rw [if_pos u, if_pos u, x4.pt 3 (i := 3 + nI 0) (by decide) (by decide), y1.pt 5 (i := 5 + nI 0) (by decide) (by decide), y2.S.g 4 4 (by decide) rfl, y2.rd 143 (i := 143) rfl (by decide), sI_at, if_neg (by decide), sI_at, if_neg (by decide), y2.S.w 4 7 (i := 7 + nI 0) (by decide) (by decide) (by decide)]
    · rw [if_neg u, if_neg u]
  have mEX : ∀ (g0 g4 : Hp) (v w : Int32), EXr m n tp g0 g4 σ3 → EXr m n tp g0 (hp_sI (hp_sI (hp_sI g4 (m + 4) 3 1) (m + 4) 5 v) (m + 4) 7 w) σ3 := fun g0 g4 v w c => ((c.w (by decide) _).w (by decide) _).w (by decide) _
  match σ3, p3, o3', qq, cl, ml, mEX with
  | .inr b, p3, _, qq, cl, ml, mEX =>
    refine ⟨.inr b, ((l0, fx, d), k, nn, bb, so, qc, qm), p3, qq, fun A' ls' e => by (injection e), fun h0 h c => ?_, fun g0 g c => ?_⟩
    · obtain ⟨h7, h13, e, -, x13, -⟩ := cl h0 h c
      exact ⟨_, e, (x13.w11 (by decide) _).w11 (by decide) _, fun A' ls' e => by (injection e)⟩
    · obtain ⟨g2, g4, e, -, x4, -⟩ := ml g0 g c
      by_cases u : hp_I g4 m 11 = 0
      · rw [if_pos u] at e
        exact ⟨_, e, mEX _ _ _ _ x4, fun A' ls' e => by (injection e)⟩
      · rw [if_neg u] at e
        exact ⟨_, e, x4, fun A' ls' e => by (injection e)⟩
  | .inl (A3, ls3), p3, o3', qq, cl, ml, mEX =>
    have sg : ∃ A2, tkn tp n 31 (nx tp n A ls) = .inl (A2, ls) := by
      match hs : tkn tp n 31 (nx tp n A ls) with
      | .inr b => have := o3'.1 b hs; injection this
      | .inl (A2, ls2) =>
        obtain ⟨A1, e1, -⟩ := tkn_inl hs
        rw [nx_ls e1]
        exact ⟨A2, rfl⟩
    obtain ⟨A2, s2⟩ := sg
    rcases o3'.2 A2 ls s2 with ⟨A', l, e3, lt3, qp, ql⟩ | ⟨b, e3⟩
    · injection e3 with e3
      injection e3 with e3a e3b
      subst e3a e3b
      have lk : LK 0 l := Or.inr ⟨Sem.mono qp (by decide) (by decide), ql⟩
      have ne : l ≠ [] := Sem.ne qp (by decide)
      have lb : (ls ++ l).length ≤ n := by
        have h1 := qq.2
        have h2 := p3.1
        have h1 : (ls ++ l).length + A ≤ ls.length + A3 := h1
        have h2 : A3 ≤ n := h2
        omega
      have ll : (ls ++ l).length = ls.length + l.length := List.length_append
      refine ⟨.inl (A3, ls ++ l), ((l0, fx, d), k, nn, bb, so, (ls.length, l), qm), p3, qq, fun A' ls' e => ?_, fun h0 h c => ?_, fun g0 g c => ?_⟩
      · injection e with e
        injection e with ea eb
        subst ea eb
        refine ⟨⟨⟨o1, o1'⟩, o2, o3, o4, o5, LPc.new lk, o9.app l⟩, rfl, ?_⟩
        have h1 := q2.1
        rw [s2] at h1
        have h1 : plc (nx tp n A ls) ≤ A2 := h1
        omega
      · obtain ⟨h7, h13, e, x7, x13, cd⟩ := cl h0 h c
        have x7' := x7.1.2.2.2
        rw [s2] at x7'
        have l7 : hp_I h7 (x + 11) 1 = nI ls.length := x7'.2.1
        have l13 : hp_I h13 (x + 11) 1 = nI (ls ++ l).length := x13.1.2.2.2.2.1
        rw [l7, l13] at e
        refine ⟨_, e, (x13.w11 (by decide) _).w11 (by decide) _, fun _ _ _ => ?_⟩
        obtain ⟨u0, u1, u2, u3, u4, ⟨u5, u6⟩, u7, u8⟩ := cd
        have ea : ∀ j, j < 6 → hp_I (hp_sI (hp_sI h13 (x + 11) 2 (nI ls.length)) (x + 11) 3 (nI (ls ++ l).length)) (a + j) = hp_I h13 (a + j) := fun j hj => by
          have := x13.2.1.2.1 j 11 hj (by decide) (by decide)
          rw [sI_ne _ _ _ this, sI_ne _ _ _ this]
        have ea0 : hp_I (hp_sI (hp_sI h13 (x + 11) 2 (nI ls.length)) (x + 11) 3 (nI (ls ++ l).length)) a = hp_I h13 a := ea 0 (by decide)
        have en : ∀ j, j ≠ 2 → j ≠ 3 → hp_I (hp_sI (hp_sI h13 (x + 11) 2 (nI ls.length)) (x + 11) 3 (nI (ls ++ l).length)) (x + 11) j = hp_I h13 (x + 11) j := fun j h1 h2 => by rw [sI_at, if_neg h2, sI_at, if_neg h1]
        have e2 : hp_I (hp_sI (hp_sI h13 (x + 11) 2 (nI ls.length)) (x + 11) 3 (nI (ls ++ l).length)) (x + 11) 2 = nI ls.length := by rw [sI_at, if_neg (by decide), sI_at, if_pos rfl]
        have e3 : hp_I (hp_sI (hp_sI h13 (x + 11) 2 (nI ls.length)) (x + 11) 3 (nI (ls ++ l).length)) (x + 11) 3 = nI (ls.length + l.length) := by rw [sI_at, if_pos rfl, ll]
        exact ⟨by rw [ea0]; exact u0, by rw [ea 1 (by decide)]; exact u1, by rw [ea 2 (by decide)]; exact u2, by rw [ea 3 (by decide)]; exact u3, by rw [ea0]; exact u4, ⟨e2, e3⟩, by rw [en 4 (by decide) (by decide)]; exact u7, by rw [en 5 (by decide) (by decide)]; exact u8⟩
      · obtain ⟨g2, g4, e, x2, x4, cd⟩ := ml g0 g c
        have x2' := x2.1.2.2
        rw [s2] at x2'
        have l2 : hp_I g2 (m + 4) 143 = nI ls.length := x2'.2.2.1
        have l4 : hp_I g4 (m + 4) 143 = nI (ls ++ l).length := x4.1.2.2.2.2.1
        rw [if_pos x4.1.f0, l2, l4, pk_sub (show ls.length ≤ (ls ++ l).length by omega), show (ls ++ l).length - ls.length = l.length by omega] at e
        refine ⟨_, e, mEX _ _ _ _ x4, fun _ _ _ => ?_⟩
        obtain ⟨⟨u0, u1, u1'⟩, u2, u3, u4, ⟨u5, u6, u7⟩, u8, u9⟩ := cd
        have en : ∀ j, j ≠ 3 → j ≠ 5 → j ≠ 7 → hp_I (hp_sI (hp_sI (hp_sI g4 (m + 4) 3 1) (m + 4) 5 (nI ls.length)) (m + 4) 7 (nI l.length)) (m + 4) j = hp_I g4 (m + 4) j := fun j h1 h2 h3 => by rw [sI_at, if_neg h3, sI_at, if_neg h2, sI_at, if_neg h1]
        have lw : MLw (hp_I (hp_sI (hp_sI (hp_sI g4 (m + 4) 3 1) (m + 4) 5 (nI ls.length)) (m + 4) 7 (nI l.length)) (m + 4)) 0 (ls.length, l) := ⟨fun y => absurd y ne, fun _ => ⟨by rw [sI_at, if_neg (by decide), sI_at, if_neg (by decide), sI_at, if_pos rfl], by rw [sI_at, if_neg (by decide), sI_at, if_pos rfl], by rw [sI_at, if_pos rfl]⟩⟩
        refine ⟨⟨by rw [en _ (by decide) (by decide) (by decide)]; exact u0, by rw [en _ (by decide) (by decide) (by decide)]; exact u1, by rw [en _ (by decide) (by decide) (by decide)]; exact u1'⟩, fun i hi => by rw [en _ (by omega) (by omega) (by omega)]; exact u2 i hi, fun d' f' hd hf => by rw [en _ (by omega) (by omega) (by omega)]; exact u3 d' f' hd hf, fun d' hd => by rw [en _ (by omega) (by omega) (by omega)]; exact u4 d' hd, ⟨fun k' hk' => by rw [en _ (by omega) (by omega) (by omega)]; exact u5 k' hk', by rw [en _ (by decide) (by decide) (by decide)]; exact u6, by rw [en _ (by decide) (by decide) (by decide)]; exact u7⟩, lw, ⟨fun y => by rw [en _ (by decide) (by decide) (by decide)]; exact u9.1 y, fun y => by rw [en _ (by decide) (by decide) (by decide), en _ (by decide) (by decide) (by decide), en _ (by decide) (by decide) (by decide)]; exact u9.2 y⟩⟩
    · injection e3
theorem L_may (hF : 2000 ≤ F) {A : Nat} {ls : List Nat} {D : DR} (z : tK tp n A = 10) (ok : Dok ls D) (pk : Pok n tp (.inl (A, ls))) (n9 : n ≤ 900) (tl : ∀ j, j < n → tp j < 256) (cb : ls.length ≤ A) : LB x m n a tp (fun h => f_X5_lawLine F (x + 9) h) (fun g => f_X12_readLaw F m (nI 1) g) A ls D := by
  obtain ⟨⟨l0, fx, d⟩, k, nn, bb, so, qc, qm⟩ := D
  obtain ⟨⟨o1, o1'⟩, o2, o3, o4, o5, o8, o9⟩ := ok
  have hA := tK_lt (show tK tp n A ≠ 24 by rw [z]; decide)
  obtain ⟨p1, q1, c1, a1⟩ := nx_ok pk
  have a1 := a1 hA
  obtain ⟨p2, q2, c2⟩ := tkn_ok (K := 31) p1
  obtain ⟨σ3, p3, q3, o3', wc, wm⟩ := RG_T (F := F) (x := x) (m := m) (may := 1) hF n9 (by decide) tl ((PM_cls 1).both (Val_cls 1)) (tkn tp n 31 (nx tp n A ls)) p2 ((q1.tr q2).cb cb)
  have qq := (q1.tr q2).tr q3
  -- the class goes there
  have cl : ∀ h0 h, DJ x n tp a h0 h (.inl (A, ls)) ((l0, fx, d), k, nn, bb, so, qc, qm) → ∃ h7 h13, f_X5_lawLine F (x + 9) h = some ((), hp_sI (hp_sI h13 (x + 11) 4 (hp_I h7 (x + 11) 1)) (x + 11) 5 (hp_I h13 (x + 11) 1)) ∧ DX x n tp a h0 h7 (tkn tp n 31 (nx tp n A ls)) ∧ DX x n tp a h0 h13 σ3 ∧ CD h13 x a ((l0, fx, d), k, nn, bb, so, qc, qm) := fun h0 h ⟨c, cd⟩ => by
    have cd := cd A ls rfl
    have x3 := c.w10 (1 : Int32)
    have cd3 : CD (hp_sI h (x + 9) 10 (1 : Int32)) x a ((l0, fx, d), k, nn, bb, so, qc, qm) := cd.cg (fun j hj => sI_ne _ _ _ (c.2.1.2.1 j 9 hj (by decide) (by decide))) (fun j _ => by rw [sI_ne _ _ _ (by omega)])
    obtain ⟨h5, e5, d5⟩ := C_adv F hF x3.1 pk
    obtain ⟨x5, i5, j5, y5⟩ := x3.st d5
    obtain ⟨h7, e7, d7⟩ := C_take F hF (K := 31) (by decide) x5.1 p1
    obtain ⟨x7, i7, j7, y7⟩ := x5.st d7
    have f10 : hp_I h7 (x + 9) 10 = nI 1 := by rw [y7, y5, sI_at, if_pos rfl]; rfl
    obtain ⟨h13, e13, d13⟩ := wc h7 h7 f10 x7.1
    obtain ⟨x13, i13, j13, -⟩ := x7.st d13
    have cd13 := ((cd3.cg i5 j5).cg i7 j7).cg i13 j13
    rw [ctk_d.2.2.2.2.1] at e7
    refine ⟨h7, h13, ?_, x7, x13, cd13⟩
    have t13 : hp_t h13 (x + 11) = 4 := x13.1.1.t 11 4 (by decide)
    have es : f_X3_setMay F (x + 11) (hp_I h7 (x + 11) 1) h13 = some ((), hp_sI (hp_sI h13 (x + 11) 4 (hp_I h7 (x + 11) 1)) (x + 11) 5 (hp_I h13 (x + 11) 1)) := by
      unfold f_X3_setMay
      rw [pI_n t13, gI_n (show hp_t (hp_sI h13 (x + 11) 4 (hp_I h7 (x + 11) 1)) (x + 11) = 4 from t13), sI_at, if_neg (by decide), pI_n (show hp_t (hp_sI h13 (x + 11) 4 (hp_I h7 (x + 11) 1)) (x + 11) = 4 from t13)]
    unfold f_X5_lawLine f_X5_lawLine_16
    rw [gI_n c.tg, if_pos (show hp_I h (x + 9) 6 = 206 by rw [(C_is c.1 (K := 10) rfl).mpr z]; exact ctk_l.2.2.2.2.2)]
    rw [pZ_n c.tg (by decide), cV_n x3.tg e5, cV_n x5.tg e7, x7.1.1.g 6 9 9 11 (by decide), gI_n (x7.1.1.t 11 4 (by decide)), gI_n x7.tg, f10, if_neg (show ¬ nI 1 = 0 by decide), cV_n x7.tg (show f_X5_truth F (x + 9) 0 h7 = _ from e13), x13.1.1.g 6 9 9 11 (by decide), cV_n t13 es]
  -- the reference goes there
  have ml : ∀ g0 g, EJ m n tp g0 g (.inl (A, ls)) ((l0, fx, d), k, nn, bb, so, qc, qm) → ∃ g2 g4, f_X12_readLaw F m (nI 1) g = (if hp_I g4 m 11 = 0 then some ((), hp_sI (hp_sI (hp_sI g4 (m + 4) 4 1) (m + 4) 6 (hp_I g2 (m + 4) 143)) (m + 4) 8 (hp_I g4 (m + 4) 143 - hp_I g2 (m + 4) 143)) else some ((), g4)) ∧ EXr m n tp g0 g2 (tkn tp n 31 (nx tp n A ls)) ∧ EXr m n tp g0 g4 σ3 ∧ MD (hp_I g4 (m + 4)) ((l0, fx, d), k, nn, bb, so, qc, qm) := fun g0 g ⟨c, cd⟩ => by
    have cd := cd A ls rfl
    obtain ⟨g1, e1, d1⟩ := M_adv F hF c.1 pk
    obtain ⟨x1, i1, j1, -⟩ := c.st d1
    obtain ⟨g2, d2, e2⟩ := M_take2 F hF (K := 31) (by decide) x1.1 p1
    obtain ⟨x2, i2, j2, -⟩ := x1.st d2
    have x3 := x2.w15 (nI 1)
    have f15 : hp_I (hp_sI g2 m 15 (nI 1)) m 15 = nI 1 := by rw [sI_at, if_pos rfl]
    have i3 : hp_I (hp_sI g2 m 15 (nI 1)) (m + 4) = hp_I g2 (m + 4) := sI_ne _ _ _ (by omega)
    obtain ⟨g4, e4, d4⟩ := wm _ _ f15 x3.1
    obtain ⟨x4, i4, j4, -⟩ := x3.st d4
    have cd4 : MD (hp_I g4 (m + 4)) ((l0, fx, d), k, nn, bb, so, qc, qm) := ((cd.cg i1).cg i2).cg (fun j hj => by rw [i4 j hj, i3])
    refine ⟨g2, g4, ?_, x2, x4, cd4⟩
    unfold f_X12_readLaw f_X12_readLaw_18
    rw [cV_n c.tg e1]
    refine (e2 _).trans ?_
    rw [x2.rd 143 (i := 143) rfl (by decide), pI_n x2.tg, if_neg (show ¬ nI 1 = 0 by decide), cV_n x3.tg (show f_X12_readTruth F m 0 (hp_sI g2 m 15 (nI 1)) = _ from e4)]
    unfold f_X12_readLaw_49
    have y1 := x4.w (show 4 < 143 by decide) 1
    have y2 := y1.w (show 6 < 143 by decide) (hp_I g2 (m + 4) 143)
    rw [gI_n x4.tg]
    by_cases u : hp_I g4 m 11 = 0
    · rw [if_pos u, if_pos u, x4.pt 4 (i := 3 + nI 1) (by decide) (by decide), y1.pt 6 (i := 5 + nI 1) (by decide) (by decide), y2.S.g 4 4 (by decide) rfl, y2.rd 143 (i := 143) rfl (by decide), sI_at, if_neg (by decide), sI_at, if_neg (by decide), y2.S.w 4 8 (i := 7 + nI 1) (by decide) (by decide) (by decide)]
    · rw [if_neg u, if_neg u]
  have mEX : ∀ (g0 g4 : Hp) (v w : Int32), EXr m n tp g0 g4 σ3 → EXr m n tp g0 (hp_sI (hp_sI (hp_sI g4 (m + 4) 4 1) (m + 4) 6 v) (m + 4) 8 w) σ3 := fun g0 g4 v w c => ((c.w (by decide) _).w (by decide) _).w (by decide) _
  match σ3, p3, o3', qq, cl, ml, mEX with
  | .inr b, p3, _, qq, cl, ml, mEX =>
    refine ⟨.inr b, ((l0, fx, d), k, nn, bb, so, qc, qm), p3, qq, fun A' ls' e => by (injection e), fun h0 h c => ?_, fun g0 g c => ?_⟩
    · obtain ⟨h7, h13, e, -, x13, -⟩ := cl h0 h c
      exact ⟨_, e, (x13.w11 (by decide) _).w11 (by decide) _, fun A' ls' e => by (injection e)⟩
    · obtain ⟨g2, g4, e, -, x4, -⟩ := ml g0 g c
      by_cases u : hp_I g4 m 11 = 0
      · rw [if_pos u] at e
        exact ⟨_, e, mEX _ _ _ _ x4, fun A' ls' e => by (injection e)⟩
      · rw [if_neg u] at e
        exact ⟨_, e, x4, fun A' ls' e => by (injection e)⟩
  | .inl (A3, ls3), p3, o3', qq, cl, ml, mEX =>
    have sg : ∃ A2, tkn tp n 31 (nx tp n A ls) = .inl (A2, ls) := by
      match hs : tkn tp n 31 (nx tp n A ls) with
      | .inr b => have := o3'.1 b hs; injection this
      | .inl (A2, ls2) =>
        obtain ⟨A1, e1, -⟩ := tkn_inl hs
        rw [nx_ls e1]
        exact ⟨A2, rfl⟩
    obtain ⟨A2, s2⟩ := sg
    rcases o3'.2 A2 ls s2 with ⟨A', l, e3, lt3, qp, ql⟩ | ⟨b, e3⟩
    · injection e3 with e3
      injection e3 with e3a e3b
      subst e3a e3b
      have lk : LK 1 l := Or.inr ⟨Sem.mono qp (by decide) (by decide), ql⟩
      have ne : l ≠ [] := Sem.ne qp (by decide)
      have lb : (ls ++ l).length ≤ n := by
        have h1 := qq.2
        have h2 := p3.1
        have h1 : (ls ++ l).length + A ≤ ls.length + A3 := h1
        have h2 : A3 ≤ n := h2
        omega
      have ll : (ls ++ l).length = ls.length + l.length := List.length_append
      refine ⟨.inl (A3, ls ++ l), ((l0, fx, d), k, nn, bb, so, qc, (ls.length, l)), p3, qq, fun A' ls' e => ?_, fun h0 h c => ?_, fun g0 g c => ?_⟩
      · injection e with e
        injection e with ea eb
        subst ea eb
        refine ⟨⟨⟨o1, o1'⟩, o2, o3, o4, o5, o8.app l, LPc.new lk⟩, rfl, ?_⟩
        have h1 := q2.1
        rw [s2] at h1
        have h1 : plc (nx tp n A ls) ≤ A2 := h1
        omega
      · obtain ⟨h7, h13, e, x7, x13, cd⟩ := cl h0 h c
        have x7' := x7.1.2.2.2
        rw [s2] at x7'
        have l7 : hp_I h7 (x + 11) 1 = nI ls.length := x7'.2.1
        have l13 : hp_I h13 (x + 11) 1 = nI (ls ++ l).length := x13.1.2.2.2.2.1
        rw [l7, l13] at e
        refine ⟨_, e, (x13.w11 (by decide) _).w11 (by decide) _, fun _ _ _ => ?_⟩
        obtain ⟨u0, u1, u2, u3, u4, ⟨u5, u6⟩, u7, u8⟩ := cd
        have ea : ∀ j, j < 6 → hp_I (hp_sI (hp_sI h13 (x + 11) 4 (nI ls.length)) (x + 11) 5 (nI (ls ++ l).length)) (a + j) = hp_I h13 (a + j) := fun j hj => by
          have := x13.2.1.2.1 j 11 hj (by decide) (by decide)
          rw [sI_ne _ _ _ this, sI_ne _ _ _ this]
        have ea0 : hp_I (hp_sI (hp_sI h13 (x + 11) 4 (nI ls.length)) (x + 11) 5 (nI (ls ++ l).length)) a = hp_I h13 a := ea 0 (by decide)
        have en : ∀ j, j ≠ 4 → j ≠ 5 → hp_I (hp_sI (hp_sI h13 (x + 11) 4 (nI ls.length)) (x + 11) 5 (nI (ls ++ l).length)) (x + 11) j = hp_I h13 (x + 11) j := fun j h1 h2 => by rw [sI_at, if_neg h2, sI_at, if_neg h1]
        have e2 : hp_I (hp_sI (hp_sI h13 (x + 11) 4 (nI ls.length)) (x + 11) 5 (nI (ls ++ l).length)) (x + 11) 4 = nI ls.length := by rw [sI_at, if_neg (by decide), sI_at, if_pos rfl]
        have e3 : hp_I (hp_sI (hp_sI h13 (x + 11) 4 (nI ls.length)) (x + 11) 5 (nI (ls ++ l).length)) (x + 11) 5 = nI (ls.length + l.length) := by rw [sI_at, if_pos rfl, ll]
        exact ⟨by rw [ea0]; exact u0, by rw [ea 1 (by decide)]; exact u1, by rw [ea 2 (by decide)]; exact u2, by rw [ea 3 (by decide)]; exact u3, by rw [ea0]; exact u4, ⟨by rw [en 2 (by decide) (by decide)]; exact u5, by rw [en 3 (by decide) (by decide)]; exact u6⟩, e2, e3⟩
      · obtain ⟨g2, g4, e, x2, x4, cd⟩ := ml g0 g c
        have x2' := x2.1.2.2
        rw [s2] at x2'
        have l2 : hp_I g2 (m + 4) 143 = nI ls.length := x2'.2.2.1
        have l4 : hp_I g4 (m + 4) 143 = nI (ls ++ l).length := x4.1.2.2.2.2.1
        rw [if_pos x4.1.f0, l2, l4, pk_sub (show ls.length ≤ (ls ++ l).length by omega), show (ls ++ l).length - ls.length = l.length by omega] at e
        refine ⟨_, e, mEX _ _ _ _ x4, fun _ _ _ => ?_⟩
        obtain ⟨⟨u0, u1, u1'⟩, u2, u3, u4, ⟨u5, u6, u7⟩, u8, u9⟩ := cd
        have en : ∀ j, j ≠ 4 → j ≠ 6 → j ≠ 8 → hp_I (hp_sI (hp_sI (hp_sI g4 (m + 4) 4 1) (m + 4) 6 (nI ls.length)) (m + 4) 8 (nI l.length)) (m + 4) j = hp_I g4 (m + 4) j := fun j h1 h2 h3 => by rw [sI_at, if_neg h3, sI_at, if_neg h2, sI_at, if_neg h1]
        have lw : MLw (hp_I (hp_sI (hp_sI (hp_sI g4 (m + 4) 4 1) (m + 4) 6 (nI ls.length)) (m + 4) 8 (nI l.length)) (m + 4)) 1 (ls.length, l) := ⟨fun y => absurd y ne, fun _ => ⟨by rw [sI_at, if_neg (by decide), sI_at, if_neg (by decide), sI_at, if_pos rfl], by rw [sI_at, if_neg (by decide), sI_at, if_pos rfl], by rw [sI_at, if_pos rfl]⟩⟩
        refine ⟨⟨by rw [en _ (by decide) (by decide) (by decide)]; exact u0, by rw [en _ (by decide) (by decide) (by decide)]; exact u1, by rw [en _ (by decide) (by decide) (by decide)]; exact u1'⟩, fun i hi => by rw [en _ (by omega) (by omega) (by omega)]; exact u2 i hi, fun d' f' hd hf => by rw [en _ (by omega) (by omega) (by omega)]; exact u3 d' f' hd hf, fun d' hd => by rw [en _ (by omega) (by omega) (by omega)]; exact u4 d' hd, ⟨fun k' hk' => by rw [en _ (by omega) (by omega) (by omega)]; exact u5 k' hk', by rw [en _ (by decide) (by decide) (by decide)]; exact u6, by rw [en _ (by decide) (by decide) (by decide)]; exact u7⟩, ⟨fun y => by rw [en _ (by decide) (by decide) (by decide)]; exact u8.1 y, fun y => by rw [en _ (by decide) (by decide) (by decide), en _ (by decide) (by decide) (by decide), en _ (by decide) (by decide) (by decide)]; exact u8.2 y⟩, lw⟩
    · injection e3
end law
