/-! L4: house, whole -/
theorem hs_take (F : Nat) {h : Hp} {x a' : Nat} (cs : CSH h x) (ta : hp_t h a' = 3) (n15 : a' ≠ x + 15) (n17 : a' ≠ x + 17) : ∃ h', (pR 12 h x 3 a' fun h20 => gR 12 h20 x 5 fun v21 => gI 3 h20 a' 4 fun v22 => pI 9 h20 v21 0 v22 fun h23 => gR 12 h23 x 5 fun v24 => gI 3 h23 a' 3 fun v25 => pI 9 h23 v24 1 v25 fun h26 => gR 12 h26 x 7 fun v27 => cV 5 h26 v27 (f_X4_clear F v27 h26) fun v28 h29 => gR 12 h29 x 3 fun v30 => gI 3 h29 v30 2 fun v31 => some (v31, h29)) = some (hp_I h a' 2, h') ∧ CSH h' x ∧ (hp_n h' = hp_n h ∧ hp_s h' = hp_s h) ∧ FW (fun y => y = x ∨ y = x + 15 ∨ y = x + 17) h h' ∧ hp_R h' x 3 = some a' ∧ hp_I h' x = hp_I h x ∧ (hp_I h' (x + 15) 0 = hp_I h a' 4 ∧ hp_I h' (x + 15) 1 = hp_I h a' 3) ∧ hp_I h' (x + 17) 0 = 0 := by
  have c1 : CSH (hp_sR h x 3 (some a')) x := cs.sR (k := 0) _ (by decide)
  have f1 : FW (fun y => y = x ∨ y = x + 15 ∨ y = x + 17) h (hp_sR h x 3 (some a')) := FW.sR (Or.inl rfl)
  obtain ⟨h20, d20⟩ : ∃ q, q = hp_sR h x 3 (some a') := ⟨_, rfl⟩
  rw [← d20] at c1 f1
  have i20 : hp_I h20 = hp_I h := by rw [d20, hp_I_sR]
  have r20 : hp_R h20 x 3 = some a' := by rw [d20, sR_at, if_pos rfl]
  have t20 : hp_t h20 = hp_t h := by rw [d20, hp_t_sR]
  have n20 : hp_n h20 = hp_n h ∧ hp_s h20 = hp_s h := by rw [d20, hp_n_sR, hp_s_sR]; exact ⟨rfl, rfl⟩
  have q1 : FQ (x + 15) h20 (hp_sI h20 (x + 15) 0 (hp_I h a' 4)) := FQ.sI
  have q2 : FQ (x + 15) (hp_sI h20 (x + 15) 0 (hp_I h a' 4)) (hp_sI (hp_sI h20 (x + 15) 0 (hp_I h a' 4)) (x + 15) 1 (hp_I h a' 3)) := FQ.sI
  obtain ⟨h26, d26⟩ : ∃ q, q = hp_sI (hp_sI h20 (x + 15) 0 (hp_I h a' 4)) (x + 15) 1 (hp_I h a' 3) := ⟨_, rfl⟩
  have q12 := q1.tr q2
  rw [← d26] at q12
  have c26 : CSH h26 x := c1.sh q12.1
  have t15 : hp_t h20 (x + 15) = 9 := c1.t 15 9 (by decide)
  have t17 : hp_t h26 (x + 17) = 5 := c26.t 17 5 (by decide)
  have q3 : FQ (x + 17) h26 (hp_sI h26 (x + 17) 0 0) := FQ.sI
  have c29 : CSH (hp_sI h26 (x + 17) 0 0) x := c26.sh q3.1
  have c1' : CSH (hp_sI h20 (x + 15) 0 (hp_I h a' 4)) x := c1.sh q1.1
  have fw : ∀ {g g' : Hp} {q : Nat}, FQ q g g' → FW (fun y => y = q) g g' := fun f => ⟨Nat.le_of_eq f.1.2.2.2.1.symm, f.1.2.2.2.2.2, fun y _ => ⟨⟨by rw [f.1.1], by rw [f.1.2.1]⟩, fun hn => ⟨f.2.2 y hn, by rw [f.2.1], by rw [f.1.2.2.1]⟩⟩⟩
  refine ⟨hp_sI h26 (x + 17) 0 0, ?_, c29, ⟨by rw [q3.1.2.2.2.1, q12.1.2.2.2.1]; exact n20.1, by rw [q3.1.2.2.2.2.1, q12.1.2.2.2.2.1]; exact n20.2⟩, (f1.tr (fw q12) (fun y _ e => Or.inr (Or.inl e))).tr (fw q3) (fun y _ e => Or.inr (Or.inr e)), ?_, ?_, ⟨?_, ?_⟩, ?_⟩
  · have ecl : f_X4_clear F (x + 17) h26 = some ((), hp_sI h26 (x + 17) 0 0) := by
      unfold f_X4_clear
      rw [pI_n t17]
    have ta20 : hp_t h20 a' = 3 := by rw [t20]; exact ta
    have ta23 : hp_t (hp_sI h20 (x + 15) 0 (hp_I h a' 4)) a' = 3 := by rw [hp_t_sI]; exact ta20
    have r29 : hp_R (hp_sI h26 (x + 17) 0 0) x 3 = some a' := by rw [q3.1.2.2.1, q12.1.2.2.1]; exact r20
    have ta29 : hp_t (hp_sI h26 (x + 17) 0 0) a' = 3 := by rw [q3.1.1, q12.1.1]; exact ta20
    rw [pR_n cs.t0, ← d20, c1.g0 5 15 (by decide), gI_n ta20, i20, pI_n t15, c1'.g0 5 15 (by decide), gI_n ta23, sI_ne _ _ _ n15, i20, pI_n (by rw [hp_t_sI]; exact t15), ← d26, c26.g0 7 17 (by decide), cV_n t17 ecl, gR_n c29.t0 r29, gI_n ta29, sI_ne _ _ _ n17, q12.2.2 a' n15, i20]
  · rw [q3.1.2.2.1, q12.1.2.2.1]; exact r20
  · rw [q3.2.2 x (by omega), q12.2.2 x (by omega), i20]
  · rw [q3.2.2 _ (by omega), d26, sI_at, if_neg (by decide), sI_at, if_pos rfl]
  · rw [q3.2.2 _ (by omega), d26, sI_at, if_pos rfl]
  · rw [sI_at, if_pos rfl]
theorem FDc.fw {x a : Nat} {h h' : Hp} (f : FDc x a h h') : FW (fun y => (∃ k, k ∈ [9, 11, 12] ∧ y = x + k) ∨ ∃ k, k < 4 ∧ y = a + k) h h' := ⟨Nat.le_of_eq f.1.2.2.2.1.symm, f.1.2.2.2.2.2, fun y _ => ⟨⟨by rw [f.1.1], by rw [f.1.2.1]⟩, fun hn => by
  have := f.2 y (fun k hk e => hn (Or.inl ⟨k, hk, e⟩)) (fun k hk e => hn (Or.inr ⟨k, hk, e⟩))
  exact ⟨this.1, this.2, by rw [f.1.2.2.1]⟩⟩⟩
/-- owners of what the reader writes -/
theorem rd_ow {h : Hp} {x k : Nat} {ow : Nat → Nat} (ka : KA h x ow) {q : Nat} (hq : q ∈ [9, 11, 12, 13, 14]) : ow (x + q) ∈ [9, 11, 12, 13, 14, 100 + k] := by
  have hq' : q < 48 ∧ ct q ≠ 0 := by
    have : ∀ q ∈ [9, 11, 12, 13, 14], q < 48 ∧ ct q ≠ 0 := by decide
    exact this q hq
  rw [(ka.1 q hq'.1 hq'.2).1]
  exact List.mem_append_left [100 + k] hq
theorem hd_ow {ow : Nat → Nat} {a' k : Nat} (ho : ∀ j, j < 6 → ow (a' + j) = 100 + k) {j : Nat} (hj : j < 6) : ow (a' + j) ∈ [9, 11, 12, 13, 14, 100 + k] := by
  rw [ho j hj]
  exact List.mem_append_right [9, 11, 12, 13, 14] (List.mem_singleton.mpr rfl)
section house
variable {F x : Nat} {h : Hp} {ow : Nat → Nat} {hs : Nat → HM} {T P : Nat} {S : Stt}
/-- the reference's house, failed -/
theorem rh_fail {g0 g g' : Hp} {m n kf pf cf : Nat} {tp : Nat → Nat} {S : Stt} {D : DR} (ra : RA g0 m S) (ff : FF m [0, 5, 7, 8, 11] g0 g) (f5 : hp_I g m 5 = 0) (pk : Pok n tp (.inr (kf, pf, cf))) (ej : EJ m n tp g g' (.inr (kf, pf, cf)) D) (ne : hp_I g' m 11 ≠ 0) : ∃ g2, f_X12_house_97 F m g' = some (-30 - nI kf, g2) ∧ RO g0 m g2 (S.1, S.2.1, S.2.2.1, (0, S.2.2.2.1.2), S.2.2.2.2.1, (kf, nI pf)) := by
  obtain ⟨g2, e2, sh2, L2, I2, ⟨v13, v14, vk⟩⟩ := rh_bad (F := F) ej.1.S ne
  have w : hp_I g' m 11 = nI kf ∧ hp_I g' m 12 = nI pf := by
    rcases ej.1.1.2.2 with z | ⟨z, -⟩
    · exact z
    · exact absurd z ne
  obtain ⟨⟨⟨s, r2, r3, r4, r5, r6⟩, pa, pkk⟩, rt, rtp, ri, f1, f2⟩ := ra
  have sh : SH g0 g2 := (ff.1.1.tr ej.1.2.1).tr sh2
  have iy : ∀ y, y ≠ m → y ≠ m + 4 → hp_I g2 y = hp_I g0 y := fun y h1 h2 => by rw [I2 y h1, ej.1.2.2.2.1 y h1 h2, ff.1.2.2 y h1]
  have Ly : hp_L g2 = hp_L g0 := by rw [L2, ej.1.2.2.1, ff.1.2.1]
  have i1 := iy (m + 1) (by omega) (by omega)
  refine ⟨g2, by rw [e2, w.1], ⟨⟨⟨s.sh sh, r2, by rw [i1]; exact r3, by rw [i1]; exact r4, r5, r6⟩, by rw [i1]; exact pa, pkk⟩, rt.cg (iy _ (by omega) (by omega)) (iy _ (by omega) (by omega)) Ly, ⟨?_, Nat.zero_le _, fun j hj => absurd hj (Nat.not_lt_zero j)⟩, ri.cg (iy _ (by omega) (by omega)) (fun j _ => by rw [i1]), by rw [v13]; exact w.1, by rw [v14]; exact w.2⟩, sh, fun y hy => ⟨iy y (hy 0 (by decide)) (hy 4 (by decide)), by rw [Ly]⟩⟩
  rw [vk 5 (by decide) (by decide), ej.1.2.2.2.2 5 (by decide), f5]; rfl
/-- the reference's house, read -/
theorem rh_good (hF : 2000 ≤ F) {g0 g g' : Hp} {m n A : Nat} {ls : List Nat} {tp : Nat → Nat} {S : Stt} {D : DR} (ra : RA g0 m S) (ff : FF m [0, 5, 7, 8, 11] g0 g) (f5 : hp_I g m 5 = 0) (ej : EJ m n tp g g' (.inl (A, ls)) D) (ok : Dok ls D) (l9 : ls.length ≤ 900) (d9 : D.1.1 ≤ 900) : ∃ g2, f_X12_house_97 F m g' = some (nI D.1.1, g2) ∧ RO g0 m g2 ((hmD D, D.2.2.2.2.1.1, D.2.2.2.2.1.2), (0, S.2.1.2), S.2.2.1, (0, S.2.2.2.1.2), S.2.2.2.2.1, (0, -1)) := by
  obtain ⟨g2, e2, sh2, L2, I2, ⟨v13, v14, vk⟩, vj⟩ := rh_ok (F := F) hF ej.1.S ej.1.1.f0
  have md := ej.2 A ls rfl
  have mk : ∀ i, i < ls.length → hp_I g' (m + 4) (144 + i) = nI (ls.getD i 0) := ej.1.1.2.2.2.2.2
  obtain ⟨b1, b2, b3, b4, b5, b6⟩ := rh_blk md mk ok l9 d9
  obtain ⟨⟨⟨s, -⟩, -⟩, rt, rtp, ri, f1, f2⟩ := ra
  have sh : SH g0 g2 := (ff.1.1.tr ej.1.2.1).tr sh2
  have iy : ∀ y, y ≠ m → y ≠ m + 1 → y ≠ m + 4 → hp_I g2 y = hp_I g0 y := fun y h1 h2 h3 => by rw [I2 y h1 h2, ej.1.2.2.2.1 y h1 h3, ff.1.2.2 y h1]
  have Ly : hp_L g2 = hp_L g0 := by rw [L2, ej.1.2.2.1, ff.1.2.1]
  have ea : ∀ j, j < 1044 → hp_I g2 (m + 1) j = hp_I g' (m + 4) j := fun j hj => by rw [vj j, if_pos hj]
  refine ⟨g2, by rw [e2, md.1.1], ⟨⟨⟨s.sh sh, b1, b2.cg (fun j hj => ea j (by omega)), b3.cg (fun j hj => ea j (by omega)) b1.1, b4, b5⟩, ⟨by rw [ea 52 (by decide)]; exact b6, Nat.zero_le _, fun i hi => absurd hi (Nat.not_lt_zero i)⟩, fun i hi => absurd hi (Nat.not_lt_zero i)⟩, rt.cg (iy _ (by omega) (by omega) (by omega)) (iy _ (by omega) (by omega) (by omega)) Ly, ⟨?_, Nat.zero_le _, fun j hj => absurd hj (Nat.not_lt_zero j)⟩, ri.cg (iy _ (by omega) (by omega) (by omega)) (fun j hj => ?_), v13, v14⟩, sh, fun y hy => ⟨iy y (hy 0 (by decide)) (hy 1 (by decide)) (hy 4 (by decide)), by rw [Ly]⟩⟩
  · rw [vk 5 (by decide) (by decide), ej.1.2.2.2.2 5 (by decide), f5]; rfl
  · rw [vj j, if_neg (by omega), ej.1.2.2.2.1 _ (by omega) (by omega), ff.1.2.2 _ (by omega)]
theorem os_no {k : Nat} (hk : k < 4) : 300 ∉ [0, 23, 200, 201, 26, 202, 203, 2, 15, 17] ++ [9, 11, 12, 13, 14, 100 + k] ∧ 400 ∉ [0, 23, 200, 201, 26, 202, 203, 2, 15, 17] ++ [9, 11, 12, 13, 14, 100 + k] := by
  rcases (show k = 0 ∨ k = 1 ∨ k = 2 ∨ k = 3 by omega) with rfl | rfl | rfl | rfl <;> decide
theorem S_house (hF : 70000 ≤ F) (I : INV h x ow hs T P S) (y : Int32) : ∃ v h1 h2 ow' hs' T' P' S', f_X11_house F x y h = some (v, h1) ∧ f_X12_house F (x + 48) y h1 = some (v, h2) ∧ INV h2 x ow' hs' T' P' S' ∧ RMm T P h T' P' h2 ∧ KPt x h ow h1 h2 ow' := by
  have I' := I
  obtain ⟨ca, ra0, so⟩ := I'
  refine STEP_mk (fc := fun h => f_X11_house F x y h) (fm := fun h => f_X12_house F (x + 48) y h) I ?_
  have ctp : CTp h x S.2.2.2.1.1 S.2.2.2.1.2 ∧ hp_t h x = 12 ∧ KSo h ow := by
    obtain ⟨a, p, ⟨cv, -, -⟩, -, r2, -, -, -, r7, -⟩ := ca
    exact ⟨r2, cv.2.1.1.t0, r7⟩
  have tap9 := ctp.1.2.1
  cases hv : vb y 0 S.2.2.2.1.1 with
  | none =>
    have e1 : f_X11_house F x y h = some (-3, h) := by
      unfold f_X11_house
      rw [gI_n ctp.2.1, ctp.1.1]
      by_cases z : y < 0
      · rw [if_pos z]
      · rw [if_neg z]
        have nz : ¬ y ≤ nI S.2.2.2.1.1 := fun w => by
          have w1 := Int32.le_iff_toInt_le.mp w
          rw [nI_toInt (by omega)] at w1
          have z1 : ¬ y.toInt < (0 : Int32).toInt := fun q => z (Int32.lt_iff_toInt_lt.mpr q)
          have z0 : (0 : Int32).toInt = 0 := rfl
          unfold vb at hv
          have : ((0 : Nat) : Int) ≤ y.toInt ∧ y.toInt ≤ (S.2.2.2.1.1 : Int) := ⟨by rw [z0] at z1; omega, w1⟩
          rw [if_pos this] at hv
          injection hv
        rw [if_neg nz]
    refine ⟨-3, h, S, e1, CO.rf ca, so, fun ra => ?_⟩
    rcases rh_set F ra.1.1.1 ra.2.2.1 ctp.2.2.ks y with ⟨-, e2⟩ | ⟨n, g, z, -⟩
    · have ci : CI (x + 48) [0] h (hp_sI h (x + 48) 0 0) := CI.f0
      exact ⟨_, e2, (ci.j []).ro (by decide) (by decide) (ra.cj (ci.j []) (by decide) (by decide))⟩
    · rw [hv] at z; injection z
  | some n =>
    obtain ⟨-, n2, n3, -⟩ := vb_some hv
    have n3 : y = nI n := n3
    subst n3
    obtain ⟨a, a', k, h12, ow', P', p', hb, eh, ⟨st1, st2, st3⟩, oe, fo12, rm, e12⟩ := H_before F hF (n := n) (by omega) ca
    have hb' := hb
    obtain ⟨⟨cz, r3, hc, ho⟩, ⟨st, pac⟩, ctr, ⟨tpe, tz⟩, ci, ⟨po, ua⟩, ⟨kk, ea', nu⟩, ks, w5⟩ := hb'
    have P4 := po.1.2
    have hk4 : k < 4 := by omega
    have ow6 : ∀ j, j < 6 → ow' (a' + j) = 100 + k := fun j hj => by rw [ea']; exact ((po.2.1 k kk).2.2 j hj).1
    have ho' : HO h12 ow' a' := by rw [ea']; exact HO.ix po kk
    have ap : apt x a' := ho'.ap cz.1
    have cs12 := cz.2.1
    have n9 : n ≤ 900 := by omega
    have tl : ∀ j, j < n → S.2.2.2.1.2 j < 256 := fun j hj => (tpe j (by omega)).2
    have rin : RIn h12 x n S.2.2.2.1.2 a' := ⟨cs12, ks.ks, ⟨by rw [ea']; exact (po.2.1 k kk).2.1, ap⟩, fun j hj => tpe j (by omega), n9⟩
    obtain ⟨σ', D, pk, gi, wc, wm⟩ := READ (F := F) (x := x) (m := x + 48) (n := n) (a := a') (tp := S.2.2.2.1.2) (by omega) n9 tl
    obtain ⟨h9, h13, ⟨fw9, n9', s9'⟩, dj, er⟩ := wc h12 rin
    have f13 : FO [9, 11, 12, 13, 14, 100 + k] ow' h12 h13 := FW.tr (W := fun y => ow' y ∈ [9, 11, 12, 13, 14, 100 + k]) (fw9.mono (fun y _ e => by rw [e]; exact rd_ow cz.1 (by decide))) dj.1.2.2.fw (fun y _ z => by
      rcases z with ⟨q, q1, q2⟩ | ⟨q, q1, q2⟩
      · show ow' y ∈ _
        rw [q2]
        exact rd_ow cz.1 (by
          have : ∀ q ∈ [9, 11, 12], q ∈ [9, 11, 12, 13, 14] := by decide
          exact this q q1)
      · show ow' y ∈ _
        rw [q2]; exact hd_ow ow6 (by omega))
    have n13 : hp_n h13 = hp_n h12 ∧ hp_s h13 = hp_s h12 := ⟨by rw [dj.1.2.2.1.2.2.2.1, n9'], by rw [dj.1.2.2.1.2.2.2.2.1, s9']⟩
    have k13 := cz.1.1 13 (by decide) (by decide)
    have w13 : ∃ w, w < 10 ∧ hp_I h13 (x + 13) 5 = nI w := by
      have i9 := ((fw9.2.2 _ k13.2).2 (by omega)).1
      have := (dj.1.2.2.2 (x + 13) (fun q hq e => by
        have : ∀ q ∈ [9, 11, 12], q ≠ 13 := by decide
        exact this q hq (by omega)) (fun q hq e => ap q 13 (by omega) (by decide) (by decide) e.symm)).1
      rw [this, i9]; exact w5
    -- the reference, once it is set
    have refs : ∀ h1, RA h1 (x + 48) S → KS h1 → ∃ g, FF (x + 48) [0, 5, 7, 8, 11] h1 g ∧ hp_I g (x + 48) 5 = 0 ∧ MIn g (x + 48) n S.2.2.2.1.2 ∧ f_X12_house F (x + 48) (nI n) h1 = (gR 13 g (x + 48) 4 fun v10 => bd (f_X12_plain F v10 g) fun v11 h12 => cV 13 h12 (x + 48) (f_X12_next F (x + 48) h12) fun v13 h14 => cV 13 h14 (x + 48) (f_X12_eats F (x + 48) 0 h14) fun v15 h16 => if v15 = 0 then (cV 13 h16 (x + 48) (f_X12_fails F (x + 48) 2 h16) fun v18 h19 => f_X12_house_66 F (x + 48) h19) else (f_X12_house_66 F (x + 48) h16)) := fun h1 ra ks1 => by
      rcases rh_set F ra.1.1.1 ra.2.2.1 ks1 (nI n) with ⟨z, -⟩ | ⟨n', g, z, -, -, ff, g5, g8, g7, g11, ksg, e⟩
      · rw [hv] at z; injection z
      · have en : n' = n := by rw [hv] at z; injection z with z; exact z.symm
        subst en
        refine ⟨g, ff, g5, ⟨ra.1.1.1.sh ff.1.1, ksg, fun j hj => ⟨?_, tl j hj⟩, n9, g8, g7, g11⟩, e⟩
        rw [ff.1.2.2 _ (by omega)]
        exact ra.2.2.1.2.2 j (by omega)
    match hσ : σ', pk, gi, dj, er, wm with
    | .inr (kf, pf, cf), pk, gi, dj, er, wm =>
      have er2 : f_X5_reads F (x + 9) (x + 1) (nI n) a' h12 = some (0, h13) := er.trans (rd_bad dj.1 pk)
      have hb13 := hb.fo (hs' := hs) f13 dj.1.1.1 dj.1.2.1.1 (fun _ _ => rfl) w13
      obtain ⟨⟨cz3, r33, hc3, ho3⟩, ⟨st33, pac3⟩, ctr3, ⟨tpe3, tz3⟩, ci3, ⟨po3, ua3⟩, -, ks3, w53⟩ := hb13
      have cb : CB h13 x a (hs a) S.1.2.1 S.1.2.2 := ⟨cz3.2.1, r33, hc3, st33, st1, st2, ho3.ap cz3.1⟩
      have fl := dj.1.1.2.2.2
      have e1 : f_X11_house F x (nI n) h = some (-30 - nI kf, h13) := by
        rw [e12, cs12.g0 4 9 (by decide), cs12.g0 0 1 (by decide), cV_n (cs12.t 9 6 (by decide)) er2, if_pos rfl, cz3.2.1.g0 4 9 (by decide), gI_n dj.1.tg, fl.1]
      refine ⟨_, h13, (S.1, S.2.1, S.2.2.1, (0, S.2.2.2.1.2), S.2.2.2.2.1, (kf, nI pf)), e1, ⟨ow', hs, T, P', [0, 23, 200, 201, 26, 202, 203, 2, 15, 17] ++ [9, 11, 12, 13, 14, 100 + k], ⟨a, p', ⟨cz3.cv cb ho3, eh, cb, pac3, st3⟩, ctr3, ⟨by rw [tz3]; rfl, Nat.zero_le _, fun j hj => absurd hj (Nat.not_lt_zero j)⟩, ci3, ⟨fl.1, fl.2.1⟩, ⟨po3, ua3⟩, ks3, w53⟩, oe, ?_, os_no hk4, ?_⟩, so, fun ra => ?_⟩
      · exact FO.tr (fo12.mono (fun o z => List.mem_append_left _ (by
          have : ∀ o ∈ [0, 23, 200, 201, 26, 202, 203, 2], o ∈ [0, 23, 200, 201, 26, 202, 203, 2, 15, 17] := by decide
          exact this o z))) oe (f13.mono (fun o z => List.mem_append_right _ z))
      · obtain ⟨q1, q2, q3, q4⟩ := rm
        exact ⟨by rw [n13.1]; exact q1, by rw [n13.2]; exact q2, q3, q4⟩
      · obtain ⟨g, ff, g5, mi, e⟩ := refs h13 ra ks3.ks
        obtain ⟨g', ej, ne, e97⟩ := wm g mi
        obtain ⟨g2, e2, ro⟩ := rh_fail (F := F) ra ff g5 pk ej (ne _ rfl)
        exact ⟨g2, (e.trans e97).trans e2, ro⟩
    | .inl (A, ls), pk, gi, dj, er, wm =>
      obtain ⟨ok, lA, dA⟩ := gi A ls rfl
      have An : A ≤ n := pk.1
      obtain ⟨h14, e14, sh14, fr14, hc14, w14⟩ := rd_end (F := F) (by omega) dj ok (by omega) (by omega) w13
      have f14 : FO [9, 11, 12, 13, 14, 100 + k] ow' h13 h14 := ⟨Nat.le_of_eq sh14.2.2.2.1.symm, sh14.2.2.2.2.2, fun y _ => ⟨⟨by rw [sh14.1], by rw [sh14.2.1]⟩, fun hn => by
        have hn : ¬ ow' y ∈ [9, 11, 12, 13, 14, 100 + k] := hn
        have := fr14 y (fun e => hn (by rw [e]; exact rd_ow cz.1 (by decide))) (fun e => hn (by rw [e]; exact rd_ow cz.1 (by decide))) (fun e => hn (by rw [e]; exact rd_ow cz.1 (by decide))) (fun e => hn (by rw [e]; exact hd_ow ow6 (by decide))) (fun e => hn (by rw [e]; exact hd_ow ow6 (by decide)))
        exact ⟨this.1, this.2, by rw [sh14.2.2.1]⟩⟩⟩
      have f24 : FO [9, 11, 12, 13, 14, 100 + k] ow' h12 h14 := f13.tr (OE.rf _ _) f14
      have cs14 : CSH h14 x := dj.1.1.1.sh sh14
      have hb14 := hb.fo (hs' := fun q => if q = a' then hmD D else hs q) f24 cs14 (dj.1.2.1.1.sh sh14) (fun q hq => if_neg hq) w14
      obtain ⟨⟨cz4, r34, hc4, ho4⟩, ⟨st34, pac4⟩, ctr4, ⟨tpe4, tz4⟩, ci4, ⟨po4, ua4⟩, ⟨kk4, -, -⟩, ks4, w54⟩ := hb14
      obtain ⟨h29, e29, cs29, ⟨n29, s29⟩, fw29, r29, i29, ⟨a0, a1⟩, z29⟩ := hs_take F cs14 hc14.t (ap 0 15 (by decide) (by decide) (by decide)) (ap 0 17 (by decide) (by decide) (by decide))
      have k0 := cz4.1.1 0 (by decide) (by decide)
      rw [Nat.add_zero] at k0
      have k15 := cz4.1.1 15 (by decide) (by decide)
      have k17 := cz4.1.1 17 (by decide) (by decide)
      have f29 : FO [0, 15, 17] ow' h14 h29 := fw29.mono (fun y _ z => by
        rcases z with z | z | z
        · rw [z, k0.1]; decide
        · rw [z, k15.1]; decide
        · rw [z, k17.1]; decide)
      have oe4 := OE.rf h14 ow'
      have ho4' : HO h14 ow' a' := by rw [ea']; exact HO.ix po4 kk4
      have cd := dj.2 A ls rfl
      have ia : hp_I h14 a' = hp_I h13 a' := (fr14 a' (ap 0 11 (by decide) (by decide) (by decide)) (ap 0 13 (by decide) (by decide) (by decide)) (ap 0 14 (by decide) (by decide) (by decide)) (by omega) (by omega)).1
      have i9 : hp_I h14 (x + 9) = hp_I h13 (x + 9) := (fr14 (x + 9) (by omega) (by omega) (by omega) (Ne.symm (ap 4 9 (by decide) (by decide) (by decide))) (Ne.symm (ap 5 9 (by decide) (by decide) (by decide)))).1
      have er2 : f_X5_reads F (x + 9) (x + 1) (nI n) a' h12 = some (1, h14) := er.trans e14
      have e1 : f_X11_house F x (nI n) h = some (nI D.1.1, h29) := by
        rw [e12, cs12.g0 4 9 (by decide), cs12.g0 0 1 (by decide), cV_n (cs12.t 9 6 (by decide)) er2, if_neg (show ¬ (1 : Int32) = 0 by decide)]
        refine e29.trans ?_
        rw [ia, cd.1.1]
      have hsa : (fun q => if q = a' then hmD D else hs q) a' = hmD D := if_pos rfl
      have st29 : ST h29 (x + 15) D.2.2.2.2.1.1 D.2.2.2.2.1.2 := ⟨cs29.t 15 9 (by decide), by rw [a0, ia]; exact cd.2.2.2.2.1.1, by rw [a1, ia]; exact cd.2.2.2.2.1.2⟩
      have cb : CB h29 x a' ((fun q => if q = a' then hmD D else hs q) a') D.2.2.2.2.1.1 D.2.2.2.2.1.2 := by
        rw [hsa]
        exact ⟨cs29, r29, hc14.fo ho4' f29 (by decide), st29, hmD_st ok, ok.2.2.2.2.1.2, ap⟩
      have cz29 := cz4.fo f29 oe4 cs29 (by decide)
      have ho29 := ho4'.oe oe4 f29.1
      have e9 := (cz4.1.I f29 (q := 9) (by decide) (by decide)).1
      have e13 := (cz4.1.I f29 (q := 13) (by decide) (by decide)).1
      have e21 := (cz4.1.I f29 (q := 21) (by decide) (by decide)).2.2
      have tk := dj.1.1.2.2.2.1
      refine ⟨_, h29, ((hmD D, D.2.2.2.2.1.1, D.2.2.2.2.1.2), (0, S.2.1.2), S.2.2.1, (0, S.2.2.2.1.2), S.2.2.2.2.1, (0, -1)), e1, ⟨ow', (fun q => if q = a' then hmD D else hs q), T, P', [0, 23, 200, 201, 26, 202, 203, 2, 15, 17] ++ [9, 11, 12, 13, 14, 100 + k], ⟨a', p', ⟨cz29.cv cb ho29, hsa, cb, ⟨by rw [z29]; rfl, Nat.zero_le _, fun i hi => absurd hi (Nat.not_lt_zero i)⟩, fun i hi => absurd hi (Nat.not_lt_zero i)⟩, ctr4.foA cz4.1 f29 (by decide), ⟨by rw [i29, tz4]; rfl, Nat.zero_le _, fun j hj => absurd hj (Nat.not_lt_zero j)⟩, ci4.fo cz4.1 f29 oe4 (by decide), ⟨by rw [e9, i9]; exact tk.1, by rw [e9, i9]; exact tk.2.2.2.2.2⟩, ⟨po4.fo cz4.1 f29 oe4 (by decide), fun q hq => ?_⟩, ks4.fo f29 oe4 (by decide), by rw [e13]; exact w54⟩, oe, ?_, os_no hk4, ?_⟩, ⟨hmD_n ok, so.2⟩, fun ra => ?_⟩
      · unfold inU at hq
        rw [e21] at hq
        rcases hq with z | z | z
        · exact ⟨k, kk4, by rw [← z]; exact ea'⟩
        · exact ua4 q (Or.inr (Or.inl z))
        · exact ua4 q (Or.inr (Or.inr z))
      · refine FO.tr (FO.tr (fo12.mono (fun o z => List.mem_append_left _ (by
          have : ∀ o ∈ [0, 23, 200, 201, 26, 202, 203, 2], o ∈ [0, 23, 200, 201, 26, 202, 203, 2, 15, 17] := by decide
          exact this o z))) oe (f24.mono (fun o z => List.mem_append_right _ z))) oe (f29.mono (fun o z => List.mem_append_left _ (by
          have : ∀ o ∈ [0, 15, 17], o ∈ [0, 23, 200, 201, 26, 202, 203, 2, 15, 17] := by decide
          exact this o z)))
      · obtain ⟨q1, q2, q3, q4⟩ := rm
        have n14 : hp_n h14 = hp_n h12 ∧ hp_s h14 = hp_s h12 := ⟨by rw [sh14.2.2.2.1, n13.1], by rw [sh14.2.2.2.2.1, n13.2]⟩
        exact ⟨by rw [n29, n14.1]; exact q1, by rw [s29, n14.2]; exact q2, q3, q4⟩
      · obtain ⟨g, ff, g5, mi, e⟩ := refs h29 ra (ks4.fo f29 oe4 (by decide)).ks
        obtain ⟨g', ej, -, e97⟩ := wm g mi
        obtain ⟨g2, e2, ro⟩ := rh_good (F := F) (by omega) ra ff g5 ej ok (by omega) (by omega)
        exact ⟨g2, (e.trans e97).trans e2, ro⟩
end house
