/-! L3, the two readers: a fact's line whole; a doing's line -/
section doing
variable {F x m n a : Nat} {tp : Nat → Nat}
theorem L_fact (hF : 2000 ≤ F) {A : Nat} {ls : List Nat} {D : DR} (z : tK tp n A = 1) (ok : Dok ls D) (pk : Pok n tp (.inl (A, ls))) (n9 : n ≤ 900) : LB x m n a tp (fun h => f_X5_factLine F (x + 9) h) (fun g => f_X12_readFact F m g) A ls D := by
  obtain ⟨⟨l, fx, d⟩, k, nn, bb, so, qc, qm⟩ := D
  obtain ⟨⟨o1, o1'⟩, o2, o3, o4, ⟨⟨o5, o6⟩, o7⟩, o8, o9⟩ := ok
  have o1 : fx ≤ 4 := o1
  have hA := tK_lt (show tK tp n A ≠ 24 by rw [z]; decide)
  by_cases f4 : fx < 4
  · obtain ⟨p1, q1, c1, a1⟩ := nx_ok pk
    have a1 := a1 hA
    have p1n := p1.1
    obtain ⟨σ', k', p2, q2, hk2, kp, w2, u2⟩ := fl_loop (F := F) (x := x) (m := m) (n := n) (a := a) (tp := tp) (l := l) (d := d) (nn := nn) (bb := bb) (so := so) (qc := qc) (qm := qm) hF f4 (n - plc (nx tp n A ls)) (nx tp n A ls) F F 0 k (Nat.le_refl _) (by omega) (by omega) (Nat.zero_le _) p1 o2
    refine ⟨σ', ((l, fx + 1, d), k', nn, bb, so, qc, qm), p2, q1.tr q2, fun A' ls' e => ?_, fun h0 h ⟨c, cd⟩ => ?_, fun g0 g ⟨c, cd⟩ => ?_⟩
    · obtain ⟨A1, e1⟩ := kp.2 A' ls' e
      have el := nx_ls e1
      subst el
      refine ⟨⟨⟨show fx + 1 ≤ 4 by omega, o1'⟩, hk2, o3, o4, ⟨⟨o5, fun t f ht hf hl => o6 t f ht hf (show fx ≤ f from Nat.le_of_succ_le hl)⟩, o7⟩, o8, o9⟩, rfl, ?_⟩
      have := q2.1
      rw [e] at this
      have : plc (nx tp n A ls') ≤ A' := this
      omega
    · obtain ⟨⟨u0, u1, u1'⟩, u2', u3, u4, ⟨u5, u6⟩, u7⟩ := cd A ls rfl
      have x1 := c.w0 0 (nI (fx + 1))
      have e0 : ∀ j, j ≠ 0 → hp_I (hp_sI h a 0 (nI (fx + 1))) a j = hp_I h a j := fun j hj => by rw [sI_at, if_neg hj]
      have ek : ∀ j, 0 < j → hp_I (hp_sI h a 0 (nI (fx + 1))) (a + j) = hp_I h (a + j) := fun j hj => sI_ne _ _ _ (by omega)
      have e11 : hp_I (hp_sI h a 0 (nI (fx + 1))) (x + 11) = hp_I h (x + 11) := sI_ne _ _ _ (Ne.symm (c.2.1.2.1 0 11 (by decide) (by decide) (by decide)))
      have cd1 : CD (hp_sI h a 0 (nI (fx + 1))) x a ((l, fx + 1, d), k, nn, bb, so, qc, qm) := ⟨⟨by rw [e0 _ (by decide)]; exact u0, by rw [sI_at, if_pos rfl], by rw [e0 _ (by decide)]; exact u1'⟩, by rw [ek 1 (by decide)]; exact u2', by rw [ek 2 (by decide)]; exact u3, by rw [ek 3 (by decide)]; exact u4, ⟨by rw [e0 _ (by decide)]; exact u5, by rw [e0 _ (by decide)]; exact u6⟩, by rw [e11]; exact u7⟩
      obtain ⟨h2, e2, d2⟩ := C_adv F hF x1.1 pk
      obtain ⟨x2, i2, j2, -⟩ := x1.st d2
      obtain ⟨h', e', c'⟩ := w2 h0 h2 ⟨x2, fun _ _ _ => cd1.cg i2 j2⟩
      refine ⟨h', ?_, c'⟩
      show f_X5_factLine F (x + 9) h = _
      unfold f_X5_factLine
      rw [c.g8, gI_n c.ta, u1, if_pos (show nI fx < 4 from nI_lt (b := 4) f4 (by decide)), c.g8, gI_n c.ta, c.g8, gI_n c.ta, u1, pI_n c.ta, nI_1, cV_n x1.tg e2]
      exact e'
    · obtain ⟨g2, e2, d2⟩ := M_adv F hF c.1 pk
      obtain ⟨x2, i2, j2, -⟩ := c.st d2
      obtain ⟨g', e', c'⟩ := u2 g0 g2 ⟨x2, fun _ _ _ => (cd A ls rfl).cg i2⟩
      refine ⟨g', ?_, c'⟩
      show f_X12_readFact F m g = _
      unfold f_X12_readFact f_X12_readFact_17
      rw [c.rd 1 (i := 1) rfl (by decide), (cd A ls rfl).1.2.1, if_neg (show ¬ nI fx = 4 from fun e => by have := nI_inj (b := 4) (by omega) (by decide) e; omega), gI_n c.tg, c.1.f0, if_pos rfl, cV_n c.tg e2]
      exact e'
  · obtain rfl : fx = 4 := by omega
    obtain ⟨p1, q1⟩ := flt_ok (k := 4) (by decide) pk
    refine ⟨flt 4 (.inl (A, ls)), ((l, 4, d), k, nn, bb, so, qc, qm), p1, q1, fun A' ls' e => by injection e, fun h0 h ⟨c, cd⟩ => ?_, fun g0 g ⟨c, cd⟩ => ?_⟩
    · obtain ⟨h2, e2, d2⟩ := C_fail F (k := 4) c.1 pk
      refine ⟨h2, ?_, (c.st d2).1, fun A' ls' e => by injection e⟩
      show f_X5_factLine F (x + 9) h = _
      unfold f_X5_factLine
      rw [c.g8, gI_n c.ta, (cd A ls rfl).1.2.1, if_neg (show ¬ nI 4 < 4 by decide), cV_n c.tg (show f_X5_fail F (x + 9) 4 h = _ from e2)]
    · obtain ⟨g2, e2, d2, ne⟩ := M_failk F 4 (by decide) c.1 pk
      refine ⟨g2, ?_, (c.st d2).1, fun A' ls' e => by injection e⟩
      show f_X12_readFact F m g = _
      unfold f_X12_readFact f_X12_readFact_17
      rw [c.rd 1 (i := 1) rfl (by decide), (cd A ls rfl).1.2.1, if_pos (show nI 4 = 4 from rfl), cV_n c.tg (show f_X12_fails F m 4 g = _ from e2), gI_n d2.tg, if_neg ne]
/-! what a needs or a but makes -/
def clb (b v : Nat) : Nat := b &&& (15 ^^^ 2 ^ v)
theorem clb_e : ∀ b, b < 16 → ∀ v, v < 4 → nI b &&& (((1 : Int32) <<< (nI v &&& 31)) ^^^ (-1)) = nI (clb b v) ∧ clb b v < 16 := by decide +kernel
theorem stb_e : ∀ b, b < 16 → ∀ v, v < 4 → nI b ||| ((1 : Int32) <<< (nI v &&& 31)) = nI (b ||| 2 ^ v) ∧ b ||| 2 ^ v < 16 := by decide +kernel
theorem hi_e : ∀ f, f < 5 → (nI f - 1).toInt = (f : Int) - 1 := by decide +kernel
def nn1 (nn : Nat → Nat → Nat) (d v w : Nat) : Nat → Nat → Nat := fun d' f' => if d' = d ∧ f' = v then w else nn d' f'
def bb1 (bb : Nat → Nat) (d v : Nat) : Nat → Nat := fun d' => if d' = d then v else bb d'
variable {l fx d : Nat} {k : Nat → Nat} {nn : Nat → Nat → Nat} {bb : Nat → Nat} {so : Nat × Nat} {qc qm : Nat × List Nat}
theorem CD.nb {h : Hp} {dd : Nat} (c : CD h x a ((l, fx, dd), k, nn, bb, so, qc, qm)) (ap : apt x a) {v w b : Nat} (hd : d < 6) (hv : v < 4) : CD (hp_sI (hp_sI h (a + 2) (4 * d + v) (nI w)) (a + 3) d (nI b)) x a ((l, fx, dd), k, nn1 nn d v w, bb1 bb d b, so, qc, qm) := by
  obtain ⟨c1, c2, c3, c4, c5, c6⟩ := c
  have e : ∀ y, y ≠ a + 2 → y ≠ a + 3 → hp_I (hp_sI (hp_sI h (a + 2) (4 * d + v) (nI w)) (a + 3) d (nI b)) y = hp_I h y := fun y h1 h2 => by rw [sI_ne _ _ _ h2, sI_ne _ _ _ h1]
  refine ⟨by rw [e a (by omega) (by omega)]; exact c1, by rw [e _ (by omega) (by omega)]; exact c2, fun d' f' h1 h2 => ?_, fun d' h1 => ?_, by rw [e a (by omega) (by omega)]; exact c5, by rw [e _ (Ne.symm (ap 2 11 (by decide) (by decide) (by decide))) (Ne.symm (ap 3 11 (by decide) (by decide) (by decide)))]; exact c6⟩
  · rw [sI_ne _ _ _ (by omega), sI_at]
    show _ = nI (if d' = d ∧ f' = v then w else nn d' f')
    by_cases y : d' = d ∧ f' = v
    · rw [if_pos y, if_pos (by omega)]
    · rw [if_neg y, if_neg (by omega)]; exact c3 d' f' h1 h2
  · rw [sI_at]
    show _ = nI (if d' = d then b else bb d')
    by_cases y : d' = d
    · rw [if_pos y, if_pos y]
    · rw [if_neg y, if_neg y, sI_ne _ _ _ (by omega)]; exact c4 d' h1
theorem MD.nb {g : Hp} {dd : Nat} (c : MD (hp_I g (m + 4)) ((l, fx, dd), k, nn, bb, so, qc, qm)) {v w b : Nat} (hd : d < 6) (hv : v < 4) : MD (hp_I (hp_sI (hp_sI g (m + 4) (13 + 4 * d + v) (nI w)) (m + 4) (37 + d) (nI b)) (m + 4)) ((l, fx, dd), k, nn1 nn d v w, bb1 bb d b, so, qc, qm) := by
  obtain ⟨⟨u0, u1, u1'⟩, u2, u3, u4, ⟨u5, u6, u7⟩, u8, u9⟩ := c
  have ne : ∀ j, j ≠ 13 + 4 * d + v → j ≠ 37 + d → hp_I (hp_sI (hp_sI g (m + 4) (13 + 4 * d + v) (nI w)) (m + 4) (37 + d) (nI b)) (m + 4) j = hp_I g (m + 4) j := fun j h1 h2 => by rw [sI_at, if_neg h2, sI_at, if_neg h1]
  refine ⟨⟨by rw [ne _ (by omega) (by omega)]; exact u0, by rw [ne _ (by omega) (by omega)]; exact u1, by rw [ne _ (by omega) (by omega)]; exact u1'⟩, fun j hj => by rw [ne _ (by omega) (by omega)]; exact u2 j hj, fun d' f' h1 h2 => ?_, fun d' h1 => ?_, ⟨fun k' hk' => by rw [ne _ (by omega) (by omega)]; exact u5 k' hk', by rw [ne _ (by omega) (by omega)]; exact u6, by rw [ne _ (by omega) (by omega)]; exact u7⟩, ?_, ?_⟩
  · rw [sI_at, if_neg (by omega), sI_at]
    show _ = nI (if d' = d ∧ f' = v then w else nn d' f')
    by_cases y : d' = d ∧ f' = v
    · rw [if_pos y, if_pos (by omega)]
    · rw [if_neg y, if_neg (by omega)]; exact u3 d' f' h1 h2
  · rw [sI_at]
    show _ = nI (if d' = d then b else bb d')
    by_cases y : d' = d
    · rw [if_pos y, if_pos (by omega)]
    · rw [if_neg y, if_neg (by omega), sI_at, if_neg (by omega)]; exact u4 d' h1
  · exact ⟨fun z => by rw [ne _ (by omega) (by omega)]; exact u8.1 z, fun z => by rw [ne _ (by omega) (by omega), ne _ (by omega) (by omega), ne _ (by omega) (by omega)]; exact u8.2 z⟩
  · exact ⟨fun z => by rw [ne _ (by omega) (by omega)]; exact u9.1 z, fun z => by rw [ne _ (by omega) (by omega), ne _ (by omega) (by omega), ne _ (by omega) (by omega)]; exact u9.2 z⟩
/-- the class's two writes -/
theorem set_nb {h0 h : Hp} {σ : PS} (c : DX x n tp a h0 h σ) {v w b : Nat} (hd : d < 6) (hv : v < 4) (hb : hp_I h (a + 3) d = nI b) (hb16 : b < 16) : f_X2_setNeed F a (nI d) (nI v) (nI w) h = some ((), hp_sI (hp_sI h (a + 2) (4 * d + v) (nI w)) (a + 3) d (nI (clb b v))) ∧ f_X2_setBut F a (nI d) (nI v) h = some ((), hp_sI (hp_sI h (a + 2) (4 * d + v) (nI 0)) (a + 3) d (nI (b ||| 2 ^ v))) := by
  have s := c.2.1.1
  have s1 : ∀ u, HSh (hp_sI h (a + 2) (4 * d + v) u) a := fun u => s.sh (SH.rf _)
  have e3 : ∀ u, hp_I (hp_sI h (a + 2) (4 * d + v) u) (a + 3) d = nI b := fun u => by rw [sI_ne _ _ _ (by omega)]; exact hb
  refine ⟨?_, ?_⟩
  · unfold f_X2_setNeed
    rw [bd_n (cc_isPlace F hd hv h), if_neg (by decide), s.g 2 6 (by decide), s.w 2 (4 * d + v) (i4d d v) (by decide) (show 4 * d + v < 24 by omega), (s1 _).g 3 7 (by decide), (s1 _).a 3 d rfl (by decide) (show d < 6 from hd), e3, (s1 _).w 3 d rfl (by decide) (show d < 6 from hd), (clb_e b hb16 v hv).1]
  · unfold f_X2_setBut
    rw [bd_n (cc_isPlace F hd hv h), if_neg (by decide), s.g 2 6 (by decide), s.w 2 (4 * d + v) (i4d d v) (by decide) (show 4 * d + v < 24 by omega), (s1 _).g 3 7 (by decide), (s1 _).a 3 d rfl (by decide) (show d < 6 from hd), e3, (s1 _).w 3 d rfl (by decide) (show d < 6 from hd), (stb_e b hb16 v hv).1]
    rfl
/-- the reference's two writes -/
theorem put_nb {g0 g : Hp} {σ : PS} (c : EXr m n tp g0 g σ) {v w b : Nat} (hd : d < 6) (hv : v < 4) (hb : hp_I g (m + 4) (37 + d) = nI b) (hb16 : b < 16) (h11 : hp_I g m 11 = 0) : f_X12_readNeed_67 F m (nI d) 0 (nI v) (nI w) g = some (1, hp_sI (hp_sI g (m + 4) (13 + 4 * d + v) (nI w)) (m + 4) (37 + d) (nI (clb b v))) ∧ f_X12_readNeed_67 F m (nI d) 1 (nI v) (nI w) g = some (1, hp_sI (hp_sI g (m + 4) (13 + 4 * d + v) (nI w)) (m + 4) (37 + d) (nI (b ||| 2 ^ v))) := by
  have c1 := c.w (show 13 + 4 * d + v < 143 by omega) (nI w)
  have e1 : hp_I (hp_sI g (m + 4) (13 + 4 * d + v) (nI w)) (m + 4) (37 + d) = nI b := by rw [sI_at, if_neg (by omega)]; exact hb
  have ei : (13 + 4 * nI d) + nI v = nI (13 + 4 * d + v) := by
    rw [show (4 : Int32) * nI d = nI (4 * d) from pk_mul 4 d, show (13 : Int32) = nI 13 from rfl, nI_add, nI_add]
  have ej : 37 + nI d = nI (37 + d) := nI_add 37 d
  refine ⟨?_, ?_⟩
  · unfold f_X12_readNeed_67 f_X12_readNeed_134
    rw [gI_n c.tg, h11, if_pos rfl, c.pt _ ei (by omega), c1.S.g 4 4 (by decide) rfl, if_pos rfl, c1.rd _ ej (by omega), e1, c1.S.w 4 (37 + d) ej (by decide) (show 37 + d < 1044 by omega), (clb_e b hb16 v hv).1]
  · unfold f_X12_readNeed_67 f_X12_readNeed_134
    rw [gI_n c.tg, h11, if_pos rfl, c.pt _ ei (by omega), c1.S.g 4 4 (by decide) rfl, if_neg (by decide), c1.rd _ ej (by omega), e1, c1.S.w 4 (37 + d) ej (by decide) (show 37 + d < 1044 by omega), (stb_e b hb16 v hv).1]
end doing
