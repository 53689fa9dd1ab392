/-! L3, the class: rows counted in place -/
def uc (c : Nat) : Nat := mkS (fun k => dg c (2 * (k % 4) + k / 4))
theorem uc_cs {s : Nat} (hs : s < 65536) : uc (cs s) = s := by
  refine dg_ext (mkS_lt fun _ _ => dg_lt _ _) hs fun k hk => ?_
  unfold uc
  rw [dg_mk (fun _ _ => dg_lt _ _) hk, dg_cs (t := k / 4) (f := k % 4) (by omega) (by omega), show 4 * (k / 4) + k % 4 = k by omega]
theorem sfr_sp (f : Nat → Nat) : ∀ p k q, sfr f k (p + q) = sfr f k p + sfr f (k + p) q := by
  intro p
  induction p with
  | zero => intro k q; rw [Nat.zero_add, Nat.add_zero]; exact (Nat.zero_add _).symm
  | succ p ih =>
    intro k q
    rw [show p + 1 + q = (p + q) + 1 by omega]
    show f k + sfr f (k + 1) (p + q) = (f k + sfr f (k + 1) p) + sfr f (k + (p + 1)) q
    rw [ih (k + 1) q, show k + 1 + p = k + (p + 1) by omega, Nat.add_assoc]
def TSc (B w : Nat → Nat) : Nat := sfr (fun c => B c * w c) 0 65536
def upB (B : Nat → Nat) (u m : Nat) : Nat → Nat := fun x => if x = u then B x + m else B x
theorem TSc_up {B w : Nat → Nat} {u m : Nat} (hu : u < 65536) : TSc (upB B u m) w = TSc B w + m * w u := sfr_upd 65536 0 (Nat.zero_le _) (by omega)
theorem TSc_cg {B B' w w' : Nat → Nat} (h : ∀ c, c < 65536 → B c * w c = B' c * w' c) : TSc B w = TSc B' w' := sfr_cg 65536 0 (fun x _ h2 => h x (by omega))
theorem TSc_clr {B w : Nat → Nat} {u : Nat} (hu : u < 65536) : TSc (fun x => if x = u then 0 else B x) w + B u * w u = TSc B w := by
  rw [← TSc_up hu]
  refine (TSc_cg fun c _ => ?_).symm
  show B c * w c = (if c = u then (if c = u then 0 else B c) + B u else (if c = u then 0 else B c)) * w c
  by_cases e : c = u
  · rw [if_pos e, if_pos e, Nat.zero_add, e]
  · rw [if_neg e, if_neg e]
theorem lN_n0 {n : Nat} (h : n < 2 ^ 62) (z : ¬ n = 0) : ¬ lN n = 0 := fun e => z ((pk_lEQ (b := 0) (by omega) (by decide)).mp e)
def W1 (H : HM) (b : Nat) (w : Nat → Nat) (c : Nat) : Nat := Tw H b (fun u => w (cs u)) (uc c)
def RK (h : Hp) (q W L a : Nat) (H : HM) (b : Nat) (B : Nat → Nat) (lo hi : Nat) : Prop := (hp_t h q = 7 ∧ hp_R h q 0 = some W ∧ hp_R h q 1 = some a) ∧ (hp_t h W = 23 ∧ hp_l h W = L ∧ L ≤ 65536) ∧ (HC h a H ∧ b < 10 ∧ 16 ^ hm_f H ≤ L) ∧ (hp_I h q 2 = nI b ∧ hp_I h q 3 = nI lo ∧ hp_I h q 4 = nI hi ∧ lo ≤ hi ∧ hi < 16 ^ hm_f H) ∧ (∀ c, c < L → hp_L h W c = lN (B c)) ∧ ∀ c, B c ≠ 0 → lo ≤ c ∧ c ≤ hi ∧ ∃ v, STok H v ∧ cs v = c
def FK (q W : Nat) (h h' : Hp) : Prop := SH h h' ∧ (∀ y, y ≠ q → hp_I h' y = hp_I h y) ∧ ∀ y, y ≠ W → hp_L h' y = hp_L h y
theorem FK.rf (q W : Nat) (h : Hp) : FK q W h h := ⟨SH.rf h, fun _ _ => rfl, fun _ _ => rfl⟩
theorem FK.tr {q W : Nat} {h h1 h2 : Hp} (a : FK q W h h1) (b : FK q W h1 h2) : FK q W h h2 := ⟨a.1.tr b.1, fun y hy => (b.2.1 y hy).trans (a.2.1 y hy), fun y hy => (b.2.2 y hy).trans (a.2.2 y hy)⟩
theorem FK.sI {q W k : Nat} {v : Int32} {h : Hp} : FK q W h (hp_sI h q k v) := ⟨SH.rf h, fun _ hy => sI_ne h k v hy, fun _ _ => rfl⟩
theorem FK.sL {q W k : Nat} {v : Int64} {h : Hp} : FK q W h (hp_sL h W k v) := ⟨SH.rf h, fun _ _ => rfl, fun _ hy => sL_ne h k v hy⟩
theorem FK.fw {q W : Nat} {h h' : Hp} (f : FK q W h h') : FW (fun y => y = q ∨ y = W) h h' := by
  refine ⟨Nat.le_of_eq f.1.2.2.2.1.symm, f.1.2.2.2.2.2, fun y _ => ⟨⟨by rw [f.1.1], by rw [f.1.2.1]⟩, fun hn => ⟨f.2.1 y (fun e => hn (Or.inl e)), f.2.2 y (fun e => hn (Or.inr e)), by rw [f.1.2.2.1]⟩⟩⟩
theorem HC.fk {h h' : Hp} {a q W : Nat} {H : HM} (c : HC h a H) (f : FK q W h h') {t : Nat} (ht : hp_t h q = t) (h3 : t ≠ 3) (h20 : t ≠ 20) : HC h' a H := by
  refine c.cg (fun k _ => by rw [f.1.1, f.1.2.1]; exact ⟨rfl, rfl⟩) (by rw [f.1.2.2.1]) (fun k hk => f.2.1 _ (fun e => ?_))
  rcases Nat.eq_zero_or_pos k with z | z
  · subst z
    have := c.t
    rw [show a = q by omega, ht] at this
    exact h3 this
  · have := (c.1.2 k z hk).2.1
    rw [e, ht] at this
    exact h20 this
section RKs
variable {h : Hp} {q W L a : Nat} {H : HM} {b : Nat} {B : Nat → Nat} {lo hi : Nat}
theorem RK.g0 {α : Type} (r : RK h q W L a H b B lo hi) (K : Nat → Option α) : gR 7 h q 0 K = K W := gR_n r.1.1 r.1.2.1 K
theorem RK.g1 {α : Type} (r : RK h q W L a H b B lo hi) (K : Nat → Option α) : gR 7 h q 1 K = K a := gR_n r.1.1 r.1.2.2 K
theorem RK.aL {α : Type} (r : RK h q W L a H b B lo hi) (K : Int32 → Option α) : al 23 h W K = K (nI L) := al_n r.2.1.1 r.2.1.2.1 K
theorem RK.qW (r : RK h q W L a H b B lo hi) : q ≠ W := fun e => by
  have t := r.1.1
  rw [e, r.2.1.1] at t
  exact absurd t (by decide)
theorem RK.add (F : Nat) (r : RK h q W L a H b B lo hi) {v : Nat} (ok : STok H v) (hl : lo ≤ cs v) (m : Nat) : ∃ h', f_X6_add F q (nI (cs v)) (lN m) h = some ((), h') ∧ FK q W h h' ∧ RK h' q W L a H b (upB B (cs v) m) lo (max hi (cs v)) := by
  obtain ⟨⟨a1, a2, a3⟩, ⟨b1, b2, b3⟩, ⟨c1, c2, c3⟩, ⟨d1, d2, d3, d4, d5⟩, e1, e2⟩ := r
  have rr : RK h q W L a H b B lo hi := ⟨⟨a1, a2, a3⟩, ⟨b1, b2, b3⟩, ⟨c1, c2, c3⟩, ⟨d1, d2, d3, d4, d5⟩, e1, e2⟩
  have hr := cs_room ok c1.f4
  have qW := rr.qW
  unfold f_X6_add
  rw [if_neg (nI_pos (by omega)), rr.g0, rr.aL, if_neg (nI_ge (by omega) (by omega)), rr.g0, aL_n b1 b2 rfl (show cs v < L by omega) (by omega), wL_n b1 b2 rfl (show cs v < L by omega) (by omega), e1 _ (by omega), lN_add, gI_n (show hp_t (hp_sL h W (cs v) (lN (B (cs v) + m))) q = 7 from a1), show hp_I (hp_sL h W (cs v) (lN (B (cs v) + m))) q 4 = nI hi from d3, bd_n (jmax F (by omega) (by omega) _), pI_n (show hp_t (hp_sL h W (cs v) (lN (B (cs v) + m))) q = 7 from a1)]
  have fk : FK q W h (hp_sI (hp_sL h W (cs v) (lN (B (cs v) + m))) q 4 (nI (max hi (cs v)))) := FK.sL.tr FK.sI
  refine ⟨_, rfl, fk, ⟨a1, a2, a3⟩, ⟨b1, b2, b3⟩, ⟨c1.fk fk a1 (by decide) (by decide), c2, c3⟩, ⟨?_, ?_, ?_, by omega, by omega⟩, fun c hc => ?_, fun c hc => ?_⟩
  · rw [sI_at, if_neg (by decide)]; exact d1
  · rw [sI_at, if_neg (by decide)]; exact d2
  · rw [sI_at, if_pos rfl]
  · show hp_L (hp_sL h W (cs v) (lN (B (cs v) + m))) W c = _
    rw [sL_at]
    unfold upB
    by_cases z : c = cs v
    · rw [if_pos z, if_pos z, z]
    · rw [if_neg z, if_neg z]; exact e1 c hc
  · unfold upB at hc
    by_cases z : c = cs v
    · exact ⟨by omega, by omega, v, ok, z.symm⟩
    · rw [if_neg z] at hc
      obtain ⟨g1, g2, g3⟩ := e2 c hc
      exact ⟨g1, by omega, g3⟩
end RKs
/-- what spreading m from v adds, by the moves k0 to k1 -/
def ADK (H : HM) (b v m : Nat) (B B' : Nat → Nat) (k0 k1 : Nat) : Prop := (∀ w, TSc B' w = TSc B w + m * sfr (tw H b (fun u => w (cs u)) v) k0 (k1 - k0)) ∧ ∀ c, c < cs v → B' c = B c
theorem ADK.tr {H : HM} {b v m : Nat} {B B1 B2 : Nat → Nat} {k0 k1 k2 : Nat} (x : ADK H b v m B B1 k0 k1) (y : ADK H b v m B1 B2 k1 k2) (h1 : k0 ≤ k1) (h2 : k1 ≤ k2) : ADK H b v m B B2 k0 k2 := by
  refine ⟨fun w => ?_, fun c hc => (y.2 c hc).trans (x.2 c hc)⟩
  rw [y.1 w, x.1 w, show k2 - k0 = (k1 - k0) + (k2 - k1) by omega, sfr_sp, Nat.mul_add, show k0 + (k1 - k0) = k1 by omega, Nat.add_assoc]
theorem ADK.no {H : HM} {b v m : Nat} {B : Nat → Nat} {k0 k1 : Nat} (h : ∀ k, k0 ≤ k → k < k1 → mv H b v k = none) : ADK H b v m B B k0 k1 := by
  refine ⟨fun w => ?_, fun _ _ => rfl⟩
  rw [sfr_0 _ _ (fun x y1 y2 => by unfold tw; rw [h x y1 (by omega)]), Nat.mul_zero, Nat.add_zero]
theorem ADK.one {H : HM} (hH : HMok H) {b v m k u : Nat} {B : Nat → Nat} (ok : STok H v) (hk : k < 9) (h : mv H b v k = some u) : ADK H b v m B (upB B (cs u) m) k (k + 1) := by
  have o := mv_ok hH ok hk h
  refine ⟨fun w => ?_, fun c hc => ?_⟩
  · rw [TSc_up (cs_lt u), show k + 1 - k = 0 + 1 by omega]
    show _ = _ + m * (tw H b (fun u => w (cs u)) v k + 0)
    unfold tw
    rw [h, Nat.add_zero]
  · have := cs_mono o.2.2
    unfold upB
    rw [if_neg (by omega)]
theorem cc_spread28 (F : Nat) {q W L a : Nat} {H : HM} {b lo v m t : Nat} (ht : t < 2) (ok : STok H v) (hl : lo ≤ cs v) (K3 : Nat → Int32 → Int64 → Int32 → Hp → Option (Unit × Hp)) : ∀ r f n (h : Hp) (B : Nat → Nat) (hi : Nat), f + r = hm_f H → r < n → RK h q W L a H b B lo hi → ∃ h' B' hi', f_X6_spread_28 F K3 n q (nI (cs v)) (lN m) (nI t) (nI (cpl b t (kn v t) (kn v (1 - t)))) (nI f) h = K3 q (nI (cs v)) (lN m) (nI (t + 1)) h' ∧ FK q W h h' ∧ RK h' q W L a H b B' lo hi' ∧ ADK H b v m B B' (4 * t + f) (4 * t + 4) := by
  intro r
  induction r with
  | zero =>
    intro f n h B hi hf hn c
    obtain ⟨n, rfl⟩ : ∃ j, n = j + 1 := ⟨n - 1, by omega⟩
    have h4 := c.2.2.1.1.f4
    show ∃ h' B' hi', f_X6_spread_28_b F K3 (f_X6_spread_28 F K3 n) _ _ _ _ _ _ h = _ ∧ _
    unfold f_X6_spread_28_b
    rw [c.g1, c.2.2.1.1.fs, if_pos (nI_le (by omega) (by omega)), nI_1]
    refine ⟨h, B, hi, rfl, FK.rf _ _ _, c, ADK.no (fun k y1 y2 => ?_)⟩
    rw [show k = 4 * t + (k - 4 * t) by omega]
    exact mv_n ht (by omega) (by omega)
  | succ r ih =>
    intro f n h B hi hf hn c
    obtain ⟨n, rfl⟩ : ∃ j, n = j + 1 := ⟨n - 1, by omega⟩
    have h4 := c.2.2.1.1.f4
    have hfl : f < hm_f H := by omega
    have em := mv_t (b := b) (v := v) ht h4 hfl
    show ∃ h' B' hi', f_X6_spread_28_b F K3 (f_X6_spread_28 F K3 n) _ _ _ _ _ _ h = _ ∧ _
    unfold f_X6_spread_28_b
    rw [c.g1, c.2.2.1.1.fs, if_neg (nI_ge (by omega) (by omega)), c.g1, cV_n c.2.2.1.1.t (cc_afterCase F c.2.2.1.1 ok c.2.2.1.2.1 ht hfl), nI_1]
    cases hv : tld H b v t f with
    | none =>
      obtain ⟨h2, B2, hi2, e2, f2, c2, o2⟩ := ih (f + 1) n h B hi (by omega) (by omega) c
      have e0 : f_X6_add F q (-1) (lN m) h = some ((), h) := by unfold f_X6_add; rw [if_pos (by decide)]
      rw [show oN (Option.map cs none) = -1 from rfl, cV_n c.1.1 e0, e2]
      refine ⟨h2, B2, hi2, rfl, f2, c2, (ADK.no (k0 := 4 * t + f) (k1 := 4 * t + f + 1) (fun k y1 y2 => ?_)).tr o2 (by omega) (by omega)⟩
      rw [show k = 4 * t + f by omega, em]; exact hv
    | some u =>
      have hv : mv H b v (4 * t + f) = some u := em.trans hv
      have o := mv_ok c.2.2.1.1.2.1 ok (by omega) hv
      have mono := cs_mono o.2.2
      obtain ⟨h1, e1, f1, c1⟩ := c.add F o.1 (by omega) m
      obtain ⟨h2, B2, hi2, e2, f2, c2, o2⟩ := ih (f + 1) n h1 _ _ (by omega) (by omega) c1
      rw [show oN (Option.map cs (some u)) = nI (cs u) from rfl, cV_n c.1.1 e1, e2]
      exact ⟨h2, B2, hi2, rfl, f1.tr f2, c2, (ADK.one c.2.2.1.1.2.1 ok (by omega) hv).tr o2 (by omega) (by omega)⟩
theorem cc_spread (F : Nat) (hF : 100 ≤ F) {h : Hp} {q W L a : Nat} {H : HM} {b lo hi v m : Nat} {B : Nat → Nat} (ok : STok H v) (hl : lo ≤ cs v) (c : RK h q W L a H b B lo hi) : ∃ h' B' hi', f_X6_spread F q (nI (cs v)) (lN m) h = some ((), h') ∧ FK q W h h' ∧ RK h' q W L a H b B' lo hi' ∧ ADK H b v m B B' 0 9 := by
  obtain ⟨F1, hF1⟩ : ∃ j, F = j + 3 := ⟨F - 3, by omega⟩
  have h4 := c.2.2.1.1.f4
  unfold f_X6_spread
  rw [congrArg (f_X6_spread_3 F) hF1]
  show ∃ h' B' hi', f_X6_spread_3_b F (f_X6_spread_3 F (F1 + 2)) q (nI (cs v)) (lN m) (nI 0) h = _ ∧ _
  unfold f_X6_spread_3_b
  obtain ⟨h1, B1, i1, e1, f1, c1, o1⟩ := cc_spread28 F (t := 0) (by decide) ok hl (m := m) (f_X6_spread_3 F (F1 + 2)) (hm_f H) 0 F h B hi (by omega) (by omega) c
  rw [if_neg (show ¬ (2 : Int32) ≤ nI 0 by decide), c.g1, gI_n c.1.1, c.2.2.2.1.1, cV_n c.2.2.1.1.t (cc_caseAt F (t := 0) (by decide) a b h), show f_X6_spread_28 F (f_X6_spread_3 F (F1 + 2)) F q (nI (cs v)) (lN m) (nI 0) (nI (cpl b 0 (kn v 0) (kn v (1 - 0)))) 0 h = _ from e1]
  show ∃ h' B' hi', f_X6_spread_3_b F (f_X6_spread_3 F (F1 + 1)) q (nI (cs v)) (lN m) (nI 1) h1 = _ ∧ _
  unfold f_X6_spread_3_b
  obtain ⟨h2, B2, i2, e2, f2, c2, o2⟩ := cc_spread28 F (t := 1) (by decide) ok hl (m := m) (f_X6_spread_3 F (F1 + 1)) (hm_f H) 0 F h1 B1 i1 (by omega) (by omega) c1
  rw [if_neg (show ¬ (2 : Int32) ≤ nI 1 by decide), c1.g1, gI_n c1.1.1, c1.2.2.2.1.1, cV_n c1.2.2.1.1.t (cc_caseAt F (t := 1) (by decide) a b h1), show f_X6_spread_28 F (f_X6_spread_3 F (F1 + 1)) F q (nI (cs v)) (lN m) (nI 1) (nI (cpl b 1 (kn v 1) (kn v (1 - 1)))) 0 h1 = _ from e2]
  show ∃ h' B' hi', f_X6_spread_3_b F (f_X6_spread_3 F F1) q (nI (cs v)) (lN m) (nI 2) h2 = _ ∧ _
  unfold f_X6_spread_3_b
  have hd : mv H b v 8 = some (dy v) := rfl
  have mono := cs_mono (LEd.dy v)
  obtain ⟨h3, e3, f3, c3⟩ := c2.add F ok.dy (by omega) m
  rw [if_pos (show (2 : Int32) ≤ nI 2 by decide), bd_n (cc_day F v h2), cV_n c2.1.1 e3]
  exact ⟨h3, _, _, rfl, (f1.tr f2).tr f3, c3, (o1.tr o2 (by decide) (by decide)).tr (ADK.one c.2.2.1.1.2.1 ok (by decide) hd) (by decide) (by decide)⟩
/-! one move more -/
def mix (H : HM) (b : Nat) (w : Nat → Nat) (j : Nat) : Nat → Nat := fun c => if c < j then W1 H b w c else w c
def pv (j : Nat) : Int32 := if j = 0 then -1 else nI (j - 1)
theorem W1_1 (H : HM) (b c : Nat) : 1 ≤ W1 H b (fun _ => 1) c ∧ W1 H b (fun _ => 1) c ≤ 9 := by
  refine ⟨?_, Tw_1 H b (uc c)⟩
  unfold W1 Tw
  have := sfr_mem (f := tw H b (fun _ => 1) (uc c)) 9 0 8 (by decide) (by decide)
  have e : tw H b (fun _ => 1) (uc c) 8 = 1 := rfl
  rw [e] at this
  exact this
theorem mix_1 (H : HM) (b j c : Nat) : 1 ≤ mix H b (fun _ => 1) j c := by
  unfold mix
  split
  · exact (W1_1 H b c).1
  · exact Nat.le_refl _
theorem TSc_ge {B w : Nat → Nat} {c : Nat} (hc : c < 65536) (hw : 1 ≤ w c) : B c ≤ TSc B w := by
  have := sfr_mem (f := fun c => B c * w c) 65536 0 c (Nat.zero_le _) (by omega)
  exact Nat.le_trans (Nat.le_mul_of_pos_right _ hw) this
theorem RK.clr {h : Hp} {q W L a : Nat} {H : HM} {b lo hi c : Nat} {B : Nat → Nat} (r : RK h q W L a H b B lo hi) : RK (hp_sL h W c 0) q W L a H b (fun x => if x = c then 0 else B x) lo hi := by
  obtain ⟨a1, b1, ⟨c1, c2, c3⟩, d1, e1, e2⟩ := r
  refine ⟨a1, b1, ⟨c1.fk (FK.sL (q := q) (W := W)) a1.1 (by decide) (by decide), c2, c3⟩, d1, fun j hj => ?_, fun j hj => ?_⟩
  · rw [sL_at]
    by_cases z : j = c
    · rw [if_pos z]; dsimp only; rw [if_pos z]; rfl
    · rw [if_neg z]; dsimp only; rw [if_neg z]; exact e1 j hj
  · dsimp only at hj
    by_cases z : j = c
    · rw [if_pos z] at hj; exact absurd rfl hj
    · rw [if_neg z] at hj; exact e2 j hj
theorem cc_len5 (F : Nat) (hF : 100 ≤ F) {q W L a : Nat} {H : HM} {b lo : Nat} (K : (Nat → Nat) → Nat) (hK : K (fun _ => 1) < 2 ^ 58) : ∀ r j n (h : Hp) (B : Nat → Nat) (hi : Nat), j = lo + r → r < n → j ≤ 16 ^ hm_f H → RK h q W L a H b B lo hi → (∀ w, TSc B (mix H b w j) = K w) → ∃ h' B' hi', f_X6_lengthen_5 F n q (pv j) h = some ((), h') ∧ FK q W h h' ∧ RK h' q W L a H b B' lo hi' ∧ ∀ w, TSc B' w = K w := by
  intro r
  induction r with
  | zero =>
    intro j n h B hi hj hn hj2 c hw
    obtain ⟨n, rfl⟩ : ∃ j, n = j + 1 := ⟨n - 1, by omega⟩
    have L16 := c.2.1.2.2
    have c3 := c.2.2.1.2.2
    have lt1 : pv j < nI lo := by
      unfold pv
      by_cases z : j = 0
      · rw [if_pos z, show lo = 0 by omega]; decide
      · rw [if_neg z]; exact nI_lt (by omega) (by omega)
    refine ⟨h, B, hi, ?_, FK.rf _ _ _, c, fun w => ?_⟩
    · show f_X6_lengthen_5_b F (f_X6_lengthen_5 F n) q (pv j) h = _
      unfold f_X6_lengthen_5_b
      rw [gI_n c.1.1, c.2.2.2.1.2.1, if_pos lt1]
    · rw [← hw w]
      refine TSc_cg fun x _ => ?_
      by_cases z : B x = 0
      · rw [z, Nat.zero_mul, Nat.zero_mul]
      · have := (c.2.2.2.2.2 x z).1
        unfold mix
        rw [if_neg (by omega)]
  | succ r ih =>
    intro j n h B hi hj hn hj2 c hw
    obtain ⟨n, rfl⟩ : ∃ j, n = j + 1 := ⟨n - 1, by omega⟩
    have L16 := c.2.1.2.2
    have c3 := c.2.2.1.2.2
    obtain ⟨i, rfl⟩ : ∃ i, j = i + 1 := ⟨j - 1, by omega⟩
    have hpv : pv (i + 1) = nI i := by unfold pv; rw [if_neg (by omega)]; rfl
    have hpv2 : nI i + (-1) = pv i := by
      unfold pv
      by_cases z : i = 0
      · rw [if_pos z, z]; decide
      · rw [if_neg z, nI_m1 (by omega)]
    have bi : B i < 2 ^ 58 := by
      have := TSc_ge (B := B) (w := mix H b (fun _ => 1) (i + 1)) (c := i) (by omega) (mix_1 H b (i + 1) i)
      rw [hw] at this
      omega
    rw [hpv]
    show ∃ h' B' hi', f_X6_lengthen_5_b F (f_X6_lengthen_5 F n) q (nI i) h = _ ∧ _
    unfold f_X6_lengthen_5_b f_X6_lengthen_52
    rw [gI_n c.1.1, c.2.2.2.1.2.1, if_neg (fun e => absurd ((nI_ltI (by omega) (by omega)).mp e) (by omega)), if_neg (nI_pos (by omega)), c.g0, c.aL, if_neg (nI_ge (by omega) (by omega)), c.g0, aL_n c.2.1.1 c.2.1.2.1 rfl (show i < L by omega) (by omega), c.2.2.2.2.1 i (by omega), hpv2]
    by_cases z : B i = 0
    · rw [if_pos (by rw [z]; rfl)]
      refine ih i n h B hi (by omega) (by omega) (by omega) c (fun w => ?_)
      rw [← hw w]
      refine TSc_cg fun x _ => ?_
      unfold mix
      by_cases y : x = i
      · rw [y, z, Nat.zero_mul, Nat.zero_mul]
      · by_cases y2 : x < i
        · rw [if_pos y2, if_pos (by omega)]
        · rw [if_neg y2, if_neg (by omega)]
    · obtain ⟨v, v1, v2⟩ := (c.2.2.2.2.2 i z).2.2
      have r0 := c.clr (c := i)
      rw [if_neg (lN_n0 (by omega) z), c.g0, wL_n c.2.1.1 c.2.1.2.1 rfl (show i < L by omega) (by omega)]
      obtain ⟨h1, B1, hi1, e1, f1, c1, o1⟩ := cc_spread F hF (m := B i) v1 (show lo ≤ cs v by omega) r0
      rw [v2] at e1
      rw [cV_n (show hp_t (hp_sL h W i 0) q = 7 from c.1.1) e1]
      have hk : ∀ w, TSc B1 (mix H b w i) = K w := fun w => by
        rw [o1.1 (mix H b w i), ← hw w, ← TSc_clr (B := B) (w := mix H b w (i + 1)) (u := i) (by omega)]
        have uv : uc i = v := by rw [← v2]; exact uc_cs v1.1
        have s1 : sfr (tw H b (fun u => mix H b w i (cs u)) v) 0 (9 - 0) = W1 H b w i := by
          unfold W1 Tw
          rw [uv]
          refine sfr_cg 9 0 (fun k _ hk => ?_)
          unfold tw
          cases hm : mv H b v k with
          | none => rfl
          | some u =>
            have := cs_mono (mv_ok c.2.2.1.1.2.1 v1 (by omega) hm).2.2
            show mix H b w i (cs u) = w (cs u)
            unfold mix
            rw [if_neg (by omega)]
        rw [s1, show mix H b w (i + 1) i = W1 H b w i by unfold mix; rw [if_pos (by omega)]]
        refine Nat.add_right_cancel_iff.mpr (TSc_cg fun x _ => ?_)
        by_cases y : x = i
        · rw [if_pos y, Nat.zero_mul, Nat.zero_mul]
        · rw [if_neg y]
          unfold mix
          by_cases y2 : x < i
          · rw [if_pos y2, if_pos (by omega)]
          · rw [if_neg y2, if_neg (by omega)]
      obtain ⟨h2, B2, hi2, e2, f2, c2, o2⟩ := ih i n h1 B1 hi1 (by omega) (by omega) (by omega) c1 hk
      exact ⟨h2, B2, hi2, e2, (FK.sL.tr f1).tr f2, c2, o2⟩
theorem cc_lengthen (F : Nat) (hF : 70000 ≤ F) {h : Hp} {q W L a : Nat} {H : HM} {b lo hi : Nat} {B : Nat → Nat} (c : RK h q W L a H b B lo hi) (hB : TSc B (fun _ => 1) ≤ 9 ^ 12) : ∃ h' B' hi', f_X6_lengthen F q h = some ((), h') ∧ FK q W h h' ∧ RK h' q W L a H b B' lo hi' ∧ ∀ w, TSc B' w = TSc B (W1 H b w) := by
  have L16 := c.2.1.2.2
  have c3 := c.2.2.1.2.2
  have d5 := c.2.2.2.1.2.2.2.2
  have d4 := c.2.2.2.1.2.2.2.1
  unfold f_X6_lengthen
  rw [gI_n c.1.1, c.2.2.2.1.2.2.1]
  have e : nI hi = pv (hi + 1) := by unfold pv; rw [if_neg (by omega)]; rfl
  rw [e]
  refine cc_len5 F (by omega) (fun w => TSc B (W1 H b w)) ?_ (hi + 1 - lo) (hi + 1) F h B hi (by omega) (by omega) (by omega) c (fun w => TSc_cg fun x _ => ?_)
  · have : TSc B (W1 H b (fun _ => 1)) ≤ 9 * TSc B (fun _ => 1) := by
      unfold TSc
      rw [← sfr_mul]
      refine sfr_le 65536 0 (fun x _ _ => ?_)
      rw [Nat.mul_one, Nat.mul_comm 9]
      exact Nat.mul_le_mul_left _ (W1_1 H b x).2
    have p : 9 * 9 ^ 12 < 2 ^ 58 := by decide
    omega
  · by_cases z : B x = 0
    · rw [z, Nat.zero_mul, Nat.zero_mul]
    · have := (c.2.2.2.2.2 x z).2.1
      unfold mix
      rw [if_pos (by omega)]
/-! the sum at a goal -/
def wc (H : HM) (b : Nat) (g : GL) (k : Nat) : Nat → Nat := fun c => wn H b g k (uc c)
theorem cc_at12 (F : Nat) {h : Hp} {q W L a : Nat} {H : HM} {b lo hi x y : Nat} {B : Nat → Nat} (hx : x < 64) (hy : y < 64) (c : RK h q W L a H b B lo hi) (hB : ∀ j, j < 65536 → B j < 2 ^ 62) : ∀ r j n A, j + r = hi + 1 → r < n → f_X6_atGoal_12 F n q (nI x) (nI y) (lN A) (nI j) h = some (lN (A + sfr (fun j => B j * wc H b (.inl (x, y)) 0 j) j r), h) := by
  have L16 := c.2.1.2.2
  have c3 := c.2.2.1.2.2
  have d5 := c.2.2.2.1.2.2.2.2
  intro r
  induction r with
  | zero =>
    intro j n A hj hn
    obtain ⟨n, rfl⟩ : ∃ j, n = j + 1 := ⟨n - 1, by omega⟩
    show f_X6_atGoal_12_b F (f_X6_atGoal_12 F n) q (nI x) (nI y) (lN A) (nI j) h = _
    unfold f_X6_atGoal_12_b
    rw [gI_n c.1.1, c.2.2.2.1.2.2.1, if_pos (nI_lt (by omega) (by omega))]
    rfl
  | succ r ih =>
    intro j n A hj hn
    obtain ⟨n, rfl⟩ : ∃ j, n = j + 1 := ⟨n - 1, by omega⟩
    have bj := hB j (by omega)
    have s1 : sfr (fun j => B j * wc H b (.inl (x, y)) 0 j) j (r + 1) = B j * wc H b (.inl (x, y)) 0 j + sfr (fun j => B j * wc H b (.inl (x, y)) 0 j) (j + 1) r := rfl
    show f_X6_atGoal_12_b F (f_X6_atGoal_12 F n) q (nI x) (nI y) (lN A) (nI j) h = _
    unfold f_X6_atGoal_12_b f_X6_atGoal_67
    rw [gI_n c.1.1, c.2.2.2.1.2.2.1, if_neg (fun e => absurd ((nI_ltI (by omega) (by omega)).mp e) (by omega)), c.g0, c.aL, if_neg (nI_ge (by omega) (by omega)), c.g0, aL_n c.2.1.1 c.2.1.2.1 rfl (show j < L by omega) (by omega), c.2.2.2.2.1 j (by omega), nI_1, s1]
    by_cases z : B j = 0
    · rw [if_pos (by rw [z]; rfl), ih (j + 1) n A (by omega) (by omega), z, Nat.zero_mul, Nat.zero_add]
    · obtain ⟨v, v1, v2⟩ := (c.2.2.2.2.2 j z).2.2
      have uv : uc j = v := by rw [← v2]; exact uc_cs v1.1
      have ed := cc_doAtLeast F c.2.2.1.1 v1 hx hy
      rw [v2] at ed
      have ew : wc H b (.inl (x, y)) 0 j = b2 (gl H (.inl (x, y)) v) := by unfold wc; rw [uv]; rfl
      rw [if_neg (lN_n0 (by omega) z), c.g1, cV_n c.2.2.1.1.t ed, ew]
      cases gl H (.inl (x, y)) v with
      | false => rw [if_pos (show nI (b2 false) = 0 by decide), ih (j + 1) n A (by omega) (by omega), show b2 false = 0 from rfl, Nat.mul_zero, Nat.zero_add]
      | true => rw [if_neg (show ¬ nI (b2 true) = 0 by decide), c.g0, aL_n c.2.1.1 c.2.1.2.1 rfl (show j < L by omega) (by omega), c.2.2.2.2.1 j (by omega), lt_e, lN_add, ih (j + 1) n (A + B j) (by omega) (by omega), show b2 true = 1 from rfl, Nat.mul_one, Nat.add_assoc]
theorem cc_atGoal (F : Nat) (hF : 70000 ≤ F) {h : Hp} {q W L a : Nat} {H : HM} {b lo hi x y : Nat} {B : Nat → Nat} (hx : x < 64) (hy : y < 64) (c : RK h q W L a H b B lo hi) (hB : ∀ j, j < 65536 → B j < 2 ^ 62) : f_X6_atGoal F q (nI x) (nI y) h = some (lN (TSc B (wc H b (.inl (x, y)) 0)), h) := by
  have L16 := c.2.1.2.2
  have c3 := c.2.2.1.2.2
  have d4 := c.2.2.2.1.2.2.2.1
  have d5 := c.2.2.2.1.2.2.2.2
  unfold f_X6_atGoal
  rw [gI_n c.1.1, c.2.2.2.1.2.1, bd_n (show f_J9_max_7cf53 F 0 (nI lo) h = some (nI lo, h) by have := jmax F (A := 0) (B := lo) (by decide) (by omega) h; rw [Nat.max_eq_right (Nat.zero_le _)] at this; exact this)]
  have := cc_at12 F hx hy c hB (hi + 1 - lo) lo F 0 (by omega) (by omega)
  rw [Nat.zero_add] at this
  rw [show f_X6_atGoal_12 F F q (nI x) (nI y) 0 (nI lo) h = _ from this]
  have e : TSc B (wc H b (.inl (x, y)) 0) = sfr (fun j => B j * wc H b (.inl (x, y)) 0 j) lo (hi + 1 - lo) := by
    unfold TSc
    rw [show (65536 : Nat) = lo + ((hi + 1 - lo) + (65536 - (hi + 1))) by omega, sfr_sp, sfr_sp]
    rw [sfr_0 lo 0 (fun x h1 h2 => by
      by_cases z : B x = 0
      · rw [z, Nat.zero_mul]
      · have := (c.2.2.2.2.2 x z).1; omega), sfr_0 _ (0 + lo + (hi + 1 - lo)) (fun x h1 h2 => by
      by_cases z : B x = 0
      · rw [z, Nat.zero_mul]
      · have := (c.2.2.2.2.2 x z).2.1; omega), Nat.zero_add, Nat.zero_add, Nat.add_zero]
  rw [e]
