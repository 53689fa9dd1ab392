/-! L3, the class: frames with new cells; owners; a search is begun -/
def FW (W : Nat → Prop) (h h' : Hp) : Prop := hp_n h ≤ hp_n h' ∧ hp_k h' = hp_k h ∧ ∀ y, y < hp_n h → (hp_t h' y = hp_t h y ∧ hp_l h' y = hp_l h y) ∧ (¬ W y → hp_I h' y = hp_I h y ∧ hp_L h' y = hp_L h y ∧ hp_R h' y = hp_R h y)
theorem FW.rf (W : Nat → Prop) (h : Hp) : FW W h h := ⟨Nat.le_refl _, rfl, fun _ _ => ⟨⟨rfl, rfl⟩, fun _ => ⟨rfl, rfl, rfl⟩⟩⟩
theorem FW.tr {W W' : Nat → Prop} {h h1 h2 : Hp} (a : FW W h h1) (b : FW W' h1 h2) (hw : ∀ y, y < hp_n h → W' y → W y) : FW W h h2 := by
  refine ⟨Nat.le_trans a.1 b.1, b.2.1.trans a.2.1, fun y hy => ?_⟩
  have a1 := a.2.2 y hy
  have b1 := b.2.2 y (Nat.lt_of_lt_of_le hy a.1)
  refine ⟨⟨b1.1.1.trans a1.1.1, b1.1.2.trans a1.1.2⟩, fun hn => ?_⟩
  have a2 := a1.2 hn
  have b2 := b1.2 (fun z => hn (hw y hy z))
  exact ⟨b2.1.trans a2.1, b2.2.1.trans a2.2.1, b2.2.2.trans a2.2.2⟩
theorem FW.mono {W W' : Nat → Prop} {h h' : Hp} (a : FW W h h') (hw : ∀ y, y < hp_n h → W y → W' y) : FW W' h h' := ⟨a.1, a.2.1, fun y hy => ⟨(a.2.2 y hy).1, fun hn => (a.2.2 y hy).2 (fun z => hn (hw y hy z))⟩⟩
def W3 (q P S : Nat) : Nat → Prop := fun y => y = q ∨ y = P ∨ y = S
theorem F3.fw {q P S : Nat} {h h' : Hp} (f : F3 q P S h h') : FW (W3 q P S) h h' := by
  refine ⟨Nat.le_of_eq f.1.2.2.2.1.symm, f.1.2.2.2.2.2, fun y _ => ⟨⟨by rw [f.1.1], by rw [f.1.2.1]⟩, fun hn => ⟨f.2.2 y (fun e => hn (Or.inl e)) (fun e => hn (Or.inr (Or.inl e))) (fun e => hn (Or.inr (Or.inr e))), by rw [f.2.1], by rw [f.1.2.2.1]⟩⟩⟩
theorem FA.fw {x : Nat} {ks : List Nat} {h h' : Hp} (f : FA x ks h h') : FW (fun y => ∃ k, k ∈ ks ∧ y = x + k) h h' := by
  refine ⟨Nat.le_of_eq f.1.2.2.2.1.symm, f.1.2.2.2.2.2, fun y _ => ⟨⟨by rw [f.1.1], by rw [f.1.2.1]⟩, fun hn => ?_⟩⟩
  have := f.2 y (fun k hk e => hn ⟨k, hk, e⟩)
  exact ⟨this.1, this.2, by rw [f.1.2.2.1]⟩
theorem FW.sI {W : Nat → Prop} {a k : Nat} {v : Int32} {h : Hp} (hw : W a) : FW W h (hp_sI h a k v) := ⟨Nat.le_refl _, rfl, fun y _ => ⟨⟨rfl, rfl⟩, fun hn => ⟨sI_ne h k v (fun e => hn (by rw [e]; exact hw)), rfl, rfl⟩⟩⟩
theorem FW.sL {W : Nat → Prop} {a k : Nat} {v : Int64} {h : Hp} (hw : W a) : FW W h (hp_sL h a k v) := ⟨Nat.le_refl _, rfl, fun y _ => ⟨⟨rfl, rfl⟩, fun hn => ⟨rfl, sL_ne h k v (fun e => hn (by rw [e]; exact hw)), rfl⟩⟩⟩
theorem sR_ne (h : Hp) {a b : Nat} (k : Nat) (v : Option Nat) (hb : b ≠ a) : hp_R (hp_sR h a k v) b = hp_R h b := by
  funext j
  show (if b = a ∧ j = k then v else hp_R h b j) = _
  rw [if_neg (fun z => hb z.1)]
theorem sR_at (h : Hp) (a k j : Nat) (v : Option Nat) : hp_R (hp_sR h a k v) a j = if j = k then v else hp_R h a j := by
  show (if a = a ∧ j = k then v else hp_R h a j) = _
  by_cases e : j = k
  · rw [if_pos ⟨rfl, e⟩, if_pos e]
  · rw [if_neg (fun z => e z.2), if_neg e]
theorem FW.sR {W : Nat → Prop} {a k : Nat} {v : Option Nat} {h : Hp} (hw : W a) : FW W h (hp_sR h a k v) := ⟨Nat.le_refl _, rfl, fun y _ => ⟨⟨rfl, rfl⟩, fun hn => ⟨rfl, rfl, sR_ne h k v (fun e => hn (by rw [e]; exact hw))⟩⟩⟩
theorem FW.nw {W : Nat → Prop} {t n w : Nat} {h : Hp} : FW W h (hp_nw h t n w) := by
  refine ⟨Nat.le_succ _, rfl, fun y hy => ?_⟩
  have e : ¬ y = hp_n h := by omega
  refine ⟨⟨if_neg e, if_neg e⟩, fun _ => ⟨funext fun j => if_neg e, funext fun j => if_neg e, funext fun j => if_neg e⟩⟩
theorem pR_n {α : Type} {t a k v : Nat} {h : Hp} (ht : hp_t h a = t) (K : Hp → Option α) : pR t h a k v K = K (hp_sR h a k (some v)) := by
  unfold pR
  rw [gd_t ht]
theorem nA_n {α : Type} {t n : Nat} {h : Hp} {i : Int32} (hi : i = nI n) (hn : n ≤ 1000000) (K : Nat → Hp → Option α) : nA t h i K = K (hp_n h) (hp_nw h t n n) := by
  subst hi
  unfold nA
  rw [ix_n (by omega), gd_t ⟨nI_pos (by omega), hn⟩]
theorem HC.fw {W : Nat → Prop} {h h' : Hp} {a : Nat} {H : HM} (c : HC h a H) (f : FW W h h') (ha : ∀ k, k < 6 → a + k < hp_n h ∧ ¬ W (a + k)) : HC h' a H := by
  refine c.cg (fun k hk => (f.2.2 _ (ha k hk).1).1) ?_ (fun k hk => ((f.2.2 _ (ha k hk).1).2 (ha k hk).2).1)
  have := ha 0 (by decide)
  rw [Nat.add_zero] at this
  exact ((f.2.2 _ this.1).2 this.2).2.2
theorem ST.fw {W : Nat → Prop} {h h' : Hp} {q s b : Nat} (c : ST h q s b) (f : FW W h h') (h1 : q < hp_n h) (h2 : ¬ W q) : ST h' q s b := c.cg (f.2.2 q h1).1.1 ((f.2.2 q h1).2 h2).1
theorem SS.fw {W : Nat → Prop} {h h' : Hp} {q P S L : Nat} (c : SS h q P S L) (f : FW W h h') (hq : q < hp_n h ∧ ¬ W q) (hP : P < hp_n h) (hS : S < hp_n h) : SS h' q P S L := by
  obtain ⟨⟨a1, a2, a3⟩, ⟨a4, a5⟩, ⟨a6, a7⟩, a8⟩ := c
  have fq := f.2.2 q hq.1
  have fP := f.2.2 P hP
  have fS := f.2.2 S hS
  refine ⟨⟨by rw [fq.1.1]; exact a1, ?_, ?_⟩, ⟨by rw [fP.1.1]; exact a4, by rw [fP.1.2]; exact a5⟩, ⟨by rw [fS.1.1]; exact a6, by rw [fS.1.2]; exact a7⟩, a8⟩
  · rw [(fq.2 hq.2).2.2]; exact a2
  · rw [(fq.2 hq.2).2.2]; exact a3
/-! owners: fixed cells by their numbers, the reference 300, houses 100 to 103, the arrays of searches 200 on -/
def KA (h : Hp) (x : Nat) (ow : Nat → Nat) : Prop := (∀ j, j < 48 → ct j ≠ 0 → ow (x + j) = j ∧ x + j < hp_n h) ∧ ∀ j, j < 18 → ow (x + (48 + j)) = 300 ∧ x + (48 + j) < hp_n h
def HO (h : Hp) (ow : Nat → Nat) (a : Nat) : Prop := ∀ k, k < 6 → 100 ≤ ow (a + k) ∧ ow (a + k) < 104 ∧ a + k < hp_n h
def OE (h : Hp) (ow ow' : Nat → Nat) : Prop := ∀ y, y < hp_n h → ow' y = ow y
theorem OE.rf (h : Hp) (ow : Nat → Nat) : OE h ow ow := fun _ _ => rfl
theorem OE.tr {h h1 : Hp} {ow ow1 ow2 : Nat → Nat} (a : OE h ow ow1) (hn : hp_n h ≤ hp_n h1) (b : OE h1 ow1 ow2) : OE h ow ow2 := fun y hy => (b y (Nat.lt_of_lt_of_le hy hn)).trans (a y hy)
theorem KA.oe {h h' : Hp} {x : Nat} {ow ow' : Nat → Nat} (c : KA h x ow) (e : OE h ow ow') (hn : hp_n h ≤ hp_n h') : KA h' x ow' :=
  ⟨fun j h1 h2 => ⟨by rw [e _ (c.1 j h1 h2).2]; exact (c.1 j h1 h2).1, Nat.lt_of_lt_of_le (c.1 j h1 h2).2 hn⟩, fun j h1 => ⟨by rw [e _ (c.2 j h1).2]; exact (c.2 j h1).1, Nat.lt_of_lt_of_le (c.2 j h1).2 hn⟩⟩
theorem HO.oe {h h' : Hp} {a : Nat} {ow ow' : Nat → Nat} (c : HO h ow a) (e : OE h ow ow') (hn : hp_n h ≤ hp_n h') : HO h' ow' a := fun k hk => by
  have := c k hk
  rw [e _ this.2.2]
  exact ⟨this.1, this.2.1, Nat.lt_of_lt_of_le this.2.2 hn⟩
/-- a search: where it goes on from, or nothing -/
def SI (h : Hp) (q P S L : Nat) (ow : Nat → Nat) (hs : Nat → HM) (e : Nat) : Prop := SS h q P S L ∧ (ow P = e ∧ P < hp_n h) ∧ (ow S = e + 1 ∧ S < hp_n h) ∧ (hp_I h q 2 = 0 ∨ ∃ a b M s u p kk n o, SC h q P S L a (hs a) b M s u p kk n o 0 ∧ HO h ow a)
theorem SC.fw {W : Nat → Prop} {h h' : Hp} {q P S L a : Nat} {H : HM} {b M s : Nat} {u p kk : Nat → Nat} {n o k : Nat} (c : SC h q P S L a H b M s u p kk n o k) (f : FW W h h') (hq : q < hp_n h ∧ ¬ W q) (hP : P < hp_n h ∧ ¬ W P) (hS : S < hp_n h ∧ ¬ W S) (ha : ∀ k, k < 6 → a + k < hp_n h ∧ ¬ W (a + k)) : SC h' q P S L a H b M s u p kk n o k := by
  obtain ⟨⟨ss, r2, r3, r4⟩, ⟨c1, c2, c3, c4⟩, c5, c6, bq⟩ := c
  have fq := (f.2.2 q hq.1).2 hq.2
  have fP := (f.2.2 P hP.1).2 hP.2
  have fS := (f.2.2 S hS.1).2 hS.2
  refine ⟨⟨ss.fw f hq hP.1 hS.1, by rw [fq.1]; exact r2, by rw [fP.1]; exact r3, by rw [fS.1]; exact r4⟩, ⟨by rw [fq.2.2]; exact c1, c2.fw f ha, c3, c4⟩, c5, by rw [fq.1]; exact c6, bq⟩
theorem SI.fw {W : Nat → Prop} {h h' : Hp} {q P S L : Nat} {ow ow' : Nat → Nat} {hs : Nat → HM} {e : Nat} (c : SI h q P S L ow hs e) (f : FW W h h') (oe : OE h ow ow') (hq : q < hp_n h ∧ ¬ W q) (hw : ∀ y, y < hp_n h → W y → ow y ≠ e ∧ ow y ≠ e + 1 ∧ (ow y < 100 ∨ 104 ≤ ow y)) : SI h' q P S L ow' hs e := by
  obtain ⟨ss, ⟨p1, p2⟩, ⟨s1, s2⟩, d⟩ := c
  refine ⟨ss.fw f hq p2 s2, ⟨by rw [oe _ p2]; exact p1, Nat.lt_of_lt_of_le p2 f.1⟩, ⟨by rw [oe _ s2]; exact s1, Nat.lt_of_lt_of_le s2 f.1⟩, ?_⟩
  rcases d with d | ⟨a, b, M, s, u, p, kk, n, o, d1, d2⟩
  · left; rw [((f.2.2 q hq.1).2 hq.2).1]; exact d
  · right
    refine ⟨a, b, M, s, u, p, kk, n, o, d1.fw f hq ⟨p2, fun z => (hw P p2 z).1 p1⟩ ⟨s2, fun z => (hw S s2 z).2.1 s1⟩ (fun k hk => ⟨(d2 k hk).2.2, fun z => ?_⟩), d2.oe oe f.1⟩
    have a1 := hw _ (d2 k hk).2.2 z
    have a2 := d2 k hk
    omega
/-! arrays of zeros -/
theorem fillI_r (F : Nat) {a N : Nat} (hN : N < 2 ^ 31) : ∀ r k n (h : Hp), hp_t h a = 20 → hp_l h a = N → k + r = N → r < n → ∃ h', f_J7_fill_53178_5 F n a 0 (nI k) (nI N) h = some ((), h') ∧ FQ a h h' ∧ ∀ j, hp_I h' a j = if k ≤ j ∧ j < N then 0 else hp_I h a j := by
  intro r
  induction r with
  | zero =>
    intro k n h t l hk hn
    obtain ⟨n, rfl⟩ : ∃ j, n = j + 1 := ⟨n - 1, by omega⟩
    show ∃ h', f_J7_fill_53178_5_b F (f_J7_fill_53178_5 F n) a 0 (nI k) (nI N) h = _ ∧ _
    unfold f_J7_fill_53178_5_b
    rw [if_pos (nI_le (by omega) (by omega))]
    exact ⟨h, rfl, FQ.rf _ _, fun j => by rw [if_neg (by omega)]⟩
  | succ r ih =>
    intro k n h t l hk hn
    obtain ⟨n, rfl⟩ : ∃ j, n = j + 1 := ⟨n - 1, by omega⟩
    show ∃ h', f_J7_fill_53178_5_b F (f_J7_fill_53178_5 F n) a 0 (nI k) (nI N) h = _ ∧ _
    unfold f_J7_fill_53178_5_b
    rw [if_neg (nI_ge (by omega) hN), wI_n t l rfl (show k < N by omega) hN, nI_1]
    obtain ⟨h', e, s, v⟩ := ih (k + 1) n (hp_sI h a k 0) t l (by omega) (by omega)
    refine ⟨h', e, FQ.sI.tr s, fun j => ?_⟩
    rw [v j, sI_at]
    by_cases q : k + 1 ≤ j ∧ j < N
    · rw [if_pos q, if_pos (by omega)]
    · rw [if_neg q]
      by_cases q2 : j = k
      · rw [if_pos q2, if_pos (by omega)]
      · rw [if_neg q2, if_neg (by omega)]
theorem fillI (F : Nat) {a N : Nat} (hN : N < 2 ^ 31) (hF : N < F) {h : Hp} (t : hp_t h a = 20) (l : hp_l h a = N) : ∃ h', f_J7_fill_53178 F a 0 h = some ((), h') ∧ FQ a h h' ∧ ∀ j, hp_I h' a j = if j < N then 0 else hp_I h a j := by
  unfold f_J7_fill_53178
  rw [al_n t l]
  obtain ⟨h', e, s, v⟩ := fillI_r F hN N 0 F h t l (by omega) hF
  refine ⟨h', e, s, fun j => ?_⟩
  rw [v j]
  by_cases q : j < N
  · rw [if_pos q, if_pos (by omega)]
  · rw [if_neg q, if_neg (by omega)]
theorem FQ.f3 {q P S : Nat} {h h' : Hp} (c : FQ S h h') : F3 q P S h h' := ⟨c.1, c.2.1, fun y _ _ h3 => c.2.2 y h3⟩
theorem cc_drop (F : Nat) (hF : 70000 ≤ F) {h : Hp} {q P S L : Nat} (ss : SS h q P S L) : ∃ h', f_X7_drop F q h = some ((), h') ∧ F3 q P S h h' ∧ hp_I h' q 2 = 0 ∧ hp_I h' q 3 = 0 ∧ (∀ k, k ≠ 2 → k ≠ 3 → hp_I h' q k = hp_I h q k) ∧ ∀ w, w < L / 32 + 1 → hp_I h' S w = 0 := by
  have L16 := ss.L16
  unfold f_X7_drop
  obtain ⟨h1, e1, f1, v1⟩ := fillI F (a := S) (N := L / 32 + 1) (by omega) (by omega) ss.2.2.1.1 ss.2.2.1.2
  have s1 : SS h1 q P S L := ss.sh f1.1
  rw [ss.g1, bd_n e1, pI_n s1.t, pI_n (show hp_t (hp_sI h1 q 2 0) q = 8 from s1.t)]
  refine ⟨_, rfl, (f1.f3.tr F3.q).tr F3.q, ?_, ?_, fun k h2 h3 => ?_, fun w hw => ?_⟩
  · rw [sI_at, if_neg (by decide), sI_at, if_pos rfl]
  · rw [sI_at, if_pos rfl]
  · rw [sI_at, if_neg h3, sI_at, if_neg h2, f1.2.2 q ss.qS]
  · rw [sI_ne _ _ _ (Ne.symm ss.qS), sI_ne _ _ _ (Ne.symm ss.qS), v1 w, if_pos hw]
/-- what was made fits what a longer row of places may cost -/
def BU (L L' : Nat) (h h' : Hp) : Prop := hp_n h' + L ≤ hp_n h + L' ∧ hp_s h' + 4 * L ≤ hp_s h + 4 * L' ∧ L ≤ L'
theorem BU.sh {L : Nat} {h h' : Hp} (s : SH h h') : BU L L h h' := ⟨by rw [s.2.2.2.1]; exact Nat.le_refl _, by rw [s.2.2.2.2.1]; exact Nat.le_refl _, Nat.le_refl _⟩
theorem BU.tr {L L1 L2 : Nat} {h h1 h2 : Hp} (a : BU L L1 h h1) (b : BU L1 L2 h1 h2) : BU L L2 h h2 := by
  obtain ⟨a1, a2, a3⟩ := a
  obtain ⟨b1, b2, b3⟩ := b
  exact ⟨by omega, by omega, by omega⟩
theorem pw16 {e f : Nat} (h : ¬ 16 ^ f ≤ 16 ^ e) : 16 * 16 ^ e ≤ 16 ^ f := by
  have : e < f := by
    by_cases z : e < f
    · exact z
    · exact absurd (Nat.pow_le_pow_right (by decide) (show f ≤ e by omega)) h
  calc 16 * 16 ^ e = 16 ^ (e + 1) := by rw [Nat.pow_succ, Nat.mul_comm]
    _ ≤ 16 ^ f := Nat.pow_le_pow_right (by decide) this
theorem shr5' {c : Nat} (hc : c ≤ 65536) : nI c >>> ((5 : Int32) &&& 31) = nI (c / 32) := by rw [pk_shrN (by omega) _ 5 (by decide)]
theorem cc_settle (F : Nat) (hF : 70000 ≤ F) {h : Hp} {q P S L a c : Nat} {H : HM} {s b : Nat} (ss : SS h q P S L) (hq : q < hp_n h) (hP : P < hp_n h) (hS : S < hp_n h) (ha : ∀ k, k < 6 → a + k < hp_n h ∧ ¬ W3 q P S (a + k)) (hc : HC h a H) (st : ST h c s b) (hcn : c < hp_n h ∧ ¬ W3 q P S c) : ∃ h' P' S' L', f_X7_settle F q a c h = some ((), h') ∧ FW (W3 q P S) h h' ∧ SS h' q P' S' L' ∧ 16 ^ hm_f H ≤ L' ∧ ((P' = P ∧ S' = S ∧ hp_n h' = hp_n h) ∨ (P' = hp_n h ∧ S' = hp_n h + 1 ∧ hp_n h' = hp_n h + 2)) ∧ BU L L' h h' ∧ (hp_R h' q 4 = some a ∧ hp_I h' q 2 = 0 ∧ hp_I h' q 3 = 0 ∧ hp_I h' q 5 = nI (cs s) ∧ hp_I h' q 6 = nI b ∧ hp_I h' q 7 = hp_I h q 7 ∧ hp_I h' q 8 = hp_I h q 8) ∧ ∀ w, w < L' / 32 + 1 → hp_I h' S' w = 0 := by
  have L16 := ss.L16
  obtain ⟨h1, e1, f1, i2, i3, ik, iS⟩ := cc_drop F hF ss
  unfold f_X7_settle
  have s1 : SS h1 q P S L := ss.sh f1.1
  have w1 := f1.fw
  have n1 : hp_n h1 = hp_n h := f1.1.2.2.2.1
  have sl1 : hp_s h1 = hp_s h := f1.1.2.2.2.2.1
  have st1 : ST h1 c s b := st.fw w1 hcn.1 hcn.2
  have cq : c ≠ q := fun e => hcn.2 (Or.inl e)
  -- the house, the start, the bond
  let h2 := hp_sR h1 q 4 (some a)
  let h3 := hp_sI h2 q 5 (nI (cs s))
  let h4 := hp_sI h3 q 6 (nI b)
  have fw4 : FW (W3 q P S) h h4 := ((w1.tr (FW.sR (W := W3 q P S) (a := q) (k := 4) (v := some a) (Or.inl rfl)) (fun _ _ z => z)).tr (FW.sI (W := W3 q P S) (a := q) (k := 5) (v := nI (cs s)) (Or.inl rfl)) (fun _ _ z => z)).tr (FW.sI (W := W3 q P S) (a := q) (k := 6) (v := nI b) (Or.inl rfl)) (fun _ _ z => z)
  have hc4 : HC h4 a H := hc.fw fw4 ha
  have s4 : SS h4 q P S L := by
    refine ⟨⟨s1.1.1, ?_, ?_⟩, s1.2⟩
    · show hp_R (hp_sR h1 q 4 (some a)) q 0 = _
      rw [sR_at, if_neg (by decide)]; exact s1.1.2.1
    · show hp_R (hp_sR h1 q 4 (some a)) q 1 = _
      rw [sR_at, if_neg (by decide)]; exact s1.1.2.2
  have r4 : hp_R h4 q 4 = some a := by
    show hp_R (hp_sR h1 q 4 (some a)) q 4 = _
    rw [sR_at, if_pos rfl]
  have I4 : ∀ k, hp_I h4 q k = if k = 6 then nI b else if k = 5 then nI (cs s) else hp_I h1 q k := fun k => by
    show hp_I (hp_sI (hp_sI h2 q 5 (nI (cs s))) q 6 (nI b)) q k = _
    rw [sI_at, sI_at]; rfl
  have IS4 : hp_I h4 S = hp_I h1 S := by
    show hp_I (hp_sI (hp_sI h2 q 5 (nI (cs s))) q 6 (nI b)) S = _
    rw [sI_ne _ _ _ (Ne.symm ss.qS), sI_ne _ _ _ (Ne.symm ss.qS)]; rfl
  have fin : hp_R h4 q 4 = some a ∧ hp_I h4 q 2 = 0 ∧ hp_I h4 q 3 = 0 ∧ hp_I h4 q 5 = nI (cs s) ∧ hp_I h4 q 6 = nI b ∧ hp_I h4 q 7 = hp_I h q 7 ∧ hp_I h4 q 8 = hp_I h q 8 := by
    refine ⟨r4, ?_, ?_, ?_, ?_, ?_, ?_⟩
    · rw [I4, if_neg (by decide), if_neg (by decide)]; exact i2
    · rw [I4, if_neg (by decide), if_neg (by decide)]; exact i3
    · rw [I4, if_neg (by decide), if_pos rfl]
    · rw [I4, if_pos rfl]
    · rw [I4, if_neg (by decide), if_neg (by decide)]; exact ik 7 (by decide) (by decide)
    · rw [I4, if_neg (by decide), if_neg (by decide)]; exact ik 8 (by decide) (by decide)
  rw [cV_n ss.t e1, pR_n s1.t, gI_n (show hp_t (hp_sR h1 q 4 (some a)) c = 9 from st1.1), show hp_I (hp_sR h1 q 4 (some a)) c 0 = nI (cs s) from st1.2.1, pI_n (show hp_t (hp_sR h1 q 4 (some a)) q = 8 from s1.t), gI_n (show hp_t (hp_sI (hp_sR h1 q 4 (some a)) q 5 (nI (cs s))) c = 9 from st1.1), sI_ne _ _ _ cq, show hp_I (hp_sR h1 q 4 (some a)) c 1 = nI b from st1.2.2, pI_n (show hp_t (hp_sI (hp_sR h1 q 4 (some a)) q 5 (nI (cs s))) q = 8 from s1.t)]
  show ∃ h' P' S' L', cV 3 h4 a (f_X2_room F a h4) _ = _ ∧ _
  have f4 := hc.f4
  have p4 := p16_le f4
  rw [cV_n hc4.t (cc_room F hc4), s4.g0, s4.aP]
  by_cases z : 16 ^ hm_f H ≤ L
  · rw [if_pos (nI_le z (by omega))]
    refine ⟨h4, P, S, L, rfl, fw4, s4, z, Or.inl ⟨rfl, rfl, n1⟩, ⟨?_, ?_, Nat.le_refl _⟩, fin, fun w hw => by rw [IS4]; exact iS w hw⟩
    · show hp_n h1 + _ ≤ _; rw [n1]; exact Nat.le_refl _
    · show hp_s h1 + _ ≤ _; rw [sl1]; exact Nat.le_refl _
  · rw [if_neg (nI_ge (by omega) (by omega)), nA_n rfl (by omega)]
    have n4 : hp_n h4 = hp_n h := n1
    rw [n4]
    let h5 := hp_nw h4 20 (16 ^ hm_f H) (16 ^ hm_f H)
    have q5 : ¬ q = hp_n h := by omega
    have t5 : hp_t h5 q = 8 := by
      show (if q = hp_n h4 then _ else hp_t h4 q) = _
      rw [n4, if_neg q5]; exact s4.t
    rw [pR_n (show hp_t h5 q = 8 from t5), nA_n (n := 16 ^ hm_f H / 32 + 1) (by rw [shr5' (by omega), nI_1]) (by omega)]
    let h6 := hp_sR h5 q 0 (some (hp_n h))
    have n6 : hp_n h6 = hp_n h + 1 := by show hp_n h4 + 1 = _; rw [n4]
    rw [show hp_n (hp_sR (hp_nw h4 20 (16 ^ hm_f H) (16 ^ hm_f H)) q 0 (some (hp_n h))) = hp_n h + 1 from n6]
    let h7 := hp_nw h6 20 (16 ^ hm_f H / 32 + 1) (16 ^ hm_f H / 32 + 1)
    have q6 : ¬ q = hp_n h6 := by rw [n6]; omega
    have t7 : hp_t h7 q = 8 := by
      show (if q = hp_n h6 then _ else hp_t h5 q) = _
      rw [if_neg q6]; exact t5
    rw [pR_n (show hp_t h7 q = 8 from t7)]
    let h8 := hp_sR h7 q 1 (some (hp_n h + 1))
    show ∃ h' P' S' L', some ((), h8) = _ ∧ _
    have fw8 : FW (W3 q P S) h h8 := (((fw4.tr (FW.nw (W := W3 q P S)) (fun _ _ z => z)).tr (FW.sR (W := W3 q P S) (h := h5) (a := q) (k := 0) (v := some (hp_n h)) (Or.inl rfl)) (fun _ _ z => z)).tr (FW.nw (W := W3 q P S) (h := h6)) (fun _ _ z => z)).tr (FW.sR (W := W3 q P S) (h := h7) (a := q) (k := 1) (v := some (hp_n h + 1)) (Or.inl rfl)) (fun _ _ z => z)
    have I8 : hp_I h8 q = hp_I h4 q := by
      funext k
      show (if q = hp_n h6 then 0 else if q = hp_n h4 then 0 else hp_I h4 q k) = _
      rw [if_neg q6, n4, if_neg q5]
    have R8 : ∀ k, hp_R h8 q k = if k = 1 then some (hp_n h + 1) else if k = 0 then some (hp_n h) else hp_R h4 q k := fun k => by
      show hp_R (hp_sR h7 q 1 (some (hp_n h + 1))) q k = _
      rw [sR_at]
      by_cases e : k = 1
      · rw [if_pos e, if_pos e]
      · rw [if_neg e, if_neg e]
        show (if q = hp_n h6 then none else hp_R (hp_sR h5 q 0 (some (hp_n h))) q k) = _
        rw [if_neg q6, sR_at]
        by_cases e2 : k = 0
        · rw [if_pos e2, if_pos e2]
        · rw [if_neg e2, if_neg e2]
          show (if q = hp_n h4 then none else hp_R h4 q k) = _
          rw [n4, if_neg q5]
    have nS : hp_n h + 1 = hp_n h6 := n6.symm
    have nP : ¬ hp_n h = hp_n h6 := by omega
    have nP4 : hp_n h = hp_n h4 := n4.symm
    obtain ⟨e, e4, eL⟩ := ss.2.2.2.2
    have big : 16 * L ≤ 16 ^ hm_f H := by rw [eL] at z ⊢; exact pw16 z
    have L1 : 0 < L := by rw [eL]; exact Nat.pow_pos (by decide)
    refine ⟨h8, hp_n h, hp_n h + 1, 16 ^ hm_f H, rfl, fw8, ⟨⟨?_, ?_, ?_⟩, ⟨?_, ?_⟩, ⟨?_, ?_⟩, by omega, hm_f H, f4, rfl⟩, Nat.le_refl _, Or.inr ⟨rfl, rfl, ?_⟩, ⟨?_, ?_, by omega⟩, ⟨?_, ?_⟩, fun w hw => ?_⟩
    · exact t7
    · rw [R8, if_neg (by decide), if_pos rfl]
    · rw [R8, if_pos rfl]
    · show (if hp_n h = hp_n h6 then 20 else if hp_n h = hp_n h4 then 20 else hp_t h4 (hp_n h)) = 20
      rw [if_neg nP, if_pos nP4]
    · show (if hp_n h = hp_n h6 then _ else if hp_n h = hp_n h4 then 16 ^ hm_f H else hp_l h4 (hp_n h)) = _
      rw [if_neg nP, if_pos nP4]
    · show (if hp_n h + 1 = hp_n h6 then 20 else _) = 20
      rw [if_pos nS]
    · show (if hp_n h + 1 = hp_n h6 then 16 ^ hm_f H / 32 + 1 else _) = _
      rw [if_pos nS]
    · show hp_n h6 + 1 = _; omega
    · show hp_n h6 + 1 + L ≤ _; omega
    · show hp_s h1 + 16 ^ hm_f H + (16 ^ hm_f H / 32 + 1) + 4 * L ≤ _
      rw [sl1]; omega
    · rw [R8, if_neg (by decide), if_neg (by decide)]; exact fin.1
    · rw [I8]; exact fin.2
    · show (if hp_n h + 1 = hp_n h6 then 0 else _) = (0 : Int32)
      rw [if_pos nS]
theorem cc_begin55 (F : Nat) (hF : 70000 ≤ F) {h : Hp} {q P S L a c : Nat} {H : HM} {s b M : Nat} {x y : Int32} (ss : SS h q P S L) (hq : q < hp_n h) (hP : P < hp_n h) (hS : S < hp_n h) (ha : ∀ k, k < 6 → a + k < hp_n h ∧ ¬ W3 q P S (a + k)) (hc : HC h a H) (st : ST h c s b) (hcn : c < hp_n h ∧ ¬ W3 q P S c) (ok : STok H s) (hb : b < 10) (sk : SK x y M) : ∃ h' P' S' L' u p kk n o, f_X7_begin_55 F q a c x y h = some ((), h') ∧ FW (W3 q P S) h h' ∧ SC h' q P' S' L' a H b M s u p kk n o 0 ∧ ((P' = P ∧ S' = S ∧ hp_n h' = hp_n h) ∨ (P' = hp_n h ∧ S' = hp_n h + 1 ∧ hp_n h' = hp_n h + 2)) ∧ BU L L' h h' := by
  have wq : W3 q P S q := Or.inl rfl
  unfold f_X7_begin_55
  rw [pI_n ss.t, pI_n (show hp_t (hp_sI h q 7 x) q = 8 from ss.t)]
  have f2 : FW (W3 q P S) h (hp_sI (hp_sI h q 7 x) q 8 y) := (FW.sI wq).tr (FW.sI wq) (fun _ _ z => z)
  have s2 : SS (hp_sI (hp_sI h q 7 x) q 8 y) q P S L := ss.sh (SH.rf h)
  obtain ⟨h3, P', S', L', e3, f3, s3, l3, a3, b3, ⟨r4, j2, j3, j5, j6, j7, j8⟩, z3⟩ := cc_settle F hF (h := hp_sI (hp_sI h q 7 x) q 8 y) s2 hq hP hS ha (hc.fw f2 ha) (st.fw f2 hcn.1 hcn.2) hcn
  have n2 : hp_n (hp_sI (hp_sI h q 7 x) q 8 y) = hp_n h := rfl
  rw [n2] at a3
  have b3 : BU L L' h h3 := b3
  rw [cV_n s2.t e3, gI_n s3.t, j5]
  have L16 := s3.L16
  have hr := cs_room ok hc.f4
  have fw3 := f2.tr f3 (fun _ _ z => z)
  have rw0 : RW h3 q P' S' L' (fun _ => s) (fun _ => 0) 0 := ⟨s3, ⟨j2, Nat.zero_le _⟩, fun i hi => absurd hi (by omega), fun c hc' => by
    rw [z3 _ (by omega), b_0]
    exact ⟨fun z => absurd z (by decide), fun ⟨i, i1, _⟩ => absurd i1 (by omega)⟩⟩
  obtain ⟨h4, e4, f4, g4, r4'⟩ := cc_add0 F rw0 (v := s) (a := 0) (by omega) (by decide) (fun i hi => absurd hi (by omega)) (by omega)
  have e4 : f_X7_add F q 0 (nI (cs s)) h3 = some ((), h4) := e4
  rw [cV_n s3.t e4]
  have hu : (fun i => if i = 0 then s else s) = fun _ : Nat => s := by funext i; split <;> rfl
  have hp' : (fun i => if i = 0 then 0 else 0) = fun _ : Nat => (0 : Nat) := by funext i; split <;> rfl
  rw [hu, hp'] at r4'
  have an : ∀ k, k < 6 → a + k ≠ P' ∧ a + k ≠ S' := fun k hk => by
    have := ha k hk
    rcases a3 with ⟨w1, w2, -⟩ | ⟨w1, w2, -⟩
    · rw [w1, w2]; exact ⟨fun e => this.2 (Or.inr (Or.inl e)), fun e => this.2 (Or.inr (Or.inr e))⟩
    · rw [w1, w2]; exact ⟨by omega, by omega⟩
  have n4 : hp_n h4 = hp_n h3 := f4.1.2.2.2.1
  refine ⟨h4, P', S', L', _, _, fun _ => 0, 1, 0, rfl, ?_, ⟨r4', ⟨?_, (hc.fw fw3 ha).f3 f4 s3.t an, an, l3⟩, ⟨hb, ok⟩, ⟨?_, ?_, ?_, ?_⟩, BQ.init ok⟩, ?_, ?_⟩
  · refine fw3.tr f4.fw (fun y hy hw => ?_)
    rcases hw with w | w | w
    · exact Or.inl w
    · rcases a3 with ⟨w1, w2, -⟩ | ⟨w1, w2, -⟩
      · exact Or.inr (Or.inl (w.trans w1))
      · omega
    · rcases a3 with ⟨w1, w2, -⟩ | ⟨w1, w2, -⟩
      · exact Or.inr (Or.inr (w.trans w2))
      · omega
  · rw [f4.1.2.2.1]; exact r4
  · rw [g4 3 (by decide)]; exact j3
  · rw [g4 5 (by decide)]; exact j5
  · rw [g4 6 (by decide)]; exact j6
  · rw [g4 7 (by decide), g4 8 (by decide), j7, j8, sI_at, if_neg (by decide), sI_at, if_pos rfl, sI_at, if_pos rfl]; exact sk
  · rw [n4]; exact a3
  · obtain ⟨w1, w2, w3⟩ := b3
    exact ⟨by rw [n4]; exact w1, by rw [f4.1.2.2.2.2.1]; exact w2, w3⟩
/-- a search is begun, or goes on -/
theorem cc_begin (F : Nat) (hF : 70000 ≤ F) {h : Hp} {x q P S L a : Nat} {ow : Nat → Nat} {hs : Nat → HM} {e : Nat} {s b M : Nat} {y z : Int32} (si : SI h q P S L ow hs e) (he : 104 ≤ e) (hq : q < hp_n h) (hc : HC h a (hs a)) (ho : HO h ow a) (st : ST h x s b) (hx : x < hp_n h ∧ ow x < 48) (ok : STok (hs a) s) (hb : b < 10) (sk : SK y z M) : ∃ h' P' S' L' ow' u p kk n o, f_X7_begin F q a x y z h = some ((), h') ∧ FW (W3 q P S) h h' ∧ OE h ow ow' ∧ SC h' q P' S' L' a (hs a) b M s u p kk n o 0 ∧ (ow' P' = e ∧ P' < hp_n h') ∧ (ow' S' = e + 1 ∧ S' < hp_n h') ∧ BU L L' h h' := by
  obtain ⟨ss, ⟨p1, p2⟩, ⟨s1, s2⟩, d⟩ := si
  have xq : x ≠ q := fun z => by
    have t := st.1
    rw [z, ss.t] at t
    exact absurd t (by decide)
  have aq : ∀ k, k < 6 → a + k ≠ q := fun k hk z => by
    rcases Nat.eq_zero_or_pos k with k0 | k0
    · have t := hc.t
      rw [show a = q by omega, ss.t] at t
      exact absurd t (by decide)
    · have t := (hc.1.2 k k0 hk).2.1
      rw [z, ss.t] at t
      exact absurd t (by decide)
  have ha : ∀ k, k < 6 → a + k < hp_n h ∧ ¬ W3 q P S (a + k) := fun k hk => by
    have o := ho k hk
    refine ⟨o.2.2, fun w => ?_⟩
    rcases w with w | w | w
    · exact aq k hk w
    · rw [w, p1] at o; omega
    · rw [w, s1] at o; omega
  have hxn : x < hp_n h ∧ ¬ W3 q P S x := ⟨hx.1, fun w => by
    rcases w with w | w | w
    · exact xq w
    · have := hx.2; rw [w, p1] at this; omega
    · have := hx.2; rw [w, s1] at this; omega⟩
  have key : ∃ h' P' S' L' ow' u p kk n o, f_X7_begin_55 F q a x y z h = some ((), h') ∧ FW (W3 q P S) h h' ∧ OE h ow ow' ∧ SC h' q P' S' L' a (hs a) b M s u p kk n o 0 ∧ (ow' P' = e ∧ P' < hp_n h') ∧ (ow' S' = e + 1 ∧ S' < hp_n h') ∧ BU L L' h h' := by
    obtain ⟨h', P', S', L', u, p, kk, n, o, e1, f1, c1, a1, b1⟩ := cc_begin55 F hF ss hq p2 s2 ha hc st hxn ok hb sk
    refine ⟨h', P', S', L', fun y => if y = hp_n h then e else if y = hp_n h + 1 then e + 1 else ow y, u, p, kk, n, o, e1, f1, fun y hy => ?_, c1, ?_, ?_, b1⟩
    · show (if y = hp_n h then e else if y = hp_n h + 1 then e + 1 else ow y) = ow y
      rw [if_neg (by omega), if_neg (by omega)]
    · show (if P' = hp_n h then e else if P' = hp_n h + 1 then e + 1 else ow P') = e ∧ _
      rcases a1 with ⟨w1, w2, w3⟩ | ⟨w1, w2, w3⟩
      · rw [w1, if_neg (by omega), if_neg (by omega)]; exact ⟨p1, by omega⟩
      · rw [if_pos w1]; exact ⟨rfl, by omega⟩
    · show (if S' = hp_n h then e else if S' = hp_n h + 1 then e + 1 else ow S') = e + 1 ∧ _
      rcases a1 with ⟨w1, w2, w3⟩ | ⟨w1, w2, w3⟩
      · rw [w2, if_neg (by omega), if_neg (by omega)]; exact ⟨s1, by omega⟩
      · rw [if_neg (by omega), if_pos w2]; exact ⟨rfl, by omega⟩
  unfold f_X7_begin
  rw [gI_n ss.t]
  rcases d with d | ⟨a', b', M', s', u, p, kk, n, o, d1, d2⟩
  · rw [d, if_pos (by decide)]; exact key
  · have nL := d1.nL
    have n0 := d1.bq.1.2.1
    rw [d1.1.2.1.1, if_neg (nI_nle n0 (by omega)), d1.g4, gI_n ss.t, gI_n st.1, gI_n ss.t, gI_n st.1, gI_n ss.t, gI_n ss.t, d1.2.2.2.1.2.1, d1.2.2.2.1.2.2.1, st.2.1, st.2.2]
    by_cases z1 : a' = a
    · rw [if_pos z1]
      by_cases z2 : nI (cs s') = nI (cs s)
      · rw [if_pos z2]
        by_cases z3 : nI b' = nI b
        · rw [if_pos z3]
          by_cases z4 : hp_I h q 7 = y
          · rw [if_pos z4]
            by_cases z5 : hp_I h q 8 = z
            · rw [if_pos z5]
              subst z1
              have c1 := cs_lt s'
              have c2 := cs_lt s
              have es : s' = s := cs_inj d1.2.2.1.2.1 ok.1 (nI_inj (by omega) (by omega) z2)
              subst es
              have b1 := d1.2.2.1.1
              have eb : b' = b := nI_inj (by omega) (by omega) z3
              subst eb
              obtain ⟨m1, m2, m3, ⟨m4, m5, m6, m7⟩, m8⟩ := d1
              refine ⟨h, P, S, L, ow, u, p, kk, n, o, rfl, FW.rf _ _, OE.rf _ _, ⟨m1, m2, m3, ⟨m4, m5, m6, by rw [z4, z5]; exact sk⟩, m8.cgM (SK_uniq m7 (by rw [z4, z5]; exact sk))⟩, ⟨p1, p2⟩, ⟨s1, s2⟩, BU.sh (SH.rf h)⟩
            · rw [if_neg z5]; exact key
          · rw [if_neg z4]; exact key
        · rw [if_neg z3]; exact key
      · rw [if_neg z2]; exact key
    · rw [if_neg z1]; exact key
