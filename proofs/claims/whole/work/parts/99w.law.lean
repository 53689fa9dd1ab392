/-! L5: the law's loop -/
/-- the script lies at l0 -/
def SCr (h : Hp) (l0 N : Nat) (ow : Nat → Nat) : Prop := hp_t h l0 = 28 ∧ hp_l h l0 = N ∧ N ≤ 3072 ∧ l0 < hp_n h ∧ ow l0 = 400
theorem SCr.a {α : Type} {h : Hp} {l0 N : Nat} {ow : Nat → Nat} (s : SCr h l0 N ow) {i : Nat} {v : Int32} (d : Nat) (hv : v = nI d) (hi : i + d < N) (K : Int32 → Option α) : aX h l0 (nI i + v) K = K (hp_I h l0 (i + d)) := by
  have := s.2.2.1
  subst hv
  unfold aX
  rw [nI_add, gd_t ⟨s.1, by rw [s.2.1]; exact inb_n hi (by omega)⟩, ix_n (by omega)]
theorem SCr.a0 {α : Type} {h : Hp} {l0 N : Nat} {ow : Nat → Nat} (s : SCr h l0 N ow) {i : Nat} (hi : i < N) (K : Int32 → Option α) : aX h l0 (nI i) K = K (hp_I h l0 i) := by
  have := s.2.2.1
  unfold aX
  rw [gd_t ⟨s.1, by rw [s.2.1]; exact inb_n hi (by omega)⟩, ix_n (by omega)]
theorem SCr.al {α : Type} {h : Hp} {l0 N : Nat} {ow : Nat → Nat} (s : SCr h l0 N ow) (K : Int32 → Option α) : alX h l0 K = K (nI N) := by
  unfold alX
  rw [gd_t s.1, s.2.1]
theorem SCr.kp {x : Nat} {h h1 h2 : Hp} {l0 N : Nat} {ow ow' : Nat → Nat} (s : SCr h l0 N ow) (k : KPt x h ow h1 h2 ow') : (hp_t h1 l0 = 28 ∧ hp_l h1 l0 = N ∧ hp_I h1 l0 = hp_I h l0) ∧ SCr h2 l0 N ow' := by
  obtain ⟨s1, s2, s3, s4, s5⟩ := s
  obtain ⟨⟨a1, a2, a3⟩, ⟨b1, b2, b3⟩, c⟩ := k.2.2 l0 s4 s5
  exact ⟨⟨by rw [a1]; exact s1, by rw [a2]; exact s2, a3⟩, by rw [b1]; exact s1, by rw [b2]; exact s2, s3, Nat.lt_of_lt_of_le s4 k.2.1, c⟩
theorem aX1 {α : Type} {h h1 : Hp} {l0 N : Nat} (s : hp_t h1 l0 = 28 ∧ hp_l h1 l0 = N ∧ hp_I h1 l0 = hp_I h l0) (hN : N ≤ 3072) {i : Nat} {v : Int32} (d : Nat) (hv : v = nI d) (hi : i + d < N) (K : Int32 → Option α) : aX h1 l0 (nI i + v) K = K (hp_I h l0 (i + d)) := by
  subst hv
  unfold aX
  rw [nI_add, gd_t ⟨s.1, by rw [s.2.1]; exact inb_n hi (by omega)⟩, ix_n (by omega), s.2.2]
theorem CA.t0 {h : Hp} {x : Nat} {ow : Nat → Nat} {hs : Nat → HM} {T P : Nat} {S : Stt} (c : CA h x ow hs T P S) : hp_t h x = 12 := by
  obtain ⟨a, p, ⟨cv, -, -⟩, -⟩ := c
  exact cv.2.1.1.t0
/-- a step of the law: both answer alike, and it goes on -/
def LSt (F x l0 N : Nat) (g : (Nat → Nat → Nat → Int32 → Hp → Option (Int32 × Hp)) → Nat → Nat → Nat → Int32 → Hp → Option (Int32 × Hp)) : Prop := ∀ (K : Nat → Nat → Nat → Int32 → Hp → Option (Int32 × Hp)) (i : Nat) (h : Hp) (ow : Nat → Nat) (hs : Nat → HM) (T P : Nat) (S : Stt), INV h x ow hs T P S → SCr h l0 N ow → i + 6 ≤ N → ∃ h2 ow' hs' T' P' S', g K l0 x (x + 48) (nI i) h = K l0 x (x + 48) (nI (i + 6)) h2 ∧ INV h2 x ow' hs' T' P' S' ∧ RMm T P h T' P' h2 ∧ SCr h2 l0 N ow'
section law
variable {F x l0 N : Nat}
theorem LS_feed (hF : 70000 ≤ F) : LSt F x l0 N (f_L_law_216 F) := fun K i h ow hs T P S I sc hi => by
  obtain ⟨v, h1, h2, ow', hs', T', P', S', e1, e2, I2, rm, kp⟩ := S_feed hF I (hp_I h l0 (i + 1)) (hp_I h l0 (i + 2)) (hp_I h l0 (i + 3)) (hp_I h l0 (i + 4)) (hp_I h l0 (i + 5))
  obtain ⟨s1, sc2⟩ := sc.kp kp
  have N3 := sc.2.2.1
  refine ⟨h2, ow', hs', T', P', S', ?_, I2, rm, sc2⟩
  unfold f_L_law_216 f_L_law_1654
  rw [sc.a 1 (v := 1) rfl (by omega), sc.a 2 (v := 2) rfl (by omega), sc.a 3 (v := 3) rfl (by omega), sc.a 4 (v := 4) rfl (by omega), sc.a 5 (v := 5) rfl (by omega), cV_n I.1.t0 e1, aX1 s1 N3 1 (v := 1) rfl (by omega), aX1 s1 N3 2 (v := 2) rfl (by omega), aX1 s1 N3 3 (v := 3) rfl (by omega), aX1 s1 N3 4 (v := 4) rfl (by omega), aX1 s1 N3 5 (v := 5) rfl (by omega), cV_n kp.1 e2, if_pos rfl, show nI i + 6 = nI (i + 6) from nI_add i 6]
theorem LS_house (hF : 70000 ≤ F) : LSt F x l0 N (f_L_law_279 F) := fun K i h ow hs T P S I sc hi => by
  obtain ⟨v, h1, h2, ow', hs', T', P', S', e1, e2, I2, rm, kp⟩ := S_house hF I (hp_I h l0 (i + 1))
  obtain ⟨s1, sc2⟩ := sc.kp kp
  have N3 := sc.2.2.1
  refine ⟨h2, ow', hs', T', P', S', ?_, I2, rm, sc2⟩
  unfold f_L_law_279 f_L_law_1654
  rw [sc.a 1 (v := 1) rfl (by omega), cV_n I.1.t0 e1, aX1 s1 N3 1 (v := 1) rfl (by omega), cV_n kp.1 e2, if_pos rfl, show nI i + 6 = nI (i + 6) from nI_add i 6]
theorem LS_fault (hF : 70000 ≤ F) : LSt F x l0 N (f_L_law_302 F) := fun K i h ow hs T P S I sc hi => by
  obtain ⟨v, h1, h2, ow', hs', T', P', S', e1, e2, I2, rm, kp⟩ := S_fault hF I (hp_I h l0 (i + 1))
  obtain ⟨s1, sc2⟩ := sc.kp kp
  have N3 := sc.2.2.1
  refine ⟨h2, ow', hs', T', P', S', ?_, I2, rm, sc2⟩
  unfold f_L_law_302 f_L_law_1654
  rw [sc.a 1 (v := 1) rfl (by omega), cV_n I.1.t0 e1, aX1 s1 N3 1 (v := 1) rfl (by omega), cV_n kp.1 e2, if_pos rfl, show nI i + 6 = nI (i + 6) from nI_add i 6]
theorem LS_age (hF : 70000 ≤ F) : LSt F x l0 N (f_L_law_325 F) := fun K i h ow hs T P S I sc hi => by
  obtain ⟨v, h1, h2, ow', hs', T', P', S', e1, e2, I2, rm, kp⟩ := S_age hF I (hp_I h l0 (i + 1)) (hp_I h l0 (i + 2))
  obtain ⟨s1, sc2⟩ := sc.kp kp
  have N3 := sc.2.2.1
  refine ⟨h2, ow', hs', T', P', S', ?_, I2, rm, sc2⟩
  unfold f_L_law_325 f_L_law_1654
  rw [sc.a 1 (v := 1) rfl (by omega), sc.a 2 (v := 2) rfl (by omega), cV_n I.1.t0 e1, aX1 s1 N3 1 (v := 1) rfl (by omega), aX1 s1 N3 2 (v := 2) rfl (by omega), cV_n kp.1 e2, if_pos rfl, show nI i + 6 = nI (i + 6) from nI_add i 6]
theorem LS_doing (hF : 70000 ≤ F) : LSt F x l0 N (f_L_law_358 F) := fun K i h ow hs T P S I sc hi => by
  obtain ⟨v, h1, h2, ow', hs', T', P', S', e1, e2, I2, rm, kp⟩ := S_doing hF I (hp_I h l0 (i + 1)) (hp_I h l0 (i + 2))
  obtain ⟨s1, sc2⟩ := sc.kp kp
  have N3 := sc.2.2.1
  refine ⟨h2, ow', hs', T', P', S', ?_, I2, rm, sc2⟩
  unfold f_L_law_358 f_L_law_1654
  rw [sc.a 1 (v := 1) rfl (by omega), sc.a 2 (v := 2) rfl (by omega), cV_n I.1.t0 e1, aX1 s1 N3 1 (v := 1) rfl (by omega), aX1 s1 N3 2 (v := 2) rfl (by omega), cV_n kp.1 e2, if_pos rfl, show nI i + 6 = nI (i + 6) from nI_add i 6]
theorem LS_does (hF : 70000 ≤ F) : LSt F x l0 N (f_L_law_391 F) := fun K i h ow hs T P S I sc hi => by
  obtain ⟨v, h1, h2, ow', hs', T', P', S', e1, e2, I2, rm, kp⟩ := S_does hF I (hp_I h l0 (i + 1))
  obtain ⟨s1, sc2⟩ := sc.kp kp
  have N3 := sc.2.2.1
  refine ⟨h2, ow', hs', T', P', S', ?_, I2, rm, sc2⟩
  unfold f_L_law_391 f_L_law_1654
  rw [sc.a 1 (v := 1) rfl (by omega), cV_n I.1.t0 e1, aX1 s1 N3 1 (v := 1) rfl (by omega), cV_n kp.1 e2, if_pos rfl, show nI i + 6 = nI (i + 6) from nI_add i 6]
theorem LS_brings (hF : 70000 ≤ F) : LSt F x l0 N (f_L_law_414 F) := fun K i h ow hs T P S I sc hi => by
  obtain ⟨v, h1, h2, ow', hs', T', P', S', e1, e2, I2, rm, kp⟩ := S_brings hF I (hp_I h l0 (i + 1)) (hp_I h l0 (i + 2)) (hp_I h l0 (i + 3))
  obtain ⟨s1, sc2⟩ := sc.kp kp
  have N3 := sc.2.2.1
  refine ⟨h2, ow', hs', T', P', S', ?_, I2, rm, sc2⟩
  unfold f_L_law_414 f_L_law_1654
  rw [sc.a 1 (v := 1) rfl (by omega), sc.a 2 (v := 2) rfl (by omega), sc.a 3 (v := 3) rfl (by omega), cV_n I.1.t0 e1, aX1 s1 N3 1 (v := 1) rfl (by omega), aX1 s1 N3 2 (v := 2) rfl (by omega), aX1 s1 N3 3 (v := 3) rfl (by omega), cV_n kp.1 e2, if_pos rfl, show nI i + 6 = nI (i + 6) from nI_add i 6]
theorem LS_tell (hF : 70000 ≤ F) : LSt F x l0 N (f_L_law_457 F) := fun K i h ow hs T P S I sc hi => by
  obtain ⟨v, h1, h2, ow', hs', T', P', S', e1, e2, I2, rm, kp⟩ := S_tell hF I (hp_I h l0 (i + 1)) (hp_I h l0 (i + 2))
  obtain ⟨s1, sc2⟩ := sc.kp kp
  have N3 := sc.2.2.1
  refine ⟨h2, ow', hs', T', P', S', ?_, I2, rm, sc2⟩
  unfold f_L_law_457 f_L_law_1654
  rw [sc.a 1 (v := 1) rfl (by omega), sc.a 2 (v := 2) rfl (by omega), cV_n I.1.t0 e1, aX1 s1 N3 1 (v := 1) rfl (by omega), aX1 s1 N3 2 (v := 2) rfl (by omega), cV_n kp.1 e2, if_pos rfl, show nI i + 6 = nI (i + 6) from nI_add i 6]
theorem LS_days (hF : 70000 ≤ F) : LSt F x l0 N (f_L_law_490 F) := fun K i h ow hs T P S I sc hi => by
  obtain ⟨v, h1, h2, ow', hs', T', P', S', e1, e2, I2, rm, kp⟩ := S_days hF I (hp_I h l0 (i + 1))
  obtain ⟨s1, sc2⟩ := sc.kp kp
  have N3 := sc.2.2.1
  refine ⟨h2, ow', hs', T', P', S', ?_, I2, rm, sc2⟩
  unfold f_L_law_490 f_L_law_1654
  rw [sc.a 1 (v := 1) rfl (by omega), cV_n I.1.t0 e1, aX1 s1 N3 1 (v := 1) rfl (by omega), cV_n kp.1 e2, if_pos rfl, show nI i + 6 = nI (i + 6) from nI_add i 6]
theorem LS_forget (hF : 70000 ≤ F) : LSt F x l0 N (f_L_law_513 F) := fun K i h ow hs T P S I sc hi => by
  obtain ⟨v, h1, h2, ow', hs', T', P', S', e1, e2, I2, rm, kp⟩ := S_forget hF I (hp_I h l0 (i + 1)) (hp_I h l0 (i + 2))
  obtain ⟨s1, sc2⟩ := sc.kp kp
  have N3 := sc.2.2.1
  refine ⟨h2, ow', hs', T', P', S', ?_, I2, rm, sc2⟩
  unfold f_L_law_513 f_L_law_1654
  rw [sc.a 1 (v := 1) rfl (by omega), sc.a 2 (v := 2) rfl (by omega), cV_n I.1.t0 e1, aX1 s1 N3 1 (v := 1) rfl (by omega), aX1 s1 N3 2 (v := 2) rfl (by omega), cV_n kp.1 e2, if_pos rfl, show nI i + 6 = nI (i + 6) from nI_add i 6]
theorem LS_bond (hF : 70000 ≤ F) : LSt F x l0 N (f_L_law_546 F) := fun K i h ow hs T P S I sc hi => by
  obtain ⟨v, h1, h2, ow', hs', T', P', S', e1, e2, I2, rm, kp⟩ := S_bond hF I (hp_I h l0 (i + 1))
  obtain ⟨s1, sc2⟩ := sc.kp kp
  have N3 := sc.2.2.1
  refine ⟨h2, ow', hs', T', P', S', ?_, I2, rm, sc2⟩
  unfold f_L_law_546 f_L_law_1654
  rw [sc.a 1 (v := 1) rfl (by omega), cV_n I.1.t0 e1, aX1 s1 N3 1 (v := 1) rfl (by omega), cV_n kp.1 e2, if_pos rfl, show nI i + 6 = nI (i + 6) from nI_add i 6]
theorem LS_undo (hF : 70000 ≤ F) : LSt F x l0 N (f_L_law_569 F) := fun K i h ow hs T P S I sc hi => by
  obtain ⟨v, h1, h2, ow', hs', T', P', S', e1, e2, I2, rm, kp⟩ := S_undo hF I (hp_I h l0 (i + 1))
  obtain ⟨s1, sc2⟩ := sc.kp kp
  have N3 := sc.2.2.1
  refine ⟨h2, ow', hs', T', P', S', ?_, I2, rm, sc2⟩
  unfold f_L_law_569 f_L_law_1654
  rw [sc.a 1 (v := 1) rfl (by omega), cV_n I.1.t0 e1, aX1 s1 N3 1 (v := 1) rfl (by omega), cV_n kp.1 e2, if_pos rfl, show nI i + 6 = nI (i + 6) from nI_add i 6]
theorem LS_judge (hF : 70000 ≤ F) : LSt F x l0 N (f_L_law_592 F) := fun K i h ow hs T P S I sc hi => by
  obtain ⟨v, h1, h2, ow', hs', T', P', S', e1, e2, I2, rm, kp⟩ := S_judge hF I (hp_I h l0 (i + 1)) (hp_I h l0 (i + 2))
  obtain ⟨s1, sc2⟩ := sc.kp kp
  have N3 := sc.2.2.1
  refine ⟨h2, ow', hs', T', P', S', ?_, I2, rm, sc2⟩
  unfold f_L_law_592 f_L_law_1654
  rw [sc.a 1 (v := 1) rfl (by omega), sc.a 2 (v := 2) rfl (by omega), cV_n I.1.t0 e1, aX1 s1 N3 1 (v := 1) rfl (by omega), aX1 s1 N3 2 (v := 2) rfl (by omega), cV_n kp.1 e2, if_pos rfl, show nI i + 6 = nI (i + 6) from nI_add i 6]
theorem LS_perform (hF : 70000 ≤ F) : LSt F x l0 N (f_L_law_625 F) := fun K i h ow hs T P S I sc hi => by
  obtain ⟨v, h1, h2, ow', hs', T', P', S', e1, e2, I2, rm, kp⟩ := S_perform hF I (hp_I h l0 (i + 1))
  obtain ⟨s1, sc2⟩ := sc.kp kp
  have N3 := sc.2.2.1
  refine ⟨h2, ow', hs', T', P', S', ?_, I2, rm, sc2⟩
  unfold f_L_law_625 f_L_law_1654
  rw [sc.a 1 (v := 1) rfl (by omega), cV_n I.1.t0 e1, aX1 s1 N3 1 (v := 1) rfl (by omega), cV_n kp.1 e2, if_pos rfl, show nI i + 6 = nI (i + 6) from nI_add i 6]
theorem LS_year (hF : 70000 ≤ F) : LSt F x l0 N (f_L_law_648 F) := fun K i h ow hs T P S I sc hi => by
  obtain ⟨v, h1, h2, ow', hs', T', P', S', e1, e2, I2, rm, kp⟩ := S_year hF I (hp_I h l0 (i + 1)) (hp_I h l0 (i + 2))
  obtain ⟨s1, sc2⟩ := sc.kp kp
  have N3 := sc.2.2.1
  refine ⟨h2, ow', hs', T', P', S', ?_, I2, rm, sc2⟩
  unfold f_L_law_648 f_L_law_1654
  rw [sc.a 1 (v := 1) rfl (by omega), sc.a 2 (v := 2) rfl (by omega), cV_n I.1.t0 e1, aX1 s1 N3 1 (v := 1) rfl (by omega), aX1 s1 N3 2 (v := 2) rfl (by omega), cV_n kp.1 e2, if_pos rfl, show nI i + 6 = nI (i + 6) from nI_add i 6]
theorem LS_soonest (hF : 70000 ≤ F) : LSt F x l0 N (f_L_law_681 F) := fun K i h ow hs T P S I sc hi => by
  obtain ⟨v, h1, h2, ow', hs', T', P', S', e1, e2, I2, rm, kp⟩ := S_soonest hF I (hp_I h l0 (i + 1)) (hp_I h l0 (i + 2))
  obtain ⟨s1, sc2⟩ := sc.kp kp
  have N3 := sc.2.2.1
  refine ⟨h2, ow', hs', T', P', S', ?_, I2, rm, sc2⟩
  unfold f_L_law_681 f_L_law_1654
  rw [sc.a 1 (v := 1) rfl (by omega), sc.a 2 (v := 2) rfl (by omega), cV_n I.1.t0 e1, aX1 s1 N3 1 (v := 1) rfl (by omega), aX1 s1 N3 2 (v := 2) rfl (by omega), cV_n kp.1 e2, if_pos rfl, show nI i + 6 = nI (i + 6) from nI_add i 6]
theorem LS_way (hF : 70000 ≤ F) : LSt F x l0 N (f_L_law_714 F) := fun K i h ow hs T P S I sc hi => by
  obtain ⟨v, h1, h2, ow', hs', T', P', S', e1, e2, I2, rm, kp⟩ := S_way hF I (hp_I h l0 (i + 1)) (hp_I h l0 (i + 2)) (hp_I h l0 (i + 3))
  obtain ⟨s1, sc2⟩ := sc.kp kp
  have N3 := sc.2.2.1
  refine ⟨h2, ow', hs', T', P', S', ?_, I2, rm, sc2⟩
  unfold f_L_law_714 f_L_law_1654
  rw [sc.a 1 (v := 1) rfl (by omega), sc.a 2 (v := 2) rfl (by omega), sc.a 3 (v := 3) rfl (by omega), cV_n I.1.t0 e1, aX1 s1 N3 1 (v := 1) rfl (by omega), aX1 s1 N3 2 (v := 2) rfl (by omega), aX1 s1 N3 3 (v := 3) rfl (by omega), cV_n kp.1 e2, if_pos rfl, show nI i + 6 = nI (i + 6) from nI_add i 6]
theorem LS_alone (hF : 70000 ≤ F) : LSt F x l0 N (f_L_law_757 F) := fun K i h ow hs T P S I sc hi => by
  obtain ⟨v, h1, h2, ow', hs', T', P', S', e1, e2, I2, rm, kp⟩ := S_alone hF I (hp_I h l0 (i + 1)) (hp_I h l0 (i + 2))
  obtain ⟨s1, sc2⟩ := sc.kp kp
  have N3 := sc.2.2.1
  refine ⟨h2, ow', hs', T', P', S', ?_, I2, rm, sc2⟩
  unfold f_L_law_757 f_L_law_1654
  rw [sc.a 1 (v := 1) rfl (by omega), sc.a 2 (v := 2) rfl (by omega), cV_n I.1.t0 e1, aX1 s1 N3 1 (v := 1) rfl (by omega), aX1 s1 N3 2 (v := 2) rfl (by omega), cV_n kp.1 e2, if_pos rfl, show nI i + 6 = nI (i + 6) from nI_add i 6]
theorem LS_aloneWay (hF : 70000 ≤ F) : LSt F x l0 N (f_L_law_790 F) := fun K i h ow hs T P S I sc hi => by
  obtain ⟨v, h1, h2, ow', hs', T', P', S', e1, e2, I2, rm, kp⟩ := S_aloneWay hF I (hp_I h l0 (i + 1)) (hp_I h l0 (i + 2)) (hp_I h l0 (i + 3))
  obtain ⟨s1, sc2⟩ := sc.kp kp
  have N3 := sc.2.2.1
  refine ⟨h2, ow', hs', T', P', S', ?_, I2, rm, sc2⟩
  unfold f_L_law_790 f_L_law_1654
  rw [sc.a 1 (v := 1) rfl (by omega), sc.a 2 (v := 2) rfl (by omega), sc.a 3 (v := 3) rfl (by omega), cV_n I.1.t0 e1, aX1 s1 N3 1 (v := 1) rfl (by omega), aX1 s1 N3 2 (v := 2) rfl (by omega), aX1 s1 N3 3 (v := 3) rfl (by omega), cV_n kp.1 e2, if_pos rfl, show nI i + 6 = nI (i + 6) from nI_add i 6]
theorem LS_rows (hF : 70000 ≤ F) : LSt F x l0 N (f_L_law_833 F) := fun K i h ow hs T P S I sc hi => by
  obtain ⟨v, h1, h2, ow', hs', T', P', S', e1, e2, I2, rm, kp⟩ := S_rows hF I (hp_I h l0 (i + 1)) (hp_I h l0 (i + 2)) (hp_I h l0 (i + 3))
  obtain ⟨s1, sc2⟩ := sc.kp kp
  have N3 := sc.2.2.1
  refine ⟨h2, ow', hs', T', P', S', ?_, I2, rm, sc2⟩
  unfold f_L_law_833 f_L_law_1654
  rw [sc.a 1 (v := 1) rfl (by omega), sc.a 2 (v := 2) rfl (by omega), sc.a 3 (v := 3) rfl (by omega), cV_n I.1.t0 e1, aX1 s1 N3 1 (v := 1) rfl (by omega), aX1 s1 N3 2 (v := 2) rfl (by omega), aX1 s1 N3 3 (v := 3) rfl (by omega), cV_n kp.1 e2, if_pos rfl, show nI i + 6 = nI (i + 6) from nI_add i 6]
theorem LS_needed (hF : 70000 ≤ F) : LSt F x l0 N (f_L_law_877 F) := fun K i h ow hs T P S I sc hi => by
  obtain ⟨v, h1, h2, ow', hs', T', P', S', e1, e2, I2, rm, kp⟩ := S_needed hF I (hp_I h l0 (i + 1)) (hp_I h l0 (i + 2))
  obtain ⟨s1, sc2⟩ := sc.kp kp
  have N3 := sc.2.2.1
  refine ⟨h2, ow', hs', T', P', S', ?_, I2, rm, sc2⟩
  unfold f_L_law_877 f_L_law_1654
  rw [sc.a 1 (v := 1) rfl (by omega), sc.a 2 (v := 2) rfl (by omega), cV_n I.1.t0 e1, aX1 s1 N3 1 (v := 1) rfl (by omega), aX1 s1 N3 2 (v := 2) rfl (by omega), cV_n kp.1 e2, if_pos rfl, show nI i + 6 = nI (i + 6) from nI_add i 6]
theorem LS_tellings (hF : 70000 ≤ F) : LSt F x l0 N (f_L_law_910 F) := fun K i h ow hs T P S I sc hi => by
  obtain ⟨v, h1, h2, ow', hs', T', P', S', e1, e2, I2, rm, kp⟩ := S_tellings hF I (hp_I h l0 (i + 1)) (hp_I h l0 (i + 2))
  obtain ⟨s1, sc2⟩ := sc.kp kp
  have N3 := sc.2.2.1
  refine ⟨h2, ow', hs', T', P', S', ?_, I2, rm, sc2⟩
  unfold f_L_law_910 f_L_law_1654
  rw [sc.a 1 (v := 1) rfl (by omega), sc.a 2 (v := 2) rfl (by omega), cV_n I.1.t0 e1, aX1 s1 N3 1 (v := 1) rfl (by omega), aX1 s1 N3 2 (v := 2) rfl (by omega), cV_n kp.1 e2, if_pos rfl, show nI i + 6 = nI (i + 6) from nI_add i 6]
theorem LS_can (hF : 70000 ≤ F) : LSt F x l0 N (f_L_law_943 F) := fun K i h ow hs T P S I sc hi => by
  obtain ⟨v, h1, h2, ow', hs', T', P', S', e1, e2, I2, rm, kp⟩ := S_can hF I (hp_I h l0 (i + 1))
  obtain ⟨s1, sc2⟩ := sc.kp kp
  have N3 := sc.2.2.1
  refine ⟨h2, ow', hs', T', P', S', ?_, I2, rm, sc2⟩
  unfold f_L_law_943 f_L_law_1654
  rw [sc.a 1 (v := 1) rfl (by omega), cV_n I.1.t0 e1, aX1 s1 N3 1 (v := 1) rfl (by omega), cV_n kp.1 e2, if_pos rfl, show nI i + 6 = nI (i + 6) from nI_add i 6]
theorem LS_stands (hF : 70000 ≤ F) : LSt F x l0 N (f_L_law_966 F) := fun K i h ow hs T P S I sc hi => by
  obtain ⟨v, h1, h2, ow', hs', T', P', S', e1, e2, I2, rm, kp⟩ := S_stands hF I
  obtain ⟨s1, sc2⟩ := sc.kp kp
  have N3 := sc.2.2.1
  refine ⟨h2, ow', hs', T', P', S', ?_, I2, rm, sc2⟩
  unfold f_L_law_966 f_L_law_1654
  rw [cV_n I.1.t0 e1, cV_n kp.1 e2, if_pos rfl, show nI i + 6 = nI (i + 6) from nI_add i 6]
theorem LS_most (hF : 70000 ≤ F) : LSt F x l0 N (f_L_law_979 F) := fun K i h ow hs T P S I sc hi => by
  obtain ⟨v, h1, h2, ow', hs', T', P', S', e1, e2, I2, rm, kp⟩ := S_most hF I
  obtain ⟨s1, sc2⟩ := sc.kp kp
  have N3 := sc.2.2.1
  refine ⟨h2, ow', hs', T', P', S', ?_, I2, rm, sc2⟩
  unfold f_L_law_979 f_L_law_1654
  rw [cV_n I.1.t0 e1, cV_n kp.1 e2, if_pos rfl, show nI i + 6 = nI (i + 6) from nI_add i 6]
theorem LS_secret (hF : 70000 ≤ F) : LSt F x l0 N (f_L_law_992 F) := fun K i h ow hs T P S I sc hi => by
  obtain ⟨v, h1, h2, ow', hs', T', P', S', e1, e2, I2, rm, kp⟩ := S_secret hF I (hp_I h l0 (i + 1))
  obtain ⟨s1, sc2⟩ := sc.kp kp
  have N3 := sc.2.2.1
  refine ⟨h2, ow', hs', T', P', S', ?_, I2, rm, sc2⟩
  unfold f_L_law_992 f_L_law_1654
  rw [sc.a 1 (v := 1) rfl (by omega), cV_n I.1.t0 e1, aX1 s1 N3 1 (v := 1) rfl (by omega), cV_n kp.1 e2, if_pos rfl, show nI i + 6 = nI (i + 6) from nI_add i 6]
theorem LS_overhears (hF : 70000 ≤ F) : LSt F x l0 N (f_L_law_1015 F) := fun K i h ow hs T P S I sc hi => by
  obtain ⟨v, h1, h2, ow', hs', T', P', S', e1, e2, I2, rm, kp⟩ := S_overhears hF I (hp_I h l0 (i + 1))
  obtain ⟨s1, sc2⟩ := sc.kp kp
  have N3 := sc.2.2.1
  refine ⟨h2, ow', hs', T', P', S', ?_, I2, rm, sc2⟩
  unfold f_L_law_1015 f_L_law_1654
  rw [sc.a 1 (v := 1) rfl (by omega), cV_n I.1.t0 e1, aX1 s1 N3 1 (v := 1) rfl (by omega), cV_n kp.1 e2, if_pos rfl, show nI i + 6 = nI (i + 6) from nI_add i 6]
theorem LS_told (hF : 70000 ≤ F) : LSt F x l0 N (f_L_law_1038 F) := fun K i h ow hs T P S I sc hi => by
  obtain ⟨v, h1, h2, ow', hs', T', P', S', e1, e2, I2, rm, kp⟩ := S_told hF I (hp_I h l0 (i + 1)) (hp_I h l0 (i + 2)) (hp_I h l0 (i + 3))
  obtain ⟨s1, sc2⟩ := sc.kp kp
  have N3 := sc.2.2.1
  refine ⟨h2, ow', hs', T', P', S', ?_, I2, rm, sc2⟩
  unfold f_L_law_1038 f_L_law_1654
  rw [sc.a 1 (v := 1) rfl (by omega), sc.a 2 (v := 2) rfl (by omega), sc.a 3 (v := 3) rfl (by omega), cV_n I.1.t0 e1, aX1 s1 N3 1 (v := 1) rfl (by omega), aX1 s1 N3 2 (v := 2) rfl (by omega), aX1 s1 N3 3 (v := 3) rfl (by omega), cV_n kp.1 e2, if_pos rfl, show nI i + 6 = nI (i + 6) from nI_add i 6]
theorem LS_whom (hF : 70000 ≤ F) : LSt F x l0 N (f_L_law_1081 F) := fun K i h ow hs T P S I sc hi => by
  obtain ⟨v, h1, h2, ow', hs', T', P', S', e1, e2, I2, rm, kp⟩ := S_whom hF I (hp_I h l0 (i + 1)) (hp_I h l0 (i + 2)) (hp_I h l0 (i + 3)) (hp_I h l0 (i + 4))
  obtain ⟨s1, sc2⟩ := sc.kp kp
  have N3 := sc.2.2.1
  refine ⟨h2, ow', hs', T', P', S', ?_, I2, rm, sc2⟩
  unfold f_L_law_1081 f_L_law_1654
  rw [sc.a 1 (v := 1) rfl (by omega), sc.a 2 (v := 2) rfl (by omega), sc.a 3 (v := 3) rfl (by omega), sc.a 4 (v := 4) rfl (by omega), cV_n I.1.t0 e1, aX1 s1 N3 1 (v := 1) rfl (by omega), aX1 s1 N3 2 (v := 2) rfl (by omega), aX1 s1 N3 3 (v := 3) rfl (by omega), aX1 s1 N3 4 (v := 4) rfl (by omega), cV_n kp.1 e2, if_pos rfl, show nI i + 6 = nI (i + 6) from nI_add i 6]
theorem LS_surely (hF : 70000 ≤ F) : LSt F x l0 N (f_L_law_1134 F) := fun K i h ow hs T P S I sc hi => by
  obtain ⟨v, h1, h2, ow', hs', T', P', S', e1, e2, I2, rm, kp⟩ := S_surely hF I (hp_I h l0 (i + 1)) (hp_I h l0 (i + 2)) (hp_I h l0 (i + 3)) (hp_I h l0 (i + 4))
  obtain ⟨s1, sc2⟩ := sc.kp kp
  have N3 := sc.2.2.1
  refine ⟨h2, ow', hs', T', P', S', ?_, I2, rm, sc2⟩
  unfold f_L_law_1134 f_L_law_1654
  rw [sc.a 1 (v := 1) rfl (by omega), sc.a 2 (v := 2) rfl (by omega), sc.a 3 (v := 3) rfl (by omega), sc.a 4 (v := 4) rfl (by omega), cV_n I.1.t0 e1, aX1 s1 N3 1 (v := 1) rfl (by omega), aX1 s1 N3 2 (v := 2) rfl (by omega), aX1 s1 N3 3 (v := 3) rfl (by omega), aX1 s1 N3 4 (v := 4) rfl (by omega), cV_n kp.1 e2, if_pos rfl, show nI i + 6 = nI (i + 6) from nI_add i 6]
theorem LS_bonds (hF : 70000 ≤ F) : LSt F x l0 N (f_L_law_1187 F) := fun K i h ow hs T P S I sc hi => by
  obtain ⟨v, h1, h2, ow', hs', T', P', S', e1, e2, I2, rm, kp⟩ := S_bonds hF I (hp_I h l0 (i + 1)) (hp_I h l0 (i + 2)) (hp_I h l0 (i + 3))
  obtain ⟨s1, sc2⟩ := sc.kp kp
  have N3 := sc.2.2.1
  refine ⟨h2, ow', hs', T', P', S', ?_, I2, rm, sc2⟩
  unfold f_L_law_1187 f_L_law_1654
  rw [sc.a 1 (v := 1) rfl (by omega), sc.a 2 (v := 2) rfl (by omega), sc.a 3 (v := 3) rfl (by omega), cV_n I.1.t0 e1, aX1 s1 N3 1 (v := 1) rfl (by omega), aX1 s1 N3 2 (v := 2) rfl (by omega), aX1 s1 N3 3 (v := 3) rfl (by omega), cV_n kp.1 e2, if_pos rfl, show nI i + 6 = nI (i + 6) from nI_add i 6]
theorem LS_attempt (hF : 70000 ≤ F) : LSt F x l0 N (f_L_law_1230 F) := fun K i h ow hs T P S I sc hi => by
  obtain ⟨v, h1, h2, ow', hs', T', P', S', e1, e2, I2, rm, kp⟩ := S_attempt hF I (hp_I h l0 (i + 1)) (hp_I h l0 (i + 2)) (hp_I h l0 (i + 3))
  obtain ⟨s1, sc2⟩ := sc.kp kp
  have N3 := sc.2.2.1
  refine ⟨h2, ow', hs', T', P', S', ?_, I2, rm, sc2⟩
  unfold f_L_law_1230 f_L_law_1654
  rw [sc.a 1 (v := 1) rfl (by omega), sc.a 2 (v := 2) rfl (by omega), sc.a 3 (v := 3) rfl (by omega), cV_n I.1.t0 e1, aX1 s1 N3 1 (v := 1) rfl (by omega), aX1 s1 N3 2 (v := 2) rfl (by omega), aX1 s1 N3 3 (v := 3) rfl (by omega), cV_n kp.1 e2, if_pos rfl, show nI i + 6 = nI (i + 6) from nI_add i 6]
theorem LS_forces (hF : 70000 ≤ F) : LSt F x l0 N (f_L_law_1273 F) := fun K i h ow hs T P S I sc hi => by
  obtain ⟨v, h1, h2, ow', hs', T', P', S', e1, e2, I2, rm, kp⟩ := S_forces hF I (hp_I h l0 (i + 1)) (hp_I h l0 (i + 2))
  obtain ⟨s1, sc2⟩ := sc.kp kp
  have N3 := sc.2.2.1
  refine ⟨h2, ow', hs', T', P', S', ?_, I2, rm, sc2⟩
  unfold f_L_law_1273 f_L_law_1654
  rw [sc.a 1 (v := 1) rfl (by omega), sc.a 2 (v := 2) rfl (by omega), cV_n I.1.t0 e1, aX1 s1 N3 1 (v := 1) rfl (by omega), aX1 s1 N3 2 (v := 2) rfl (by omega), cV_n kp.1 e2, if_pos rfl, show nI i + 6 = nI (i + 6) from nI_add i 6]
theorem LS_best (hF : 70000 ≤ F) : LSt F x l0 N (f_L_law_1306 F) := fun K i h ow hs T P S I sc hi => by
  obtain ⟨v, h1, h2, ow', hs', T', P', S', e1, e2, I2, rm, kp⟩ := S_best hF I (hp_I h l0 (i + 1)) (hp_I h l0 (i + 2))
  obtain ⟨s1, sc2⟩ := sc.kp kp
  have N3 := sc.2.2.1
  refine ⟨h2, ow', hs', T', P', S', ?_, I2, rm, sc2⟩
  unfold f_L_law_1306 f_L_law_1654
  rw [sc.a 1 (v := 1) rfl (by omega), sc.a 2 (v := 2) rfl (by omega), cV_n I.1.t0 e1, aX1 s1 N3 1 (v := 1) rfl (by omega), aX1 s1 N3 2 (v := 2) rfl (by omega), cV_n kp.1 e2, if_pos rfl, show nI i + 6 = nI (i + 6) from nI_add i 6]
theorem LS_chance (hF : 70000 ≤ F) : LSt F x l0 N (f_L_law_1339 F) := fun K i h ow hs T P S I sc hi => by
  obtain ⟨v, h1, h2, ow', hs', T', P', S', e1, e2, I2, rm, kp⟩ := S_chance hF I (hp_I h l0 (i + 1)) (hp_I h l0 (i + 2)) (hp_I h l0 (i + 3)) (hp_I h l0 (i + 4))
  obtain ⟨s1, sc2⟩ := sc.kp kp
  have N3 := sc.2.2.1
  refine ⟨h2, ow', hs', T', P', S', ?_, I2, rm, sc2⟩
  unfold f_L_law_1339 f_L_law_1654
  rw [sc.a 1 (v := 1) rfl (by omega), sc.a 2 (v := 2) rfl (by omega), sc.a 3 (v := 3) rfl (by omega), sc.a 4 (v := 4) rfl (by omega), cV_n I.1.t0 e1, aX1 s1 N3 1 (v := 1) rfl (by omega), aX1 s1 N3 2 (v := 2) rfl (by omega), aX1 s1 N3 3 (v := 3) rfl (by omega), aX1 s1 N3 4 (v := 4) rfl (by omega), cV_n kp.1 e2, if_pos rfl, show nI i + 6 = nI (i + 6) from nI_add i 6]
theorem LS_likeliest (hF : 70000 ≤ F) : LSt F x l0 N (f_L_law_1392 F) := fun K i h ow hs T P S I sc hi => by
  obtain ⟨v, h1, h2, ow', hs', T', P', S', e1, e2, I2, rm, kp⟩ := S_likeliest hF I (hp_I h l0 (i + 1)) (hp_I h l0 (i + 2))
  obtain ⟨s1, sc2⟩ := sc.kp kp
  have N3 := sc.2.2.1
  refine ⟨h2, ow', hs', T', P', S', ?_, I2, rm, sc2⟩
  unfold f_L_law_1392 f_L_law_1654
  rw [sc.a 1 (v := 1) rfl (by omega), sc.a 2 (v := 2) rfl (by omega), cV_n I.1.t0 e1, aX1 s1 N3 1 (v := 1) rfl (by omega), aX1 s1 N3 2 (v := 2) rfl (by omega), cV_n kp.1 e2, if_pos rfl, show nI i + 6 = nI (i + 6) from nI_add i 6]
theorem LS_numbers (hF : 70000 ≤ F) : LSt F x l0 N (f_L_law_1425 F) := fun K i h ow hs T P S I sc hi => by
  obtain ⟨v, h1, h2, ow', hs', T', P', S', e1, e2, I2, rm, kp⟩ := S_numbers hF I (hp_I h l0 (i + 1)) (hp_I h l0 (i + 2)) (hp_I h l0 (i + 3))
  obtain ⟨s1, sc2⟩ := sc.kp kp
  have N3 := sc.2.2.1
  refine ⟨h2, ow', hs', T', P', S', ?_, I2, rm, sc2⟩
  unfold f_L_law_1425 f_L_law_1654
  rw [sc.a 1 (v := 1) rfl (by omega), sc.a 2 (v := 2) rfl (by omega), sc.a 3 (v := 3) rfl (by omega), cV_n I.1.t0 e1, aX1 s1 N3 1 (v := 1) rfl (by omega), aX1 s1 N3 2 (v := 2) rfl (by omega), aX1 s1 N3 3 (v := 3) rfl (by omega), cV_n kp.1 e2, if_pos rfl, show nI i + 6 = nI (i + 6) from nI_add i 6]
theorem LS_write (hF : 70000 ≤ F) : LSt F x l0 N (f_L_law_1468 F) := fun K i h ow hs T P S I sc hi => by
  obtain ⟨v, h1, h2, ow', hs', T', P', S', e1, e2, I2, rm, kp⟩ := S_write hF I (hp_I h l0 (i + 1)) (hp_I h l0 (i + 2)) (((hp_I h l0 (i + 3)).toInt64 <<< ((32 : Int32).toInt64 &&& 63)) ||| ((hp_I h l0 (i + 4)).toInt64 &&& 4294967295))
  obtain ⟨s1, sc2⟩ := sc.kp kp
  have N3 := sc.2.2.1
  refine ⟨h2, ow', hs', T', P', S', ?_, I2, rm, sc2⟩
  unfold f_L_law_1468 f_L_law_1654
  rw [sc.a 1 (v := 1) rfl (by omega), sc.a 2 (v := 2) rfl (by omega), sc.a 3 (v := 3) rfl (by omega), sc.a 4 (v := 4) rfl (by omega), cV_n I.1.t0 e1, aX1 s1 N3 1 (v := 1) rfl (by omega), aX1 s1 N3 2 (v := 2) rfl (by omega), aX1 s1 N3 3 (v := 3) rfl (by omega), aX1 s1 N3 4 (v := 4) rfl (by omega), cV_n kp.1 e2, if_pos rfl, show nI i + 6 = nI (i + 6) from nI_add i 6]
theorem LS_lists (hF : 70000 ≤ F) : LSt F x l0 N (f_L_law_1542 F) := fun K i h ow hs T P S I sc hi => by
  obtain ⟨v, h1, h2, ow', hs', T', P', S', e1, e2, I2, rm, kp⟩ := S_lists hF I (hp_I h l0 (i + 1)) (hp_I h l0 (i + 2)) (hp_I h l0 (i + 3))
  obtain ⟨s1, sc2⟩ := sc.kp kp
  have N3 := sc.2.2.1
  refine ⟨h2, ow', hs', T', P', S', ?_, I2, rm, sc2⟩
  unfold f_L_law_1542 f_L_law_1654
  rw [sc.a 1 (v := 1) rfl (by omega), sc.a 2 (v := 2) rfl (by omega), sc.a 3 (v := 3) rfl (by omega), cV_n I.1.t0 e1, aX1 s1 N3 1 (v := 1) rfl (by omega), aX1 s1 N3 2 (v := 2) rfl (by omega), aX1 s1 N3 3 (v := 3) rfl (by omega), cV_n kp.1 e2, if_pos rfl, show nI i + 6 = nI (i + 6) from nI_add i 6]
theorem LS_image (hF : 70000 ≤ F) : LSt F x l0 N (f_L_law_1585 F) := fun K i h ow hs T P S I sc hi => by
  obtain ⟨v, h1, h2, ow', hs', T', P', S', e1, e2, I2, rm, kp⟩ := S_image hF I (hp_I h l0 (i + 1))
  obtain ⟨s1, sc2⟩ := sc.kp kp
  have N3 := sc.2.2.1
  refine ⟨h2, ow', hs', T', P', S', ?_, I2, rm, sc2⟩
  unfold f_L_law_1585 f_L_law_1654
  rw [sc.a 1 (v := 1) rfl (by omega), cV_n I.1.t0 e1, aX1 s1 N3 1 (v := 1) rfl (by omega), cV_n kp.1 e2, if_pos rfl, show nI i + 6 = nI (i + 6) from nI_add i 6]
theorem LS_restore (hF : 70000 ≤ F) : LSt F x l0 N (f_L_law_1608 F) := fun K i h ow hs T P S I sc hi => by
  obtain ⟨v, h1, h2, ow', hs', T', P', S', e1, e2, I2, rm, kp⟩ := S_restore hF I (hp_I h l0 (i + 1))
  obtain ⟨s1, sc2⟩ := sc.kp kp
  have N3 := sc.2.2.1
  refine ⟨h2, ow', hs', T', P', S', ?_, I2, rm, sc2⟩
  unfold f_L_law_1608 f_L_law_1654
  rw [sc.a 1 (v := 1) rfl (by omega), cV_n I.1.t0 e1, aX1 s1 N3 1 (v := 1) rfl (by omega), cV_n kp.1 e2, if_pos rfl, show nI i + 6 = nI (i + 6) from nI_add i 6]
theorem LS_count (hF : 70000 ≤ F) : LSt F x l0 N (f_L_law_1631 F) := fun K i h ow hs T P S I sc hi => by
  obtain ⟨v, h1, h2, ow', hs', T', P', S', e1, e2, I2, rm, kp⟩ := S_count hF I (hp_I h l0 (i + 1))
  obtain ⟨s1, sc2⟩ := sc.kp kp
  have N3 := sc.2.2.1
  refine ⟨h2, ow', hs', T', P', S', ?_, I2, rm, sc2⟩
  unfold f_L_law_1631 f_L_law_1654
  rw [sc.a 1 (v := 1) rfl (by omega), cV_n I.1.t0 e1, aX1 s1 N3 1 (v := 1) rfl (by omega), cV_n kp.1 e2, if_pos rfl, show nI i + 6 = nI (i + 6) from nI_add i 6]
theorem LS_none : LSt F x l0 N (f_L_law_1654 F) := fun K i h ow hs T P S I sc hi => by
  refine ⟨h, ow, hs, T, P, S, ?_, I, RMm.sh (SH.rf h), sc⟩
  unfold f_L_law_1654
  rw [show nI i + 6 = nI (i + 6) from nI_add i 6]
theorem LS_body (hF : 70000 ≤ F) : ∀ (K : Nat → Nat → Nat → Int32 → Hp → Option (Int32 × Hp)) (i : Nat) (h : Hp) (ow : Nat → Nat) (hs : Nat → HM) (T P : Nat) (S : Stt), INV h x ow hs T P S → SCr h l0 N ow → i + 6 ≤ N → ∃ h2 ow' hs' T' P' S', f_L_law_18_b F K l0 x (x + 48) (nI i) h = K l0 x (x + 48) (nI (i + 6)) h2 ∧ INV h2 x ow' hs' T' P' S' ∧ RMm T P h T' P' h2 ∧ SCr h2 l0 N ow' := fun K i h ow hs T P S I sc hi => by
  have N3 := sc.2.2.1
  unfold f_L_law_18_b
  have ng : ¬ (nI N - 6) < nI i := fun w => by
    have w1 := Int32.lt_iff_toInt_lt.mp w
    rw [nI_toInt (show i < 2 ^ 31 by omega), show (6 : Int32) = nI 6 from rfl, pk_sub_toInt (by omega) (by decide)] at w1
    omega
  rw [sc.al, if_neg ng, sc.a0 (show i < N by omega), lt_e]
  generalize hp_I h l0 i &&& 63 = w
  by_cases z0 : w = 0
  · rw [if_pos z0]
    exact LS_feed hF K i h ow hs T P S I sc hi
  by_cases z1 : w = 1
  · rw [if_neg z0, if_pos z1]
    exact LS_house hF K i h ow hs T P S I sc hi
  by_cases z2 : w = 2
  · rw [if_neg z0, if_neg z1, if_pos z2]
    exact LS_fault hF K i h ow hs T P S I sc hi
  by_cases z3 : w = 3
  · rw [if_neg z0, if_neg z1, if_neg z2, if_pos z3]
    exact LS_age hF K i h ow hs T P S I sc hi
  by_cases z4 : w = 4
  · rw [if_neg z0, if_neg z1, if_neg z2, if_neg z3, if_pos z4]
    exact LS_doing hF K i h ow hs T P S I sc hi
  by_cases z5 : w = 5
  · rw [if_neg z0, if_neg z1, if_neg z2, if_neg z3, if_neg z4, if_pos z5]
    exact LS_does hF K i h ow hs T P S I sc hi
  by_cases z6 : w = 6
  · rw [if_neg z0, if_neg z1, if_neg z2, if_neg z3, if_neg z4, if_neg z5, if_pos z6]
    exact LS_brings hF K i h ow hs T P S I sc hi
  by_cases z7 : w = 7
  · rw [if_neg z0, if_neg z1, if_neg z2, if_neg z3, if_neg z4, if_neg z5, if_neg z6, if_pos z7]
    exact LS_tell hF K i h ow hs T P S I sc hi
  by_cases z8 : w = 8
  · rw [if_neg z0, if_neg z1, if_neg z2, if_neg z3, if_neg z4, if_neg z5, if_neg z6, if_neg z7, if_pos z8]
    exact LS_days hF K i h ow hs T P S I sc hi
  by_cases z9 : w = 9
  · rw [if_neg z0, if_neg z1, if_neg z2, if_neg z3, if_neg z4, if_neg z5, if_neg z6, if_neg z7, if_neg z8, if_pos z9]
    exact LS_forget hF K i h ow hs T P S I sc hi
  by_cases z10 : w = 10
  · rw [if_neg z0, if_neg z1, if_neg z2, if_neg z3, if_neg z4, if_neg z5, if_neg z6, if_neg z7, if_neg z8, if_neg z9, if_pos z10]
    exact LS_bond hF K i h ow hs T P S I sc hi
  by_cases z11 : w = 11
  · rw [if_neg z0, if_neg z1, if_neg z2, if_neg z3, if_neg z4, if_neg z5, if_neg z6, if_neg z7, if_neg z8, if_neg z9, if_neg z10, if_pos z11]
    exact LS_undo hF K i h ow hs T P S I sc hi
  by_cases z12 : w = 12
  · rw [if_neg z0, if_neg z1, if_neg z2, if_neg z3, if_neg z4, if_neg z5, if_neg z6, if_neg z7, if_neg z8, if_neg z9, if_neg z10, if_neg z11, if_pos z12]
    exact LS_judge hF K i h ow hs T P S I sc hi
  by_cases z13 : w = 13
  · rw [if_neg z0, if_neg z1, if_neg z2, if_neg z3, if_neg z4, if_neg z5, if_neg z6, if_neg z7, if_neg z8, if_neg z9, if_neg z10, if_neg z11, if_neg z12, if_pos z13]
    exact LS_perform hF K i h ow hs T P S I sc hi
  by_cases z14 : w = 14
  · rw [if_neg z0, if_neg z1, if_neg z2, if_neg z3, if_neg z4, if_neg z5, if_neg z6, if_neg z7, if_neg z8, if_neg z9, if_neg z10, if_neg z11, if_neg z12, if_neg z13, if_pos z14]
    exact LS_year hF K i h ow hs T P S I sc hi
  by_cases z15 : w = 15
  · rw [if_neg z0, if_neg z1, if_neg z2, if_neg z3, if_neg z4, if_neg z5, if_neg z6, if_neg z7, if_neg z8, if_neg z9, if_neg z10, if_neg z11, if_neg z12, if_neg z13, if_neg z14, if_pos z15]
    exact LS_soonest hF K i h ow hs T P S I sc hi
  by_cases z16 : w = 16
  · rw [if_neg z0, if_neg z1, if_neg z2, if_neg z3, if_neg z4, if_neg z5, if_neg z6, if_neg z7, if_neg z8, if_neg z9, if_neg z10, if_neg z11, if_neg z12, if_neg z13, if_neg z14, if_neg z15, if_pos z16]
    exact LS_way hF K i h ow hs T P S I sc hi
  by_cases z17 : w = 17
  · rw [if_neg z0, if_neg z1, if_neg z2, if_neg z3, if_neg z4, if_neg z5, if_neg z6, if_neg z7, if_neg z8, if_neg z9, if_neg z10, if_neg z11, if_neg z12, if_neg z13, if_neg z14, if_neg z15, if_neg z16, if_pos z17]
    exact LS_alone hF K i h ow hs T P S I sc hi
  by_cases z18 : w = 18
  · rw [if_neg z0, if_neg z1, if_neg z2, if_neg z3, if_neg z4, if_neg z5, if_neg z6, if_neg z7, if_neg z8, if_neg z9, if_neg z10, if_neg z11, if_neg z12, if_neg z13, if_neg z14, if_neg z15, if_neg z16, if_neg z17, if_pos z18]
    exact LS_aloneWay hF K i h ow hs T P S I sc hi
  by_cases z19 : w = 19
  · rw [if_neg z0, if_neg z1, if_neg z2, if_neg z3, if_neg z4, if_neg z5, if_neg z6, if_neg z7, if_neg z8, if_neg z9, if_neg z10, if_neg z11, if_neg z12, if_neg z13, if_neg z14, if_neg z15, if_neg z16, if_neg z17, if_neg z18, if_pos z19]
    exact LS_rows hF K i h ow hs T P S I sc hi
  by_cases z20 : w = 20
  · rw [if_neg z0, if_neg z1, if_neg z2, if_neg z3, if_neg z4, if_neg z5, if_neg z6, if_neg z7, if_neg z8, if_neg z9, if_neg z10, if_neg z11, if_neg z12, if_neg z13, if_neg z14, if_neg z15, if_neg z16, if_neg z17, if_neg z18, if_neg z19, if_pos z20]
    exact LS_needed hF K i h ow hs T P S I sc hi
  by_cases z21 : w = 21
  · rw [if_neg z0, if_neg z1, if_neg z2, if_neg z3, if_neg z4, if_neg z5, if_neg z6, if_neg z7, if_neg z8, if_neg z9, if_neg z10, if_neg z11, if_neg z12, if_neg z13, if_neg z14, if_neg z15, if_neg z16, if_neg z17, if_neg z18, if_neg z19, if_neg z20, if_pos z21]
    exact LS_tellings hF K i h ow hs T P S I sc hi
  by_cases z22 : w = 22
  · rw [if_neg z0, if_neg z1, if_neg z2, if_neg z3, if_neg z4, if_neg z5, if_neg z6, if_neg z7, if_neg z8, if_neg z9, if_neg z10, if_neg z11, if_neg z12, if_neg z13, if_neg z14, if_neg z15, if_neg z16, if_neg z17, if_neg z18, if_neg z19, if_neg z20, if_neg z21, if_pos z22]
    exact LS_can hF K i h ow hs T P S I sc hi
  by_cases z23 : w = 23
  · rw [if_neg z0, if_neg z1, if_neg z2, if_neg z3, if_neg z4, if_neg z5, if_neg z6, if_neg z7, if_neg z8, if_neg z9, if_neg z10, if_neg z11, if_neg z12, if_neg z13, if_neg z14, if_neg z15, if_neg z16, if_neg z17, if_neg z18, if_neg z19, if_neg z20, if_neg z21, if_neg z22, if_pos z23]
    exact LS_stands hF K i h ow hs T P S I sc hi
  by_cases z24 : w = 24
  · rw [if_neg z0, if_neg z1, if_neg z2, if_neg z3, if_neg z4, if_neg z5, if_neg z6, if_neg z7, if_neg z8, if_neg z9, if_neg z10, if_neg z11, if_neg z12, if_neg z13, if_neg z14, if_neg z15, if_neg z16, if_neg z17, if_neg z18, if_neg z19, if_neg z20, if_neg z21, if_neg z22, if_neg z23, if_pos z24]
    exact LS_most hF K i h ow hs T P S I sc hi
  by_cases z25 : w = 25
  · rw [if_neg z0, if_neg z1, if_neg z2, if_neg z3, if_neg z4, if_neg z5, if_neg z6, if_neg z7, if_neg z8, if_neg z9, if_neg z10, if_neg z11, if_neg z12, if_neg z13, if_neg z14, if_neg z15, if_neg z16, if_neg z17, if_neg z18, if_neg z19, if_neg z20, if_neg z21, if_neg z22, if_neg z23, if_neg z24, if_pos z25]
    exact LS_secret hF K i h ow hs T P S I sc hi
  by_cases z26 : w = 26
  · rw [if_neg z0, if_neg z1, if_neg z2, if_neg z3, if_neg z4, if_neg z5, if_neg z6, if_neg z7, if_neg z8, if_neg z9, if_neg z10, if_neg z11, if_neg z12, if_neg z13, if_neg z14, if_neg z15, if_neg z16, if_neg z17, if_neg z18, if_neg z19, if_neg z20, if_neg z21, if_neg z22, if_neg z23, if_neg z24, if_neg z25, if_pos z26]
    exact LS_overhears hF K i h ow hs T P S I sc hi
  by_cases z27 : w = 27
  · rw [if_neg z0, if_neg z1, if_neg z2, if_neg z3, if_neg z4, if_neg z5, if_neg z6, if_neg z7, if_neg z8, if_neg z9, if_neg z10, if_neg z11, if_neg z12, if_neg z13, if_neg z14, if_neg z15, if_neg z16, if_neg z17, if_neg z18, if_neg z19, if_neg z20, if_neg z21, if_neg z22, if_neg z23, if_neg z24, if_neg z25, if_neg z26, if_pos z27]
    exact LS_told hF K i h ow hs T P S I sc hi
  by_cases z28 : w = 28
  · rw [if_neg z0, if_neg z1, if_neg z2, if_neg z3, if_neg z4, if_neg z5, if_neg z6, if_neg z7, if_neg z8, if_neg z9, if_neg z10, if_neg z11, if_neg z12, if_neg z13, if_neg z14, if_neg z15, if_neg z16, if_neg z17, if_neg z18, if_neg z19, if_neg z20, if_neg z21, if_neg z22, if_neg z23, if_neg z24, if_neg z25, if_neg z26, if_neg z27, if_pos z28]
    exact LS_whom hF K i h ow hs T P S I sc hi
  by_cases z29 : w = 29
  · rw [if_neg z0, if_neg z1, if_neg z2, if_neg z3, if_neg z4, if_neg z5, if_neg z6, if_neg z7, if_neg z8, if_neg z9, if_neg z10, if_neg z11, if_neg z12, if_neg z13, if_neg z14, if_neg z15, if_neg z16, if_neg z17, if_neg z18, if_neg z19, if_neg z20, if_neg z21, if_neg z22, if_neg z23, if_neg z24, if_neg z25, if_neg z26, if_neg z27, if_neg z28, if_pos z29]
    exact LS_surely hF K i h ow hs T P S I sc hi
  by_cases z30 : w = 30
  · rw [if_neg z0, if_neg z1, if_neg z2, if_neg z3, if_neg z4, if_neg z5, if_neg z6, if_neg z7, if_neg z8, if_neg z9, if_neg z10, if_neg z11, if_neg z12, if_neg z13, if_neg z14, if_neg z15, if_neg z16, if_neg z17, if_neg z18, if_neg z19, if_neg z20, if_neg z21, if_neg z22, if_neg z23, if_neg z24, if_neg z25, if_neg z26, if_neg z27, if_neg z28, if_neg z29, if_pos z30]
    exact LS_bonds hF K i h ow hs T P S I sc hi
  by_cases z31 : w = 31
  · rw [if_neg z0, if_neg z1, if_neg z2, if_neg z3, if_neg z4, if_neg z5, if_neg z6, if_neg z7, if_neg z8, if_neg z9, if_neg z10, if_neg z11, if_neg z12, if_neg z13, if_neg z14, if_neg z15, if_neg z16, if_neg z17, if_neg z18, if_neg z19, if_neg z20, if_neg z21, if_neg z22, if_neg z23, if_neg z24, if_neg z25, if_neg z26, if_neg z27, if_neg z28, if_neg z29, if_neg z30, if_pos z31]
    exact LS_attempt hF K i h ow hs T P S I sc hi
  by_cases z32 : w = 32
  · rw [if_neg z0, if_neg z1, if_neg z2, if_neg z3, if_neg z4, if_neg z5, if_neg z6, if_neg z7, if_neg z8, if_neg z9, if_neg z10, if_neg z11, if_neg z12, if_neg z13, if_neg z14, if_neg z15, if_neg z16, if_neg z17, if_neg z18, if_neg z19, if_neg z20, if_neg z21, if_neg z22, if_neg z23, if_neg z24, if_neg z25, if_neg z26, if_neg z27, if_neg z28, if_neg z29, if_neg z30, if_neg z31, if_pos z32]
    exact LS_forces hF K i h ow hs T P S I sc hi
  by_cases z33 : w = 33
  · rw [if_neg z0, if_neg z1, if_neg z2, if_neg z3, if_neg z4, if_neg z5, if_neg z6, if_neg z7, if_neg z8, if_neg z9, if_neg z10, if_neg z11, if_neg z12, if_neg z13, if_neg z14, if_neg z15, if_neg z16, if_neg z17, if_neg z18, if_neg z19, if_neg z20, if_neg z21, if_neg z22, if_neg z23, if_neg z24, if_neg z25, if_neg z26, if_neg z27, if_neg z28, if_neg z29, if_neg z30, if_neg z31, if_neg z32, if_pos z33]
    exact LS_best hF K i h ow hs T P S I sc hi
  by_cases z34 : w = 34
  · rw [if_neg z0, if_neg z1, if_neg z2, if_neg z3, if_neg z4, if_neg z5, if_neg z6, if_neg z7, if_neg z8, if_neg z9, if_neg z10, if_neg z11, if_neg z12, if_neg z13, if_neg z14, if_neg z15, if_neg z16, if_neg z17, if_neg z18, if_neg z19, if_neg z20, if_neg z21, if_neg z22, if_neg z23, if_neg z24, if_neg z25, if_neg z26, if_neg z27, if_neg z28, if_neg z29, if_neg z30, if_neg z31, if_neg z32, if_neg z33, if_pos z34]
    exact LS_chance hF K i h ow hs T P S I sc hi
  by_cases z35 : w = 35
  · rw [if_neg z0, if_neg z1, if_neg z2, if_neg z3, if_neg z4, if_neg z5, if_neg z6, if_neg z7, if_neg z8, if_neg z9, if_neg z10, if_neg z11, if_neg z12, if_neg z13, if_neg z14, if_neg z15, if_neg z16, if_neg z17, if_neg z18, if_neg z19, if_neg z20, if_neg z21, if_neg z22, if_neg z23, if_neg z24, if_neg z25, if_neg z26, if_neg z27, if_neg z28, if_neg z29, if_neg z30, if_neg z31, if_neg z32, if_neg z33, if_neg z34, if_pos z35]
    exact LS_likeliest hF K i h ow hs T P S I sc hi
  by_cases z36 : w = 36
  · rw [if_neg z0, if_neg z1, if_neg z2, if_neg z3, if_neg z4, if_neg z5, if_neg z6, if_neg z7, if_neg z8, if_neg z9, if_neg z10, if_neg z11, if_neg z12, if_neg z13, if_neg z14, if_neg z15, if_neg z16, if_neg z17, if_neg z18, if_neg z19, if_neg z20, if_neg z21, if_neg z22, if_neg z23, if_neg z24, if_neg z25, if_neg z26, if_neg z27, if_neg z28, if_neg z29, if_neg z30, if_neg z31, if_neg z32, if_neg z33, if_neg z34, if_neg z35, if_pos z36]
    exact LS_numbers hF K i h ow hs T P S I sc hi
  by_cases z37 : w = 37
  · rw [if_neg z0, if_neg z1, if_neg z2, if_neg z3, if_neg z4, if_neg z5, if_neg z6, if_neg z7, if_neg z8, if_neg z9, if_neg z10, if_neg z11, if_neg z12, if_neg z13, if_neg z14, if_neg z15, if_neg z16, if_neg z17, if_neg z18, if_neg z19, if_neg z20, if_neg z21, if_neg z22, if_neg z23, if_neg z24, if_neg z25, if_neg z26, if_neg z27, if_neg z28, if_neg z29, if_neg z30, if_neg z31, if_neg z32, if_neg z33, if_neg z34, if_neg z35, if_neg z36, if_pos z37]
    exact LS_write hF K i h ow hs T P S I sc hi
  by_cases z38 : w = 38
  · rw [if_neg z0, if_neg z1, if_neg z2, if_neg z3, if_neg z4, if_neg z5, if_neg z6, if_neg z7, if_neg z8, if_neg z9, if_neg z10, if_neg z11, if_neg z12, if_neg z13, if_neg z14, if_neg z15, if_neg z16, if_neg z17, if_neg z18, if_neg z19, if_neg z20, if_neg z21, if_neg z22, if_neg z23, if_neg z24, if_neg z25, if_neg z26, if_neg z27, if_neg z28, if_neg z29, if_neg z30, if_neg z31, if_neg z32, if_neg z33, if_neg z34, if_neg z35, if_neg z36, if_neg z37, if_pos z38]
    exact LS_lists hF K i h ow hs T P S I sc hi
  by_cases z39 : w = 39
  · rw [if_neg z0, if_neg z1, if_neg z2, if_neg z3, if_neg z4, if_neg z5, if_neg z6, if_neg z7, if_neg z8, if_neg z9, if_neg z10, if_neg z11, if_neg z12, if_neg z13, if_neg z14, if_neg z15, if_neg z16, if_neg z17, if_neg z18, if_neg z19, if_neg z20, if_neg z21, if_neg z22, if_neg z23, if_neg z24, if_neg z25, if_neg z26, if_neg z27, if_neg z28, if_neg z29, if_neg z30, if_neg z31, if_neg z32, if_neg z33, if_neg z34, if_neg z35, if_neg z36, if_neg z37, if_neg z38, if_pos z39]
    exact LS_image hF K i h ow hs T P S I sc hi
  by_cases z40 : w = 40
  · rw [if_neg z0, if_neg z1, if_neg z2, if_neg z3, if_neg z4, if_neg z5, if_neg z6, if_neg z7, if_neg z8, if_neg z9, if_neg z10, if_neg z11, if_neg z12, if_neg z13, if_neg z14, if_neg z15, if_neg z16, if_neg z17, if_neg z18, if_neg z19, if_neg z20, if_neg z21, if_neg z22, if_neg z23, if_neg z24, if_neg z25, if_neg z26, if_neg z27, if_neg z28, if_neg z29, if_neg z30, if_neg z31, if_neg z32, if_neg z33, if_neg z34, if_neg z35, if_neg z36, if_neg z37, if_neg z38, if_neg z39, if_pos z40]
    exact LS_restore hF K i h ow hs T P S I sc hi
  by_cases z41 : w = 41
  · rw [if_neg z0, if_neg z1, if_neg z2, if_neg z3, if_neg z4, if_neg z5, if_neg z6, if_neg z7, if_neg z8, if_neg z9, if_neg z10, if_neg z11, if_neg z12, if_neg z13, if_neg z14, if_neg z15, if_neg z16, if_neg z17, if_neg z18, if_neg z19, if_neg z20, if_neg z21, if_neg z22, if_neg z23, if_neg z24, if_neg z25, if_neg z26, if_neg z27, if_neg z28, if_neg z29, if_neg z30, if_neg z31, if_neg z32, if_neg z33, if_neg z34, if_neg z35, if_neg z36, if_neg z37, if_neg z38, if_neg z39, if_neg z40, if_pos z41]
    exact LS_count hF K i h ow hs T P S I sc hi
  rw [if_neg z0, if_neg z1, if_neg z2, if_neg z3, if_neg z4, if_neg z5, if_neg z6, if_neg z7, if_neg z8, if_neg z9, if_neg z10, if_neg z11, if_neg z12, if_neg z13, if_neg z14, if_neg z15, if_neg z16, if_neg z17, if_neg z18, if_neg z19, if_neg z20, if_neg z21, if_neg z22, if_neg z23, if_neg z24, if_neg z25, if_neg z26, if_neg z27, if_neg z28, if_neg z29, if_neg z30, if_neg z31, if_neg z32, if_neg z33, if_neg z34, if_neg z35, if_neg z36, if_neg z37, if_neg z38, if_neg z39, if_neg z40, if_neg z41]
  exact LS_none K i h ow hs T P S I sc hi
theorem LAW_loop (hF : 70000 ≤ F) : ∀ r i k (h : Hp) (ow : Nat → Nat) (hs : Nat → HM) (T P : Nat) (S : Stt), N ≤ i + 6 * r → r < k → i < 4000 → INV h x ow hs T P S → SCr h l0 N ow → ∃ h2 ow' hs' T' P' S', f_L_law_18 F k l0 x (x + 48) (nI i) h = some (1, h2) ∧ INV h2 x ow' hs' T' P' S' ∧ RMm T P h T' P' h2 := by
  intro r
  induction r with
  | zero =>
    intro i k h ow hs T P S hr hk i4 I sc
    obtain ⟨k, rfl⟩ : ∃ j, k = j + 1 := ⟨k - 1, by omega⟩
    have N3 := sc.2.2.1
    refine ⟨h, ow, hs, T, P, S, ?_, I, RMm.sh (SH.rf h)⟩
    show f_L_law_18_b F (f_L_law_18 F k) l0 x (x + 48) (nI i) h = _
    unfold f_L_law_18_b
    have g : (nI N - 6) < nI i := Int32.lt_iff_toInt_lt.mpr (by
      rw [nI_toInt (show i < 2 ^ 31 by omega), show (6 : Int32) = nI 6 from rfl, pk_sub_toInt (by omega) (by decide)]
      omega)
    rw [sc.al, if_pos g]
  | succ r ih =>
    intro i k h ow hs T P S hr hk i4 I sc
    obtain ⟨k, rfl⟩ : ∃ j, k = j + 1 := ⟨k - 1, by omega⟩
    have N3 := sc.2.2.1
    by_cases z : i + 6 ≤ N
    · obtain ⟨h2, ow', hs', T', P', S', e, I2, rm, sc2⟩ := LS_body (F := F) (x := x) (l0 := l0) (N := N) hF (f_L_law_18 F k) i h ow hs T P S I sc z
      obtain ⟨h3, ow3, hs3, T3, P3, S3, e3, I3, rm3⟩ := ih (i + 6) k h2 ow' hs' T' P' S' (by omega) (by omega) (by omega) I2 sc2
      exact ⟨h3, ow3, hs3, T3, P3, S3, e.trans e3, I3, rm.tr rm3⟩
    · refine ⟨h, ow, hs, T, P, S, ?_, I, RMm.sh (SH.rf h)⟩
      show f_L_law_18_b F (f_L_law_18 F k) l0 x (x + 48) (nI i) h = _
      unfold f_L_law_18_b
      have g : (nI N - 6) < nI i := Int32.lt_iff_toInt_lt.mpr (by
        rw [nI_toInt (show i < 2 ^ 31 by omega), show (6 : Int32) = nI 6 from rfl, pk_sub_toInt (by omega) (by decide)]
        omega)
      rw [sc.al, if_pos g]
end law
