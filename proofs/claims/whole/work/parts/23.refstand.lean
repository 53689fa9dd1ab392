/-! L3: which cells changed; a house in numbers; the reference's stands and doings -/
def SH (h h' : Hp) : Prop := hp_t h' = hp_t h ∧ hp_l h' = hp_l h ∧ hp_R h' = hp_R h ∧ hp_n h' = hp_n h ∧ hp_s h' = hp_s h ∧ hp_k h' = hp_k h
theorem SH.rf (h : Hp) : SH h h := ⟨rfl, rfl, rfl, rfl, rfl, rfl⟩
theorem SH.tr {h h1 h2 : Hp} (a : SH h h1) (b : SH h1 h2) : SH h h2 := ⟨b.1.trans a.1, b.2.1.trans a.2.1, b.2.2.1.trans a.2.2.1, b.2.2.2.1.trans a.2.2.2.1, b.2.2.2.2.1.trans a.2.2.2.2.1, b.2.2.2.2.2.trans a.2.2.2.2.2⟩
theorem SH.SR {h h' : Hp} {m : Nat} (a : SH h h') (s : SR h m) : SR h' m := by
  obtain ⟨a1, a2, a3, -⟩ := a
  refine ⟨by rw [a1]; exact s.1, fun k h0 h1 => ?_⟩
  rw [a1, a2, a3]
  exact s.2 k h0 h1
/-- three fields that stay -/
def K3 (m : Nat) (h h' : Hp) : Prop := ∀ f, (f = 5 ∨ f = 13 ∨ f = 14) → hp_I h' m f = hp_I h m f
/-- only the ints of the cells m + k, k in ks, changed -/
def CI (m : Nat) (ks : List Nat) (h h' : Hp) : Prop := SH h h' ∧ (hp_L h' = hp_L h ∧ K3 m h h') ∧ ∀ a, (∀ k ∈ ks, a ≠ m + k) → hp_I h' a = hp_I h a
theorem CI.rf (m : Nat) (ks : List Nat) (h : Hp) : CI m ks h h := ⟨SH.rf h, ⟨rfl, fun _ _ => rfl⟩, fun _ _ => rfl⟩
theorem CI.tr {m : Nat} {ks : List Nat} {h h1 h2 : Hp} (a : CI m ks h h1) (b : CI m ks h1 h2) : CI m ks h h2 := ⟨a.1.tr b.1, ⟨b.2.1.1.trans a.2.1.1, fun f hf => (b.2.1.2 f hf).trans (a.2.1.2 f hf)⟩, fun x hx => (b.2.2 x hx).trans (a.2.2 x hx)⟩
theorem CI.mono {m : Nat} {ks ks' : List Nat} {h h' : Hp} (a : CI m ks h h') (hk : ∀ k ∈ ks, k ∈ ks') : CI m ks' h h' := ⟨a.1, a.2.1, fun x hx => a.2.2 x (fun k q => hx k (hk k q))⟩
theorem CI.sI {m k j : Nat} {ks : List Nat} {v : Int32} {h : Hp} (hk : k ∈ ks) (h0 : 0 < k := by decide) : CI m ks h (hp_sI h (m + k) j v) := ⟨SH.rf h, ⟨rfl, fun f _ => by rw [hp_I_sI, if_neg (by omega)]⟩, fun x hx => by
  funext i
  rw [hp_I_sI, if_neg (fun q => hx k hk q.1)]⟩
theorem CI.at {m k : Nat} {ks : List Nat} {h h' : Hp} (a : CI m ks h h') (hk : k ∉ ks) : hp_I h' (m + k) = hp_I h (m + k) := a.2.2 _ (fun j hj e => hk (by rw [show k = j by omega]; exact hj))
theorem CI.out {m a : Nat} {ks : List Nat} {h h' : Hp} (c : CI m ks h h') (hb : ∀ k ∈ ks, k < 18) (ha : a < m ∨ m + 18 ≤ a) : hp_I h' a = hp_I h a := c.2.2 a (fun k hk e => by have := hb k hk; omega)
/-- a house: facts, doings, lines, needs, buts, what a telling brings (bond, twin, fact, known, theirs) -/
abbrev HM : Type := Nat × Nat × Nat × (Nat → Nat → Nat) × (Nat → Nat) × (Nat → Nat → Nat → Nat → Nat → Option Nat)
def hm_f (H : HM) : Nat := H.1
def hm_d (H : HM) : Nat := H.2.1
def hm_l (H : HM) : Nat := H.2.2.1
def hm_n (H : HM) : Nat → Nat → Nat := H.2.2.2.1
def hm_b (H : HM) : Nat → Nat := H.2.2.2.2.1
def hm_c (H : HM) : Nat → Nat → Nat → Nat → Nat → Option Nat := H.2.2.2.2.2
def HMok (H : HM) : Prop := hm_f H ≤ 4 ∧ hm_d H ≤ 6 ∧ (∀ d f, d < 6 → f < 4 → hm_n H d f < 4) ∧ (∀ d, d < 6 → hm_b H d < 16) ∧ (∀ b t f kn th v, hm_c H b t f kn th = some v → v < 4) ∧ hm_l H < 2000
/-- a stand of a house: only its facts are known -/
def STok (H : HM) (s : Nat) : Prop := s < 65536 ∧ ∀ t f, t < 2 → f < 4 → hm_f H ≤ f → dg s (4 * t + f) = 0
/-- the reference's block: what it holds of house, stand, bond -/
def RB (A : Nat → Int32) (H : HM) (s b : Nat) : Prop :=
  A 0 = nI (hm_l H) ∧ A 1 = nI (hm_f H) ∧ A 2 = nI (hm_d H) ∧ (∀ d f, d < 6 → f < 4 → A (13 + 4 * d + f) = nI (hm_n H d f)) ∧ (∀ d, d < 6 → A (37 + d) = nI (hm_b H d)) ∧ (∀ k, k < 8 → A (43 + k) = nI (dg s k)) ∧ A 51 = nI b
theorem rc_standNow_s (F n : Nat) {m : Nat} {h : Hp} (hS : SR h m) {s k acc : Nat} (hA : ∀ k, k < 8 → hp_I h (m + 1) (43 + k) = nI (dg s k)) (hk : k < 8) (hacc : acc < 4 ^ k) : f_X12_standNow_4 F (n + 1) m (nI acc) (nI k) h = f_X12_standNow_4 F n m (nI (acc + dg s k * 4 ^ k)) (nI (k + 1)) h := by
  show f_X12_standNow_4_b F (f_X12_standNow_4 F n) m (nI acc) (nI k) h = _
  unfold f_X12_standNow_4_b
  rw [if_neg (show ¬ (8 : Int32) ≤ nI k from i_ge hk (by decide)), hS.g 1 1 (by decide) rfl, hS.a 1 (43 + k) (show 43 + nI k = nI (43 + k) from nI_add 43 k) (by decide) (show 43 + k < 3132 by omega), hA k hk, lt_e, two_k, nI_1]
  have hd := dg_lt s k
  have hp : (4 : Nat) ^ k ≤ 4 ^ 7 := Nat.pow_le_pow_right (by decide) (by omega)
  have hp7 : (4 : Nat) ^ 7 = 16384 := rfl
  have e1 : dg s k * 4 ^ k ≤ 3 * 4 ^ k := Nat.mul_le_mul_right _ (by omega)
  rw [pk_shlN _ (2 * k) (s_l (2 * k) (by omega)) (by rw [Nat.pow_mul]; show dg s k * 4 ^ k < _; omega), nx_or, Nat.pow_mul]
  show f_X12_standNow_4 F n m (nI (acc ||| dg s k * 4 ^ k)) _ h = _
  have e2 : acc ||| dg s k * 4 ^ k = acc + dg s k * 4 ^ k := by
    have hlt : acc < 2 ^ (2 * k) := by rw [Nat.pow_mul]; exact hacc
    have := Nat.two_pow_add_eq_or_of_lt hlt (dg s k)
    rw [Nat.pow_mul] at this
    rw [Nat.or_comm, Nat.mul_comm]
    show 4 ^ k * dg s k ||| acc = _
    rw [← show 4 ^ k * dg s k + acc = 4 ^ k * dg s k ||| acc from this, Nat.mul_comm, Nat.add_comm]
  rw [e2]
theorem rc_standNow (F : Nat) (hF : 100 ≤ F) {m : Nat} {h : Hp} (hS : SR h m) {s : Nat} (hs : s < 65536) (hA : ∀ k, k < 8 → hp_I h (m + 1) (43 + k) = nI (dg s k)) : f_X12_standNow F m h = some (nI s, h) := by
  obtain ⟨G, hG⟩ : ∃ G, F = G + 1 + 1 + 1 + 1 + 1 + 1 + 1 + 1 + 1 := ⟨F - 9, by omega⟩
  unfold f_X12_standNow
  rw [show f_X12_standNow_4 F F m 0 0 h = f_X12_standNow_4 F (G + 1 + 1 + 1 + 1 + 1 + 1 + 1 + 1 + 1) m (nI 0) (nI 0) h by rw [← hG]; rfl]
  have d0 := dg_lt s 0; have d1 := dg_lt s 1; have d2 := dg_lt s 2; have d3 := dg_lt s 3; have d4 := dg_lt s 4; have d5 := dg_lt s 5; have d6 := dg_lt s 6
  rw [rc_standNow_s F _ hS hA (by decide) (by decide), rc_standNow_s F _ hS hA (by decide) (by simp only [Nat.reducePow, Nat.reduceAdd]; omega), rc_standNow_s F _ hS hA (by decide) (by simp only [Nat.reducePow, Nat.reduceAdd]; omega), rc_standNow_s F _ hS hA (by decide) (by simp only [Nat.reducePow, Nat.reduceAdd]; omega), rc_standNow_s F _ hS hA (by decide) (by simp only [Nat.reducePow, Nat.reduceAdd]; omega), rc_standNow_s F _ hS hA (by decide) (by simp only [Nat.reducePow, Nat.reduceAdd]; omega), rc_standNow_s F _ hS hA (by decide) (by simp only [Nat.reducePow, Nat.reduceAdd]; omega), rc_standNow_s F _ hS hA (by decide) (by simp only [Nat.reducePow, Nat.reduceAdd]; omega)]
  show f_X12_standNow_4_b F (f_X12_standNow_4 F G) m _ (nI 8) h = _
  unfold f_X12_standNow_4_b
  rw [if_pos (show (8 : Int32) ≤ nI 8 by decide)]
  have e := mk_dg hs
  unfold mkS at e
  simp only [Nat.reducePow, Nat.reduceAdd, Nat.zero_add]
  rw [show dg s 0 * 1 + dg s 1 * 4 + dg s 2 * 16 + dg s 3 * 64 + dg s 4 * 256 + dg s 5 * 1024 + dg s 6 * 4096 + dg s 7 * 16384 = s by omega]
/-- an array's ints from place 43 on: a stand -/
def wst (A : Nat → Int32) (s : Nat) : Nat → Nat → Int32
  | 0 => A
  | k + 1 => fun j => if j = 43 + k then nI (dg s k) else wst A s k j
theorem wst_at (A : Nat → Int32) (s : Nat) : ∀ n k, k < n → wst A s n (43 + k) = nI (dg s k) := by
  intro n
  induction n with
  | zero => intro k h; omega
  | succ n ih =>
    intro k hk
    show (if 43 + k = 43 + n then nI (dg s n) else wst A s n (43 + k)) = _
    by_cases e : k = n
    · subst e; rw [if_pos rfl]
    · rw [if_neg (by omega)]; exact ih k (by omega)
theorem wst_out (A : Nat → Int32) (s : Nat) : ∀ n j, (j < 43 ∨ 43 + n ≤ j) → wst A s n j = A j := by
  intro n
  induction n with
  | zero => intro j _; rfl
  | succ n ih =>
    intro j hj
    show (if j = 43 + n then nI (dg s n) else wst A s n j) = _
    rw [if_neg (by omega)]; exact ih j (by omega)
/-- all ints of a cell -/
def hp_c (h : Hp) (a : Nat) (f : Nat → Int32) : Hp := (hp_t h, hp_l h, fun b j => if b = a then f j else hp_I h b j, hp_L h, hp_R h, hp_n h, hp_s h, hp_k h)
theorem hp_c_at (h : Hp) (a : Nat) (f : Nat → Int32) : hp_I (hp_c h a f) a = f := by funext j; show (if a = a then f j else _) = _; rw [if_pos rfl]
theorem hp_c_ne (h : Hp) {a b : Nat} (f : Nat → Int32) (hb : b ≠ a) : hp_I (hp_c h a f) b = hp_I h b := by funext j; show (if b = a then f j else _) = _; rw [if_neg hb]
theorem hp_c_self (h : Hp) (a : Nat) : hp_c h a (hp_I h a) = h := by
  have : (fun b j => if b = a then hp_I h a j else hp_I h b j) = hp_I h := by
    funext b j
    by_cases e : b = a
    · rw [if_pos e, e]
    · rw [if_neg e]
  unfold hp_c
  rw [this]
  rfl
theorem hp_c_sI (h : Hp) (a k : Nat) (f : Nat → Int32) (v : Int32) : hp_sI (hp_c h a f) a k v = hp_c h a (fun j => if j = k then v else f j) := by
  have : up2 (hp_I (hp_c h a f)) a k v = fun b j => if b = a then (if j = k then v else f j) else hp_I h b j := by
    funext b j
    show (if b = a ∧ j = k then v else if b = a then f j else hp_I h b j) = _
    by_cases e : b = a
    · by_cases e2 : j = k
      · simp [e, e2]
      · simp [e, e2]
    · simp [e]
  unfold hp_sI hp_c
  rw [show up2 (hp_I (hp_t h, hp_l h, fun b j => if b = a then f j else hp_I h b j, hp_L h, hp_R h, hp_n h, hp_s h, hp_k h)) a k v = _ from this]
  rfl
theorem SR.c {h : Hp} {m : Nat} (s : SR h m) (a : Nat) (f : Nat → Int32) : SR (hp_c h a f) m := s
theorem CI.c {m k : Nat} {ks : List Nat} {f : Nat → Int32} {h : Hp} (hk : k ∈ ks) (h0 : 0 < k := by decide) : CI m ks h (hp_c h (m + k) f) := ⟨SH.rf h, ⟨rfl, fun g _ => by rw [hp_c_ne h f (show m ≠ m + k by omega)]⟩, fun x hx => hp_c_ne h f (hx k hk)⟩
theorem rc_isStand_s (F n : Nat) {m : Nat} {h : Hp} (hS : SR h m) {s k : Nat} (hs : s < 65536) (A : Nat → Int32) (hk : k < 8) : f_X12_isStand_2 F (n + 1) m (nI s) (nI k) (hp_c h (m + 1) (wst A s k)) = f_X12_isStand_2 F n m (nI s) (nI (k + 1)) (hp_c h (m + 1) (wst A s (k + 1))) := by
  show f_X12_isStand_2_b F (f_X12_isStand_2 F n) m (nI s) (nI k) _ = _
  unfold f_X12_isStand_2_b
  have hS' := hS.c (m + 1) (wst A s k)
  rw [if_neg (show ¬ (8 : Int32) ≤ nI k from i_ge hk (by decide)), hS'.g 1 1 (by decide) rfl, hS'.w 1 (43 + k) (show 43 + nI k = nI (43 + k) from nI_add 43 k) (by decide) (show 43 + k < 3132 by omega), two_k, dg_and hs hk, nI_1, hp_c_sI]
  rfl
theorem rc_isStand (F : Nat) (hF : 100 ≤ F) {m : Nat} {h : Hp} (hS : SR h m) {s : Nat} (hs : s < 65536) : f_X12_isStand F m (nI s) h = some ((), hp_c h (m + 1) (wst (hp_I h (m + 1)) s 8)) := by
  obtain ⟨G, hG⟩ : ∃ G, F = G + 1 + 1 + 1 + 1 + 1 + 1 + 1 + 1 + 1 := ⟨F - 9, by omega⟩
  unfold f_X12_isStand
  rw [show f_X12_isStand_2 F F m (nI s) 0 h = f_X12_isStand_2 F (G + 1 + 1 + 1 + 1 + 1 + 1 + 1 + 1 + 1) m (nI s) (nI 0) (hp_c h (m + 1) (wst (hp_I h (m + 1)) s 0)) by rw [← hG]; show _ = f_X12_isStand_2 F F m (nI s) 0 (hp_c h (m + 1) (hp_I h (m + 1))); rw [hp_c_self]]
  rw [rc_isStand_s F _ hS hs _ (by decide), rc_isStand_s F _ hS hs _ (by decide), rc_isStand_s F _ hS hs _ (by decide), rc_isStand_s F _ hS hs _ (by decide), rc_isStand_s F _ hS hs _ (by decide), rc_isStand_s F _ hS hs _ (by decide), rc_isStand_s F _ hS hs _ (by decide), rc_isStand_s F _ hS hs _ (by decide)]
  show f_X12_isStand_2_b F (f_X12_isStand_2 F G) m (nI s) (nI 8) _ = _
  unfold f_X12_isStand_2_b
  rw [if_pos (show (8 : Int32) ≤ nI 8 by decide)]
