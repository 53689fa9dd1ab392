/-! L3: the heap's laws; the reference's shape; numbers of stands -/
theorem hp_t_sI (h : Hp) (a k : Nat) (v : Int32) : hp_t (hp_sI h a k v) = hp_t h := rfl
theorem hp_l_sI (h : Hp) (a k : Nat) (v : Int32) : hp_l (hp_sI h a k v) = hp_l h := rfl
theorem hp_R_sI (h : Hp) (a k : Nat) (v : Int32) : hp_R (hp_sI h a k v) = hp_R h := rfl
theorem hp_L_sI (h : Hp) (a k : Nat) (v : Int32) : hp_L (hp_sI h a k v) = hp_L h := rfl
theorem hp_k_sI (h : Hp) (a k : Nat) (v : Int32) : hp_k (hp_sI h a k v) = hp_k h := rfl
theorem hp_n_sI (h : Hp) (a k : Nat) (v : Int32) : hp_n (hp_sI h a k v) = hp_n h := rfl
theorem hp_s_sI (h : Hp) (a k : Nat) (v : Int32) : hp_s (hp_sI h a k v) = hp_s h := rfl
theorem hp_t_sL (h : Hp) (a k : Nat) (v : Int64) : hp_t (hp_sL h a k v) = hp_t h := rfl
theorem hp_l_sL (h : Hp) (a k : Nat) (v : Int64) : hp_l (hp_sL h a k v) = hp_l h := rfl
theorem hp_R_sL (h : Hp) (a k : Nat) (v : Int64) : hp_R (hp_sL h a k v) = hp_R h := rfl
theorem hp_I_sL (h : Hp) (a k : Nat) (v : Int64) : hp_I (hp_sL h a k v) = hp_I h := rfl
theorem hp_k_sL (h : Hp) (a k : Nat) (v : Int64) : hp_k (hp_sL h a k v) = hp_k h := rfl
theorem hp_n_sL (h : Hp) (a k : Nat) (v : Int64) : hp_n (hp_sL h a k v) = hp_n h := rfl
theorem hp_s_sL (h : Hp) (a k : Nat) (v : Int64) : hp_s (hp_sL h a k v) = hp_s h := rfl
theorem hp_t_sR (h : Hp) (a k : Nat) (v : Option Nat) : hp_t (hp_sR h a k v) = hp_t h := rfl
theorem hp_l_sR (h : Hp) (a k : Nat) (v : Option Nat) : hp_l (hp_sR h a k v) = hp_l h := rfl
theorem hp_I_sR (h : Hp) (a k : Nat) (v : Option Nat) : hp_I (hp_sR h a k v) = hp_I h := rfl
theorem hp_L_sR (h : Hp) (a k : Nat) (v : Option Nat) : hp_L (hp_sR h a k v) = hp_L h := rfl
theorem hp_k_sR (h : Hp) (a k : Nat) (v : Option Nat) : hp_k (hp_sR h a k v) = hp_k h := rfl
theorem hp_n_sR (h : Hp) (a k : Nat) (v : Option Nat) : hp_n (hp_sR h a k v) = hp_n h := rfl
theorem hp_s_sR (h : Hp) (a k : Nat) (v : Option Nat) : hp_s (hp_sR h a k v) = hp_s h := rfl
theorem hp_I_sI (h : Hp) (a k : Nat) (v : Int32) (b j : Nat) : hp_I (hp_sI h a k v) b j = if b = a ∧ j = k then v else hp_I h b j := rfl
theorem hp_L_sL (h : Hp) (a k : Nat) (v : Int64) (b j : Nat) : hp_L (hp_sL h a k v) b j = if b = a ∧ j = k then v else hp_L h b j := rfl
theorem hp_R_sR (h : Hp) (a k : Nat) (v : Option Nat) (b j : Nat) : hp_R (hp_sR h a k v) b j = if b = a ∧ j = k then v else hp_R h b j := rfl
theorem gd_t {α : Type} {q : Prop} [Decidable q] (hq : q) (k : Option α) : gd q k = k := if_pos hq
theorem bd_s {ρ σ : Type} (v : ρ) (h : Hp) (K : ρ → Hp → Option (σ × Hp)) : bd (some (v, h)) K = K v h := rfl
theorem lt_e {α β : Type} (v : α) (k : α → β) : lt v k = k v := rfl
theorem inb_n {j n : Nat} (h : j < n) (hn : n < 2 ^ 31) : inb (nI j) n := nI_in h hn
theorem ix_n {j : Nat} (h : j < 2 ^ 31) : ix (nI j) = j := nI_clamp h
theorem aI_n {α : Type} {t a j n : Nat} {h : Hp} {i : Int32} (ht : hp_t h a = t) (hl : hp_l h a = n) (hi : i = nI j) (hj : j < n) (hn : n < 2 ^ 31) (K : Int32 → Option α) : aI t h a i K = K (hp_I h a j) := by
  subst hi
  unfold aI
  rw [gd_t ⟨ht, by rw [hl]; exact inb_n hj hn⟩, ix_n (by omega)]
theorem aL_n {α : Type} {a j n : Nat} {h : Hp} {i : Int32} (ht : hp_t h a = 23) (hl : hp_l h a = n) (hi : i = nI j) (hj : j < n) (hn : n < 2 ^ 31) (K : Int64 → Option α) : aL h a i K = K (hp_L h a j) := by
  subst hi
  unfold aL
  rw [gd_t ⟨ht, by rw [hl]; exact inb_n hj hn⟩, ix_n (by omega)]
theorem wI_n {α : Type} {a j n : Nat} {h : Hp} {i v : Int32} (ht : hp_t h a = 20) (hl : hp_l h a = n) (hi : i = nI j) (hj : j < n) (hn : n < 2 ^ 31) (K : Hp → Option α) : wI h a i v K = K (hp_sI h a j v) := by
  subst hi
  unfold wI
  rw [gd_t ⟨ht, by rw [hl]; exact inb_n hj hn⟩, ix_n (by omega)]
theorem wL_n {α : Type} {a j n : Nat} {h : Hp} {i : Int32} {v : Int64} (ht : hp_t h a = 23) (hl : hp_l h a = n) (hi : i = nI j) (hj : j < n) (hn : n < 2 ^ 31) (K : Hp → Option α) : wL h a i v K = K (hp_sL h a j v) := by
  subst hi
  unfold wL
  rw [gd_t ⟨ht, by rw [hl]; exact inb_n hj hn⟩, ix_n (by omega)]
theorem wZ_n {α : Type} {a j n : Nat} {h : Hp} {i v : Int32} (ht : hp_t h a = 22) (hl : hp_l h a = n) (hi : i = nI j) (hj : j < n) (hn : n < 2 ^ 31) (hv : v = 0 ∨ v = 1) (K : Hp → Option α) : wZ h a i v K = K (hp_sI h a j v) := by
  subst hi
  unfold wZ
  rw [gd_t ⟨ht, by rw [hl]; exact inb_n hj hn⟩, ix_n (by omega)]
  rcases hv with q | q <;> subst q <;> rfl
theorem gR_n {α : Type} {t a k b : Nat} {h : Hp} (ht : hp_t h a = t) (hr : hp_R h a k = some b) (K : Nat → Option α) : gR t h a k K = K b := by
  unfold gR
  rw [gd_t ht, hr]
  rfl
theorem gI_n {α : Type} {t a k : Nat} {h : Hp} (ht : hp_t h a = t) (K : Int32 → Option α) : gI t h a k K = K (hp_I h a k) := by
  unfold gI
  rw [gd_t ht]
theorem pI_n {α : Type} {t a k : Nat} {h : Hp} {v : Int32} (ht : hp_t h a = t) (K : Hp → Option α) : pI t h a k v K = K (hp_sI h a k v) := by
  unfold pI
  rw [gd_t ht]
theorem cV_n {ρ σ : Type} {t b : Nat} {h : Hp} {q : Option (σ × Hp)} {K : σ → Hp → Option (ρ × Hp)} {v : σ} {h1 : Hp} (ht : hp_t h b = t) (hq : q = some (v, h1)) : cV t h b q K = K v h1 := by
  unfold cV
  rw [gd_t ht, hq]
  rfl
theorem bd_n {ρ σ : Type} {q : Option (σ × Hp)} {K : σ → Hp → Option (ρ × Hp)} {v : σ} {h1 : Hp} (hq : q = some (v, h1)) : bd q K = K v h1 := by rw [hq]; rfl
/-! the reference's shape: the object at m, its arrays behind it -/
def rs_t : Nat → Nat := fun k => if k = 2 ∨ k = 8 then 22 else if k = 11 ∨ k = 12 ∨ k = 17 then 23 else 20
def rs_l : Nat → Nat := fun k => match k with
  | 1 => 3132 | 2 => 2 | 3 => 900 | 4 => 1044 | 5 => 900 | 6 => 6 | 7 => 9 | 8 => 65536 | 9 => 589824 | 10 => 65536 | 11 => 65536 | 12 => 65536 | 13 => 4 | 14 => 65536 | 15 => 4 | 16 => 4 | _ => 160
/-- the field that holds the array at m + k -/
def rs_f : Nat → Nat := fun k => match k with
  | 1 => 1 | 2 => 2 | 3 => 3 | 4 => 4 | 5 => 16 | 6 => 17 | 7 => 18 | 8 => 21 | 9 => 22 | 10 => 23 | 11 => 28 | 12 => 29 | 13 => 30 | 14 => 31 | 15 => 32 | 16 => 33 | _ => 34
def SR (h : Hp) (m : Nat) : Prop := hp_t h m = 13 ∧ ∀ k, 0 < k → k < 18 → hp_R h m (rs_f k) = some (m + k) ∧ hp_t h (m + k) = rs_t k ∧ hp_l h (m + k) = rs_l k
theorem SR.t {h : Hp} {m : Nat} (s : SR h m) : hp_t h m = 13 := s.1
theorem SR.g {α : Type} {h : Hp} {m : Nat} (s : SR h m) (k f : Nat) (hk : 0 < k ∧ k < 18) (hf : rs_f k = f) (K : Nat → Option α) : gR 13 h m f K = K (m + k) := gR_n s.1 (by rw [← hf]; exact (s.2 k hk.1 hk.2).1) K
theorem SR.a {α : Type} {h : Hp} {m : Nat} (s : SR h m) (k j : Nat) {i : Int32} (hi : i = nI j) (hk : 0 < k ∧ k < 18 ∧ rs_t k = 20) (hj : j < rs_l k) (K : Int32 → Option α) : aI 20 h (m + k) i K = K (hp_I h (m + k) j) :=
  aI_n (by rw [(s.2 k hk.1 hk.2.1).2.1]; exact hk.2.2) (s.2 k hk.1 hk.2.1).2.2 hi hj (Nat.lt_of_le_of_lt (m := 600000) (by obtain ⟨a, b, -⟩ := hk; rcases (show k = 1 ∨ k = 2 ∨ k = 3 ∨ k = 4 ∨ k = 5 ∨ k = 6 ∨ k = 7 ∨ k = 8 ∨ k = 9 ∨ k = 10 ∨ k = 11 ∨ k = 12 ∨ k = 13 ∨ k = 14 ∨ k = 15 ∨ k = 16 ∨ k = 17 by omega) with rfl | rfl | rfl | rfl | rfl | rfl | rfl | rfl | rfl | rfl | rfl | rfl | rfl | rfl | rfl | rfl | rfl <;> decide) (by decide)) K
theorem SR.w {α : Type} {h : Hp} {m : Nat} (s : SR h m) (k j : Nat) {i v : Int32} (hi : i = nI j) (hk : 0 < k ∧ k < 18 ∧ rs_t k = 20) (hj : j < rs_l k) (K : Hp → Option α) : wI h (m + k) i v K = K (hp_sI h (m + k) j v) :=
  wI_n (by rw [(s.2 k hk.1 hk.2.1).2.1]; exact hk.2.2) (s.2 k hk.1 hk.2.1).2.2 hi hj (Nat.lt_of_le_of_lt (m := 600000) (by obtain ⟨a, b, -⟩ := hk; rcases (show k = 1 ∨ k = 2 ∨ k = 3 ∨ k = 4 ∨ k = 5 ∨ k = 6 ∨ k = 7 ∨ k = 8 ∨ k = 9 ∨ k = 10 ∨ k = 11 ∨ k = 12 ∨ k = 13 ∨ k = 14 ∨ k = 15 ∨ k = 16 ∨ k = 17 by omega) with rfl | rfl | rfl | rfl | rfl | rfl | rfl | rfl | rfl | rfl | rfl | rfl | rfl | rfl | rfl | rfl | rfl <;> decide) (by decide)) K
theorem SR.sI {h : Hp} {m : Nat} (s : SR h m) (a k : Nat) (v : Int32) : SR (hp_sI h a k v) m := s
theorem SR.sL {h : Hp} {m : Nat} (s : SR h m) (a k : Nat) (v : Int64) : SR (hp_sL h a k v) m := s
/-! stands as numbers: eight ages, two bits each -/
def dg (s k : Nat) : Nat := s / 4 ^ k % 4
theorem dg_lt (s k : Nat) : dg s k < 4 := Nat.mod_lt _ (by decide)
theorem rc_ageIn (F : Nat) {s t f : Nat} (hs : s < 65536) (ht : t < 2) (hf : f < 4) (h : Hp) : f_X12_ageIn F (nI s) (nI t) (nI f) h = some (nI (dg s (4 * t + f)), h) := by
  unfold f_X12_ageIn
  have e : (2 * (4 * nI t + nI f)) &&& 31 = nI (2 * (4 * t + f)) := by
    rcases (show t = 0 ∨ t = 1 by omega) with rfl | rfl <;> rcases (show f = 0 ∨ f = 1 ∨ f = 2 ∨ f = 3 by omega) with rfl | rfl | rfl | rfl <;> decide
  rw [e, pk_shrN (by omega) _ (2 * (4 * t + f)) (by
    rcases (show t = 0 ∨ t = 1 by omega) with rfl | rfl <;> rcases (show f = 0 ∨ f = 1 ∨ f = 2 ∨ f = 3 by omega) with rfl | rfl | rfl | rfl <;> decide), pk_andN (Nat.lt_of_le_of_lt (Nat.div_le_self _ _) (by omega)) 2 (by decide)]
  simp only [dg, Nat.pow_mul, show (2 : Nat) ^ 2 = 4 from rfl]
