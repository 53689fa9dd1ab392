/-! L3: String constants; tokens of a text -/
def cN (i : Nat) : List Nat := (ks_t i).toList.map Char.toNat
def sl (i : Nat) : Nat := (cN i).length
def ch (i j : Nat) : Nat := (cN i).getD j 0
/-- the String constants as the heap has them -/
def KS (h : Hp) : Prop := ∀ i, i < 3 → hp_t h (hp_k h i) = 14 ∧ hp_I h (hp_k h i) 1 = 0 ∧ ∃ v, hp_R h (hp_k h i) 0 = some v ∧ hp_t h v = 27 ∧ hp_l h v = sl i ∧ ∀ j, j < sl i → hp_I h v j = nI (ch i j)
theorem sl_v : sl 0 = 103 ∧ sl 1 = 12 ∧ sl 2 = 104 := by decide +kernel
theorem ch_lt : ∀ i, i < 3 → ∀ j, j < sl i → ch i j < 128 := by decide +kernel
theorem sl_lt : ∀ i, i < 3 → sl i < 200 := by decide +kernel
theorem rn_b0 (h : Hp) : rn .byte 0 h = some (0, h) := by
  unfold rn
  rw [gd_t (show narrow .byte (.int 0) = .int 0 from pk_nb 0)]
theorem sV_n {α : Type} {h : Hp} {a v : Nat} (t : hp_t h a = 14) (r : hp_R h a 0 = some v) (K : Nat → Option α) : sV h a K = K v := by
  unfold sV
  rw [gd_t t, r]; rfl
theorem sC_n {α : Type} {h : Hp} {a : Nat} (t : hp_t h a = 14) (e : hp_I h a 1 = 0) (K : Int32 → Option α) : sC h a K = K 0 := by
  unfold sC
  rw [gd_t t, e]
theorem alS_n {α : Type} {h : Hp} {a n : Nat} (t : hp_t h a = 27) (l : hp_l h a = n) (K : Int32 → Option α) : alS h a K = K (nI n) := by
  unfold alS
  rw [gd_t t, l]
theorem aS_n {α : Type} {h : Hp} {a j n : Nat} (t : hp_t h a = 27) (l : hp_l h a = n) (hj : j < n) (hn : n < 2 ^ 31) (K : Int32 → Option α) : aS h a (nI j) K = K (hp_I h a j) := by
  unfold aS
  rw [gd_t ⟨t, by rw [l]; exact inb_n hj hn⟩, ix_n (by omega)]
theorem st_len (F : Nat) {h : Hp} (ks : KS h) {i : Nat} (hi : i < 3) : f_J0_length_8abf5 F (hp_k h i) h = some (nI (sl i), h) := by
  obtain ⟨t, c, v, r, tv, lv, -⟩ := ks i hi
  have e : f_J0_coder_7d493 F (hp_k h i) h = some (0, h) := by
    unfold f_J0_coder_7d493
    rw [if_neg (by decide), sC_n t c, rn_b0]
  have l := sl_lt i hi
  unfold f_J0_length_8abf5
  rw [sV_n t r, alS_n tv lv, cV_n t e, pk_shrN (by omega) _ 0 (by decide), Nat.pow_zero, Nat.div_one]
theorem st_lat (F : Nat) {h : Hp} (ks : KS h) {i : Nat} (hi : i < 3) : f_J0_isLatin1_aae02 F (hp_k h i) h = some (1, h) := by
  obtain ⟨t, c, -⟩ := ks i hi
  unfold f_J0_isLatin1_aae02
  rw [if_neg (by decide), sC_n t c, if_pos rfl]
theorem st_chr (F : Nat) {h : Hp} (ks : KS h) {i j : Nat} (hi : i < 3) (hj : j < sl i) : f_J0_charAt_5068e F (hp_k h i) (nI j) h = some (nI (ch i j), h) := by
  obtain ⟨t, c, v, r, tv, lv, cv⟩ := ks i hi
  have l := sl_lt i hi
  have cl := ch_lt i hi j hj
  have e255 : (nI (ch i j) &&& 255) = nI (ch i j) := by rw [pk_andN (by omega) 8 (by decide), Nat.mod_eq_of_lt (by omega)]
  have ec : ((nI (ch i j)).toUInt32 % 65536).toInt32 = nI (ch i j) := by rw [pk_char, pk_tn (by omega), Nat.mod_eq_of_lt (by omega)]
  have er : rn .char (nI (ch i j)) h = some (nI (ch i j), h) := by
    unfold rn
    rw [gd_t (pk_charN (show ch i j < 65536 by omega)).1]
  unfold f_J0_charAt_5068e
  rw [cV_n t (st_lat F ks hi), if_neg (by decide), sV_n t r]
  have e1 : f_J1_charAt_3b067 F v (nI j) h = some (nI (ch i j), h) := by
    unfold f_J1_charAt_3b067 f_J0_checkIndex_df160 f_J3_checkIndex_8e157
    rw [alS_n tv lv, if_neg (nI_pos (by omega)), if_pos (nI_lt hj (by omega))]
    rw [bd_s, bd_s, aS_n tv lv hj (by omega), cv j hj, e255, ec, er]
  rw [bd_n e1, er]
/-! the signs -/
theorem sx_c : ∀ j, j < 12 → ∀ b, b < 256 → (nI (ch 1 j) = (nI b).toInt8.toInt32 ↔ b = ch 1 j) := by decide +kernel
theorem st_idx_r (F : Nat) {h : Hp} {v b : Nat} (hb : b < 256) (tv : hp_t h v = 27) (lv : hp_l h v = 12) (cv : ∀ j, j < 12 → hp_I h v j = nI (ch 1 j)) : ∀ r k n, k + r = 12 → r < n → (∃ j, j < 12 ∧ b = ch 1 j ∧ f_J1_indexOfChar_4cfef_7 F n v (nI 12) ((nI b).toInt8.toInt32) (nI k) h = some (nI j, h)) ∨ ((∀ j, k ≤ j → j < 12 → b ≠ ch 1 j) ∧ f_J1_indexOfChar_4cfef_7 F n v (nI 12) ((nI b).toInt8.toInt32) (nI k) h = some (-1, h)) := by
  intro r
  induction r with
  | zero =>
    intro k n hk hn
    obtain ⟨n, rfl⟩ : ∃ j, n = j + 1 := ⟨n - 1, by omega⟩
    right
    refine ⟨fun j h1 h2 => by omega, ?_⟩
    show f_J1_indexOfChar_4cfef_7_b F (f_J1_indexOfChar_4cfef_7 F n) v (nI 12) _ (nI k) h = _
    unfold f_J1_indexOfChar_4cfef_7_b
    rw [if_pos (nI_le (by omega) (by omega))]
  | succ r ih =>
    intro k n hk hn
    obtain ⟨n, rfl⟩ : ∃ j, n = j + 1 := ⟨n - 1, by omega⟩
    have hk12 : k < 12 := by omega
    show (∃ j, _ ∧ _ ∧ f_J1_indexOfChar_4cfef_7_b F (f_J1_indexOfChar_4cfef_7 F n) v (nI 12) _ (nI k) h = _) ∨ (_ ∧ f_J1_indexOfChar_4cfef_7_b F (f_J1_indexOfChar_4cfef_7 F n) v (nI 12) _ (nI k) h = _)
    unfold f_J1_indexOfChar_4cfef_7_b
    rw [if_neg (nI_ge hk12 (by decide)), aS_n tv lv hk12 (by decide), cv k hk12, nI_1]
    by_cases z : b = ch 1 k
    · left
      exact ⟨k, hk12, z, by rw [if_pos ((sx_c k hk12 b hb).mpr z)]⟩
    · rw [if_neg (fun e => z ((sx_c k hk12 b hb).mp e))]
      rcases ih (k + 1) n (by omega) (by omega) with y | ⟨y1, y2⟩
      · exact Or.inl y
      · right
        refine ⟨fun j h1 h2 => ?_, y2⟩
        by_cases e : j = k
        · rw [e]; exact z
        · exact y1 j (by omega) h2
/-- which sign a byte is -/
def sgr (b : Nat) : Nat → Nat → Nat
  | _, 0 => 25
  | k, r + 1 => if b = ch 1 k then 30 + k else sgr b (k + 1) r
def sg (b : Nat) : Nat := sgr b 0 12
theorem sg_v : ∀ b, b < 256 → (sg b = 25 ∧ ∀ j, j < 12 → b ≠ ch 1 j) ∨ ∃ j, j < 12 ∧ b = ch 1 j ∧ sg b = 30 + j := by decide +kernel
theorem st_idx (F : Nat) (hF : 100 ≤ F) {h : Hp} (ks : KS h) {b : Nat} (hb : b < 256) : (sg b ≠ 25 ∧ ∃ j, j < 12 ∧ f_J0_indexOf_0f7a4 F (hp_k h 1) (nI b) h = some (nI j, h)) ∨ (sg b = 25 ∧ f_J0_indexOf_0f7a4 F (hp_k h 1) (nI b) h = some (-1, h)) := by
  obtain ⟨t, c, v, r, tv, lv, cv⟩ := ks 1 (by decide)
  have s12 := sl_v.2.1
  rw [s12] at lv cv
  have e0 : f_J1_canEncode_9a6ad F (nI b) h = some (1, h) := by
    unfold f_J1_canEncode_9a6ad
    rw [if_neg (nI_pos (by omega)), if_neg (show ¬ (255 : Int32) < nI b from fun e => absurd ((nI_ltI (a := 255) (by decide) (by omega)).mp e) (by omega))]
  have key : ∀ w, f_J1_indexOfChar_4cfef_7 F F v (nI 12) ((nI b).toInt8.toInt32) (nI 0) h = some (w, h) → f_J0_indexOf_0f7a4 F (hp_k h 1) (nI b) h = some (w, h) := fun w hw => by
    unfold f_J0_indexOf_0f7a4 f_J0_indexOf_7cf53
    have e1 : f_J1_indexOf_4cfef F v (nI b) 0 (nI 12) h = some (w, h) := by
      unfold f_J1_indexOf_4cfef f_J1_indexOfChar_4cfef
      rw [bd_n e0, if_neg (by decide), bd_n (show f_J9_max_7cf53 F 0 0 h = some (nI 0, h) from rfl), alS_n tv lv, bd_n (jmin F (A := 12) (B := 12) (by decide) (by decide) h), if_pos (show nI 0 < nI (min 12 12) by decide), lt_e]
      rw [bd_n (show f_J1_indexOfChar_4cfef_7 F F v (nI (min 12 12)) ((nI b).toInt8.toInt32) (nI 0) h = some (w, h) from hw)]
    have e2 : (cV 14 h (hp_k h 1) (f_J0_isLatin1_aae02 F (hp_k h 1) h) fun v1 h2 => if v1 = 0 then none else sV h2 (hp_k h 1) fun v7 => cV 14 h2 (hp_k h 1) (f_J0_length_8abf5 F (hp_k h 1) h2) fun v8 h9 => bd (f_J1_indexOf_4cfef F v7 (nI b) 0 v8 h9) fun v10 h11 => some (v10, h11)) = some (w, h) := by
      rw [cV_n t (st_lat F ks (by decide)), if_neg (by decide), sV_n t r, cV_n t (st_len F ks (by decide)), s12, bd_n e1]
    rw [cV_n t e2]
  rcases st_idx_r F hb tv lv cv 12 0 F (by omega) (by omega) with ⟨j, j1, j2, j3⟩ | ⟨j1, j2⟩
  · left
    refine ⟨?_, j, j1, key _ j3⟩
    rcases sg_v b hb with ⟨-, y⟩ | ⟨i, i1, i2, i3⟩
    · exact absurd j2 (y j j1)
    · omega
  · right
    refine ⟨?_, key _ j2⟩
    rcases sg_v b hb with ⟨y, -⟩ | ⟨i, i1, i2, i3⟩
    · exact y
    · exact absurd i2 (j1 i (by omega) i1)
/-! how far a run of bytes goes -/
def rnk (p : Nat → Bool) : Nat → Nat → Nat
  | 0, k => k
  | r + 1, k => if p k = true then rnk p r (k + 1) else k
theorem rnk_le (p : Nat → Bool) : ∀ r k, k ≤ rnk p r k ∧ rnk p r k ≤ k + r := by
  intro r
  induction r with
  | zero => intro k; exact ⟨Nat.le_refl _, Nat.le_refl _⟩
  | succ r ih =>
    intro k
    unfold rnk
    by_cases z : p k = true
    · rw [if_pos z]; have := ih (k + 1); omega
    · rw [if_neg z]; omega
theorem rnk_in (p : Nat → Bool) : ∀ r k j, k ≤ j → j < rnk p r k → p j = true := by
  intro r
  induction r with
  | zero => intro k j h1 h2; have h2 : j < k := h2; omega
  | succ r ih =>
    intro k j h1 h2
    unfold rnk at h2
    by_cases z : p k = true
    · rw [if_pos z] at h2
      by_cases e : j = k
      · rw [e]; exact z
      · exact ih (k + 1) j (by omega) h2
    · rw [if_neg z] at h2; omega
theorem rnk_t {p : Nat → Bool} {r k : Nat} (z : p k = true) : rnk p (r + 1) k = rnk p r (k + 1) := by
  show (if p k = true then rnk p r (k + 1) else k) = _
  rw [if_pos z]
theorem rnk_f {p : Nat → Bool} {r k : Nat} (z : p k = false) : rnk p r k = k := by
  cases r with
  | zero => rfl
  | succ r =>
    show (if p k = true then rnk p r (k + 1) else k) = _
    rw [if_neg (by rw [z]; decide)]
def wsb (b : Nat) : Bool := decide (b = 10) || decide (b = 32)
def smb (b : Nat) : Bool := decide (97 ≤ b) && decide (b ≤ 122)
def dgb (b : Nat) : Bool := decide (48 ≤ b) && decide (b ≤ 57)
theorem sx_t : ∀ b, b < 256 → (wsb b = true ↔ (sx b = 10 ∨ sx b = 32)) ∧ (smb b = true ↔ ¬ (sx b < 97 ∨ 122 < sx b)) ∧ (dgb b = true ↔ ¬ (sx b < 48 ∨ 57 < sx b)) ∧ sx b &&& 255 = nI b ∧ (b < 128 → sx b = nI b) := by decide +kernel
theorem nI_t : ∀ b, b < 256 → (wsb b = true ↔ (nI b = 10 ∨ nI b = 32)) ∧ (smb b = true ↔ ¬ (nI b < 97 ∨ 122 < nI b)) ∧ (dgb b = true ↔ ¬ (nI b < 48 ∨ 57 < nI b)) := by decide +kernel
/-! words -/
/-- where the reference's words begin, how long they are -/
def wo : Nat → Nat := fun k => [1, 7, 12, 17, 23, 29, 33, 37, 42, 48, 54, 58, 61, 66, 71, 75, 80, 86, 93, 97, 100].getD k 0
def wl : Nat → Nat := fun k => [5, 4, 4, 5, 5, 3, 3, 4, 5, 5, 3, 2, 4, 4, 3, 4, 5, 6, 3, 2, 3].getD k 0
def wch (k j : Nat) : Nat := ch 2 (wo k + j)
/-- the same in the class's order -/
def co : Nat → Nat := fun c => [0, 6, 11, 17, 22, 28, 34, 38, 43, 49, 53, 57, 60, 65, 70, 74, 79, 85, 92, 95, 99].getD c 103
def cpw : Nat → Nat := fun c => [0, 1, 3, 7, 8, 9, 10, 2, 4, 5, 6, 11, 12, 13, 14, 15, 16, 17, 19, 18, 20].getD c 0
def ci : Nat → Nat := fun k => [0, 1, 7, 2, 8, 9, 10, 3, 4, 5, 6, 11, 12, 13, 14, 15, 16, 17, 19, 18, 20].getD k 0
theorem wo_v : ∀ k, k < 21 → wo k + wl k < 104 ∧ (∀ j, j < wl k → ch 2 (wo k + j) ≠ 32) ∧ ch 2 (wo k + wl k) = 32 ∧ wo k + wl k + 1 = (if k = 20 then 104 else wo (k + 1)) ∧ 0 < wl k ∧ wl k ≤ 6 := by decide +kernel
theorem co_v : ∀ c, c < 21 → co c + wl (cpw c) < 103 ∧ (∀ j, j < wl (cpw c) → ch 0 (co c + j) = wch (cpw c) j ∧ ch 0 (co c + j) ≠ 32) ∧ ch 0 (co c + wl (cpw c)) = 32 ∧ co c + wl (cpw c) + 1 = co (c + 1) ∧ cpw c < 21 ∧ ci (cpw c) = c := by decide +kernel
theorem ci_v : ∀ k, k < 21 → ci k < 21 ∧ cpw (ci k) = k := by decide +kernel
def wls (k : Nat) : List Nat := (List.range (wl k)).map (wch k)
theorem wls_i : ∀ k, k < 21 → ∀ k', k' < 21 → wls k = wls k' → k = k' := by decide +kernel
/-- the bytes from A to e are the word k -/
def mt (tp : Nat → Nat) (A e k : Nat) : Prop := e = A + wl k ∧ ∀ j, j < wl k → tp (A + j) = wch k j
theorem mt_u {tp : Nat → Nat} {A e k k' : Nat} (hk : k < 21) (hk' : k' < 21) (h : mt tp A e k) (h' : mt tp A e k') : k = k' := by
  refine wls_i k hk k' hk' ?_
  have el : wl k = wl k' := by have := h.1; have := h'.1; omega
  unfold wls
  rw [← el]
  refine List.map_congr_left fun j hj => ?_
  have hj := List.mem_range.mp hj
  rw [← h.2 j hj, h'.2 j (by omega)]
noncomputable def kwr (tp : Nat → Nat) (A e : Nat) : Nat → Nat → Nat
  | _, 0 => 22
  | k, r + 1 => @ite Nat (mt tp A e k) (Classical.propDecidable _) k (kwr tp A e (k + 1) r)
noncomputable def kw (tp : Nat → Nat) (A e : Nat) : Nat := kwr tp A e 0 21
theorem kwr_v (tp : Nat → Nat) (A e : Nat) : ∀ r k, k + r = 21 → (∃ j, k ≤ j ∧ j < 21 ∧ mt tp A e j ∧ kwr tp A e k r = j) ∨ ((∀ j, k ≤ j → j < 21 → ¬ mt tp A e j) ∧ kwr tp A e k r = 22) := by
  intro r
  induction r with
  | zero => intro k hk; exact Or.inr ⟨fun j h1 h2 => by omega, rfl⟩
  | succ r ih =>
    intro k hk
    show (∃ j, k ≤ j ∧ j < 21 ∧ mt tp A e j ∧ @ite Nat (mt tp A e k) (Classical.propDecidable _) k (kwr tp A e (k + 1) r) = j) ∨ (_ ∧ @ite Nat (mt tp A e k) (Classical.propDecidable _) k (kwr tp A e (k + 1) r) = 22)
    by_cases z : mt tp A e k
    · left; exact ⟨k, Nat.le_refl _, by omega, z, if_pos z⟩
    · rw [if_neg z]
      rcases ih (k + 1) (by omega) with ⟨j, j1, j2, j3, j4⟩ | ⟨j1, j2⟩
      · exact Or.inl ⟨j, by omega, j2, j3, j4⟩
      · right
        refine ⟨fun j h1 h2 => ?_, j2⟩
        by_cases y : j = k
        · rw [y]; exact z
        · exact j1 j (by omega) h2
theorem kw_v (tp : Nat → Nat) (A e : Nat) : (∃ j, j < 21 ∧ mt tp A e j ∧ kw tp A e = j) ∨ ((∀ j, j < 21 → ¬ mt tp A e j) ∧ kw tp A e = 22) := by
  rcases kwr_v tp A e 21 0 (by omega) with ⟨j, -, j2, j3, j4⟩ | ⟨j1, j2⟩
  · exact Or.inl ⟨j, j2, j3, j4⟩
  · exact Or.inr ⟨fun j h2 => j1 j (by omega) h2, j2⟩
theorem kw_m {tp : Nat → Nat} {A e k : Nat} (hk : k < 21) (h : mt tp A e k) : kw tp A e = k := by
  rcases kw_v tp A e with ⟨j, j1, j2, j3⟩ | ⟨j1, -⟩
  · rw [j3]; exact mt_u j1 hk j2 h
  · exact absurd h (j1 k hk)
/-! the token at a place -/
def tA (tp : Nat → Nat) (n pos : Nat) : Nat := rnk (fun j => wsb (tp j)) (n - pos) pos
def tE (tp : Nat → Nat) (n A : Nat) : Nat := if n ≤ A then A else if smb (tp A) = true then rnk (fun j => smb (tp j)) (n - A) A else if dgb (tp A) = true then rnk (fun j => dgb (tp j)) (n - A) A else A + 1
noncomputable def tK (tp : Nat → Nat) (n A : Nat) : Nat := if n ≤ A then 24 else if smb (tp A) = true then kw tp A (rnk (fun j => smb (tp j)) (n - A) A) else if dgb (tp A) = true then (if rnk (fun j => dgb (tp j)) (n - A) A - A ≤ 3 then 23 else 25) else sg (tp A)
def nvr (tp : Nat → Nat) : Nat → Nat → Nat → Nat
  | 0, _, v => v
  | r + 1, k, v => nvr tp r (k + 1) (10 * v + tp k - 48)
def tN (tp : Nat → Nat) (n A : Nat) : Nat := nvr tp (rnk (fun j => dgb (tp j)) (n - A) A - A) A 0
/-- the class's number of a token -/
def ctk (k : Nat) : Int32 := if k < 21 then nI (200 + ci k) else if k = 22 then 3 else if k = 23 then 2 else if k = 24 then 0 else if k = 25 then 1 else nI (ch 1 (k - 30))
theorem tA_le {tp : Nat → Nat} {n pos : Nat} (h : pos ≤ n) : pos ≤ tA tp n pos ∧ tA tp n pos ≤ n := by
  have := rnk_le (fun j => wsb (tp j)) (n - pos) pos
  unfold tA
  omega
theorem tE_le {tp : Nat → Nat} {n A : Nat} (h : A ≤ n) : A ≤ tE tp n A ∧ tE tp n A ≤ n ∧ (A < n → A < tE tp n A) := by
  unfold tE
  by_cases z : n ≤ A
  · rw [if_pos z]; omega
  · rw [if_neg z]
    obtain ⟨r, hr⟩ : ∃ r, n - A = r + 1 := ⟨n - A - 1, by omega⟩
    by_cases z1 : smb (tp A) = true
    · rw [if_pos z1, hr, rnk_t (p := fun j => smb (tp j)) z1]
      have := rnk_le (fun j => smb (tp j)) r (A + 1)
      omega
    · rw [if_neg z1]
      by_cases z2 : dgb (tp A) = true
      · rw [if_pos z2, hr, rnk_t (p := fun j => dgb (tp j)) z2]
        have := rnk_le (fun j => dgb (tp j)) r (A + 1)
        omega
      · rw [if_neg z2]; omega
