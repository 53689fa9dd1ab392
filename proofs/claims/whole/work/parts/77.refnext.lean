/-! L3, the reference: the next token -/
def RDr (h : Hp) (m n : Nat) (tp : Nat → Nat) : Prop := SR h m ∧ (hp_I h m 8 = nI n ∧ n ≤ 900) ∧ (∀ j, j < n → hp_I h (m + 3) j = nI (tp j) ∧ tp j < 256) ∧ KS h
theorem SR.sh {h h' : Hp} {m : Nat} (s : SR h m) (f : SH h h') : SR h' m := by
  unfold SR
  rw [f.1, f.2.1, f.2.2.1]
  exact s
theorem RDr.ff {h h' : Hp} {m n : Nat} {tp : Nat → Nat} {ks : List Nat} (r : RDr h m n tp) (f : FF m ks h h') (h3 : 8 ∉ ks) : RDr h' m n tp := by
  obtain ⟨a1, ⟨a2, a3⟩, a4, a5⟩ := r
  exact ⟨a1.sh f.1.1, ⟨by rw [f.2 8 h3]; exact a2, a3⟩, by rw [f.1.2.2 _ (by omega)]; exact a4, a5.fq f.1 (by rw [a1.t]; decide)⟩
theorem RDr.t {h : Hp} {m n : Nat} {tp : Nat → Nat} (r : RDr h m n tp) : hp_t h m = 13 := r.1.1
def svv (tp : Nat → Nat) (n j : Nat) : Int32 := if j < n then nI (tp j) else -1
theorem rc_see (F : Nat) {h : Hp} {m n : Nat} {tp : Nat → Nat} (r : RDr h m n tp) {j : Nat} (hj : j ≤ n) : f_X12_see F m (nI j) h = some (svv tp n j, h) := by
  have n9 := r.2.1.2
  unfold f_X12_see svv
  rw [gI_n r.t, r.2.1.1]
  by_cases z : j < n
  · rw [if_neg (nI_ge z (by omega)), r.1.g 3 3 (by decide) rfl, r.1.a 3 j rfl (by decide) (show j < 900 by omega), (r.2.2.1 j z).1, if_pos z]
  · rw [if_pos (nI_le (by omega) (by omega)), if_neg z]
theorem rc_small (F : Nat) (h : Hp) : ∀ b, b < 256 → f_X12_isSmall F (nI b) h = some (if smb b = true then 1 else 0, h) := by
  intro b hb
  have st := (nI_t b hb).2.1
  unfold f_X12_isSmall
  by_cases z : smb b = true
  · have y := st.mp z
    rw [if_pos z, if_neg (fun e => y (Or.inl e)), if_neg (fun e => y (Or.inr e))]
  · rw [if_neg z]
    by_cases y : nI b < 97
    · rw [if_pos y]
    · by_cases y2 : 122 < nI b
      · rw [if_neg y, if_pos y2]
      · exact absurd (st.mpr (fun e => by rcases e with e | e; exact y e; exact y2 e)) z
theorem rc_digit (F : Nat) (h : Hp) : ∀ b, b < 256 → f_X12_isDigit F (nI b) h = some (if dgb b = true then 1 else 0, h) := by
  intro b hb
  have st := (nI_t b hb).2.2
  unfold f_X12_isDigit
  by_cases z : dgb b = true
  · have y := st.mp z
    rw [if_pos z, if_neg (fun e => y (Or.inl e)), if_neg (fun e => y (Or.inr e))]
  · rw [if_neg z]
    by_cases y : nI b < 48
    · rw [if_pos y]
    · by_cases y2 : 57 < nI b
      · rw [if_neg y, if_pos y2]
      · exact absurd (st.mpr (fun e => by rcases e with e | e; exact y e; exact y2 e)) z
theorem svv_small (F : Nat) {h : Hp} {m n : Nat} {tp : Nat → Nat} (r : RDr h m n tp) (j : Nat) : f_X12_isSmall F (svv tp n j) h = some (if j < n ∧ smb (tp j) = true then 1 else 0, h) := by
  unfold svv
  by_cases z : j < n
  · rw [if_pos z, rc_small F h _ (r.2.2.1 j z).2]
    by_cases y : smb (tp j) = true
    · rw [if_pos y, if_pos ⟨z, y⟩]
    · rw [if_neg y, if_neg (fun e => y e.2)]
  · rw [if_neg z, if_neg (fun e => z e.1)]; rfl
theorem svv_digit (F : Nat) {h : Hp} {m n : Nat} {tp : Nat → Nat} (r : RDr h m n tp) (j : Nat) : f_X12_isDigit F (svv tp n j) h = some (if j < n ∧ dgb (tp j) = true then 1 else 0, h) := by
  unfold svv
  by_cases z : j < n
  · rw [if_pos z, rc_digit F h _ (r.2.2.1 j z).2]
    by_cases y : dgb (tp j) = true
    · rw [if_pos y, if_pos ⟨z, y⟩]
    · rw [if_neg y, if_neg (fun e => y e.2)]
  · rw [if_neg z, if_neg (fun e => z e.1)]; rfl
/-! keywords -/
def wq : Nat → Nat := fun k => if k = 21 then 104 else wo k
theorem wq_v : ∀ k, k < 21 → wq k = wo k ∧ wq (k + 1) = wo k + wl k + 1 := by decide +kernel
theorem rn_97 (F : Nat) {h : Hp} (ks : KS h) (K4 : Nat → Int32 → Int32 → Hp → Option (Int32 × Hp)) {m k : Nat} (hk : k < 21) : ∀ r i mm, i + r = wl k → r < mm → f_X12_keyAt_97 F K4 mm m (nI k) (nI (wo k + i)) h = K4 m (nI (k + 1)) (nI (wq (k + 1))) h := by
  obtain ⟨w1, w2, w3, w4, w5, w6⟩ := wo_v k hk
  have s2 := sl_v.2.2
  have t14 := (ks 2 (by decide)).1
  intro r
  induction r with
  | zero =>
    intro i mm hi hm
    obtain ⟨mm, rfl⟩ : ∃ j, mm = j + 1 := ⟨mm - 1, by omega⟩
    show f_X12_keyAt_97_b F K4 (f_X12_keyAt_97 F K4 mm) m (nI k) (nI (wo k + i)) h = _
    unfold f_X12_keyAt_97_b
    rw [show i = wl k by omega, cV_n t14 (st_chr F ks (by decide) (by rw [s2]; omega)), w3, if_pos (show nI 32 = 32 from rfl), nI_1, nI_1, (wq_v k hk).2]
  | succ r ih =>
    intro i mm hi hm
    obtain ⟨mm, rfl⟩ : ∃ j, mm = j + 1 := ⟨mm - 1, by omega⟩
    have cl := ch_lt 2 (by decide) (wo k + i) (by rw [s2]; omega)
    show f_X12_keyAt_97_b F K4 (f_X12_keyAt_97 F K4 mm) m (nI k) (nI (wo k + i)) h = _
    unfold f_X12_keyAt_97_b
    rw [cV_n t14 (st_chr F ks (by decide) (by rw [s2]; omega)), if_neg (show ¬ nI (ch 2 (wo k + i)) = 32 from fun z => w2 i (by omega) (nI_inj (b := 32) (by omega) (by decide) z)), nI_1]
    exact ih (i + 1) mm (by omega) (by omega)
theorem rn_15 (F : Nat) {h : Hp} {m n A e : Nat} {tp : Nat → Nat} (r0 : RDr h m n tp) (K4 : Nat → Int32 → Int32 → Hp → Option (Int32 × Hp)) {k : Nat} (hk : k < 21) (h6 : hp_I h m 6 = nI A) (h7 : hp_I h m 7 = nI e) (he : e ≤ n) (hA : A ≤ n) : ∀ r j mm, j + r = wl k → r < mm → sma tp A e k j → ∃ J, f_X12_keyAt_15 F K4 mm m (nI k) (nI (wo k)) (nI j) h = f_X12_keyAt_69 F K4 m (nI k) (nI (wo k)) (nI J) h ∧ J ≤ wl k ∧ (J = wl k ↔ sma tp A e k (wl k)) := by
  obtain ⟨w1, w2, w3, w4, w5, w6⟩ := wo_v k hk
  have n9 := r0.2.1.2
  have s2 := sl_v.2.2
  have ks := r0.2.2.2
  have t14 := (ks 2 (by decide)).1
  intro r
  induction r with
  | zero =>
    intro j mm hj hm sm
    obtain ⟨mm, rfl⟩ : ∃ j, mm = j + 1 := ⟨mm - 1, by omega⟩
    have ej : j = wl k := by omega
    subst ej
    refine ⟨wl k, ?_, Nat.le_refl _, fun _ => sm, fun _ => rfl⟩
    show f_X12_keyAt_15_b F K4 (f_X12_keyAt_15 F K4 mm) m (nI k) (nI (wo k)) (nI (wl k)) h = _
    unfold f_X12_keyAt_15_b
    rw [nI_add, cV_n t14 (st_chr F ks (by decide) (by rw [s2]; omega)), w3, if_pos (show nI 32 = 32 from rfl)]
  | succ r ih =>
    intro j mm hj hm sm
    obtain ⟨mm, rfl⟩ : ∃ j, mm = j + 1 := ⟨mm - 1, by omega⟩
    have jl : j < wl k := by omega
    have cl := ch_lt 2 (by decide) (wo k + j) (by rw [s2]; omega)
    show ∃ J, f_X12_keyAt_15_b F K4 (f_X12_keyAt_15 F K4 mm) m (nI k) (nI (wo k)) (nI j) h = _ ∧ _
    unfold f_X12_keyAt_15_b
    rw [nI_add, cV_n t14 (st_chr F ks (by decide) (by rw [s2]; omega)), if_neg (show ¬ nI (ch 2 (wo k + j)) = 32 from fun z => w2 j jl (nI_inj (b := 32) (by omega) (by decide) z)), gI_n r0.t, h6, gI_n r0.t, h7, nI_add]
    have no : (¬ (A + j < e ∧ tp (A + j) = wch k j)) → (j = wl k ↔ sma tp A e k (wl k)) := fun z => ⟨fun y => by omega, fun y => absurd (y j jl) z⟩
    by_cases y : A + j < e
    · rw [if_neg (nI_ge y (by omega)), r0.1.g 3 3 (by decide) rfl, gI_n r0.t, h6, nI_add, r0.1.a 3 (A + j) rfl (by decide) (show A + j < 900 by omega), (r0.2.2.1 (A + j) (by omega)).1, cV_n t14 (st_chr F ks (by decide) (by rw [s2]; omega)), nI_1]
      have bl := (r0.2.2.1 (A + j) (by omega)).2
      by_cases z : tp (A + j) = ch 2 (wo k + j)
      · rw [if_pos (by rw [z])]
        exact ih (j + 1) mm (by omega) (by omega) (fun i hi => by
          by_cases u : i = j
          · rw [u]; exact ⟨y, z⟩
          · exact sm i (by omega))
      · rw [if_neg (fun g => z (nI_inj (by omega) (by omega) g))]
        exact ⟨j, rfl, by omega, no (fun g => z g.2)⟩
    · rw [if_pos (nI_le (by omega) (by omega))]
      exact ⟨j, rfl, by omega, no (fun g => y g.1)⟩
theorem rn_keys (F : Nat) (hF : 100 ≤ F) {h : Hp} {m n A e : Nat} {tp : Nat → Nat} (r0 : RDr h m n tp) (h6 : hp_I h m 6 = nI A) (h7 : hp_I h m 7 = nI e) (he : e ≤ n) (hA : A ≤ n) : ∀ r k mm, k + r = 21 → r < mm → f_X12_keyAt_4 F mm m (nI k) (nI (wq k)) h = some (nI (kwr tp A e k r), h) := by
  have n9 := r0.2.1.2
  have s2 := sl_v.2.2
  have ks := r0.2.2.2
  have t14 := (ks 2 (by decide)).1
  intro r
  induction r with
  | zero =>
    intro k mm hk hm
    obtain ⟨mm, rfl⟩ : ∃ j, mm = j + 1 := ⟨mm - 1, by omega⟩
    show f_X12_keyAt_4_b F (f_X12_keyAt_4 F mm) m (nI k) (nI (wq k)) h = _
    unfold f_X12_keyAt_4_b
    rw [cV_n t14 (st_len F ks (by decide)), s2, show k = 21 by omega, if_pos (show nI 104 ≤ nI (wq 21) by decide)]
    rfl
  | succ r ih =>
    intro k mm hk hm
    obtain ⟨mm, rfl⟩ : ∃ j, mm = j + 1 := ⟨mm - 1, by omega⟩
    have k21 : k < 21 := by omega
    obtain ⟨w1, w2, w3, w4, w5, w6⟩ := wo_v k k21
    have nx := ih (k + 1) mm (by omega) (by omega)
    show f_X12_keyAt_4_b F (f_X12_keyAt_4 F mm) m (nI k) (nI (wq k)) h = some (nI (@ite Nat (mt tp A e k) (Classical.propDecidable _) k (kwr tp A e (k + 1) r)), h)
    unfold f_X12_keyAt_4_b
    rw [cV_n t14 (st_len F ks (by decide)), s2, (wq_v k k21).1, if_neg (nI_ge (by omega) (by decide))]
    obtain ⟨J, e1, J1, J2⟩ := rn_15 F r0 (f_X12_keyAt_4 F mm) k21 h6 h7 he hA (wl k) 0 F (by omega) (by omega) (fun i hi => absurd hi (by omega))
    rw [show f_X12_keyAt_15 F (f_X12_keyAt_4 F mm) F m (nI k) (nI (wo k)) 0 h = _ from e1]
    unfold f_X12_keyAt_69
    rw [nI_add, cV_n t14 (st_chr F ks (by decide) (by rw [s2]; omega)), gI_n r0.t, h6, gI_n r0.t, h7, nI_add]
    have e97 : f_X12_keyAt_97 F (f_X12_keyAt_4 F mm) F m (nI k) (nI (wo k)) h = f_X12_keyAt_4 F mm m (nI (k + 1)) (nI (wq (k + 1))) h := rn_97 F ks _ k21 (wl k) 0 F (by omega) (by omega)
    by_cases u : J = wl k
    · have sm := J2.mp u
      subst u
      rw [w3, if_pos (show nI 32 = 32 from rfl)]
      by_cases y : A + wl k = e
      · rw [if_pos (by rw [y]), if_pos (show mt tp A e k from ⟨y.symm, fun j hj => (sm j hj).2⟩)]
      · rw [if_neg (fun g => y (nI_inj (by omega) (by omega) g)), e97, nx, if_neg (show ¬ mt tp A e k from fun g => y g.1.symm)]
    · have cl := ch_lt 2 (by decide) (wo k + J) (by rw [s2]; omega)
      rw [if_neg (show ¬ nI (ch 2 (wo k + J)) = 32 from fun z => w2 J (by omega) (nI_inj (b := 32) (by omega) (by decide) z)), e97, nx, if_neg (show ¬ mt tp A e k from fun g => u (J2.mpr (fun i hi => ⟨by have := g.1; omega, g.2 i hi⟩)))]
theorem rc_keyAt (F : Nat) (hF : 100 ≤ F) {h : Hp} {m n A e : Nat} {tp : Nat → Nat} (r0 : RDr h m n tp) (h6 : hp_I h m 6 = nI A) (h7 : hp_I h m 7 = nI e) (he : e ≤ n) (hA : A ≤ n) : f_X12_keyAt F m h = some (nI (kw tp A e), h) := rn_keys F hF r0 h6 h7 he hA 21 0 F (by omega) (by omega)
/-- what the reference has at the token from A on -/
def TKr (h' : Hp) (m n A : Nat) (tp : Nat → Nat) : Prop := hp_I h' m 6 = nI A ∧ hp_I h' m 7 = nI (tE tp n A) ∧ hp_I h' m 9 = nI (tK tp n A) ∧ (tK tp n A = 23 → hp_I h' m 10 = nI (tN tp n A))
theorem rn_89 (F : Nat) (hF : 100 ≤ F) {m n A : Nat} {tp : Nat → Nat} (hA : A ≤ n) : ∀ r k mm (h : Hp), RDr h m n tp → hp_I h m 6 = nI A → hp_I h m 7 = nI k → k + r = n → r < mm → ∃ h', f_X12_next_89 F mm m h = some ((), h') ∧ FF m [7, 9] h h' ∧ hp_I h' m 7 = nI (rnk (fun j => smb (tp j)) r k) ∧ hp_I h' m 9 = nI (kw tp A (rnk (fun j => smb (tp j)) r k)) := by
  have stop : ∀ k mm (h : Hp), RDr h m n tp → hp_I h m 6 = nI A → hp_I h m 7 = nI k → k ≤ n → ¬ (k < n ∧ smb (tp k) = true) → ∃ h', f_X12_next_89 F (mm + 1) m h = some ((), h') ∧ FF m [7, 9] h h' ∧ hp_I h' m 7 = nI k ∧ hp_I h' m 9 = nI (kw tp A k) := fun k mm h r0 h6 h7 hk hn => by
    show ∃ h', f_X12_next_89_b F (f_X12_next_89 F mm) m h = _ ∧ _
    unfold f_X12_next_89_b
    rw [gI_n r0.t, h7, cV_n r0.t (rc_see F r0 hk), bd_n (svv_small F r0 k), if_neg hn, if_pos rfl, cV_n r0.t (rc_keyAt F hF r0 h6 h7 hk hA), pI_n r0.t]
    exact ⟨_, rfl, FF.sI (by decide), by rw [sI_at, if_neg (by decide)]; exact h7, by rw [sI_at, if_pos rfl]⟩
  intro r
  induction r with
  | zero =>
    intro k mm h r0 h6 h7 hk hm
    obtain ⟨mm, rfl⟩ : ∃ j, mm = j + 1 := ⟨mm - 1, by omega⟩
    exact stop k mm h r0 h6 h7 (by omega) (fun z => by omega)
  | succ r ih =>
    intro k mm h r0 h6 h7 hk hm
    obtain ⟨mm, rfl⟩ : ∃ j, mm = j + 1 := ⟨mm - 1, by omega⟩
    cases z : smb (tp k) with
    | true =>
      have f1 : FF m [7, 9] h (hp_sI h m 7 (nI (k + 1))) := FF.sI (by decide)
      have r1 := r0.ff f1 (by decide)
      obtain ⟨h2, e2, f2, i7, i9⟩ := ih (k + 1) mm _ r1 (by rw [f1.2 6 (by decide)]; exact h6) (by rw [sI_at, if_pos rfl]) (by omega) (by omega)
      show ∃ h', f_X12_next_89_b F (f_X12_next_89 F mm) m h = _ ∧ _
      unfold f_X12_next_89_b
      rw [gI_n r0.t, h7, cV_n r0.t (rc_see F r0 (by omega)), bd_n (svv_small F r0 k), if_pos (show k < n ∧ smb (tp k) = true from ⟨by omega, z⟩), if_neg (show ¬ (1 : Int32) = 0 by decide), gI_n r0.t, h7, pI_n r0.t, nI_1, rnk_t (p := fun j => smb (tp j)) z]
      exact ⟨h2, e2, f1.tr f2, i7, i9⟩
    | false =>
      rw [rnk_f (p := fun j => smb (tp j)) z]
      exact stop k mm h r0 h6 h7 (by omega) (fun y => by rw [z] at y; exact absurd y.2 (by decide))
theorem rn_146 (F : Nat) {m n A : Nat} {tp : Nat → Nat} : ∀ r k mm v (h : Hp), RDr h m n tp → hp_I h m 6 = nI A → hp_I h m 7 = nI k → hp_I h m 10 = nI v → A ≤ k → k + r = n → r < mm → ∃ h', f_X12_next_146 F mm m h = some ((), h') ∧ FF m [7, 9, 10] h h' ∧ hp_I h' m 7 = nI (rnk (fun j => dgb (tp j)) r k) ∧ hp_I h' m 9 = nI (if rnk (fun j => dgb (tp j)) r k - A ≤ 3 then 23 else 25) ∧ (rnk (fun j => dgb (tp j)) r k - A ≤ 3 → hp_I h' m 10 = nI (nvr tp (rnk (fun j => dgb (tp j)) r k - k) k v)) := by
  have stop : ∀ k mm v (h : Hp), RDr h m n tp → hp_I h m 6 = nI A → hp_I h m 7 = nI k → hp_I h m 10 = nI v → A ≤ k → k ≤ n → ¬ (k < n ∧ dgb (tp k) = true) → ∃ h', f_X12_next_146 F (mm + 1) m h = some ((), h') ∧ FF m [7, 9, 10] h h' ∧ hp_I h' m 7 = nI k ∧ hp_I h' m 9 = nI (if k - A ≤ 3 then 23 else 25) ∧ (k - A ≤ 3 → hp_I h' m 10 = nI (nvr tp (k - k) k v)) := fun k mm v h r0 h6 h7 h10 hAk hk hn => by
    have n9 := r0.2.1.2
    show ∃ h', f_X12_next_146_b F (f_X12_next_146 F mm) m h = _ ∧ _
    unfold f_X12_next_146_b f_X12_next_230
    rw [gI_n r0.t, h7, cV_n r0.t (rc_see F r0 hk), bd_n (svv_digit F r0 k), if_neg hn, if_pos rfl, gI_n r0.t, h7, gI_n r0.t, h6, pk_sub hAk, pI_n r0.t, pI_n r0.t, Nat.sub_self]
    by_cases y : k - A ≤ 3
    · rw [if_pos (show nI (k - A) ≤ 3 from nI_le (b := 3) y (by decide)), if_pos y]
      exact ⟨_, rfl, FF.sI (by decide), by rw [sI_at, if_neg (by decide)]; exact h7, by rw [sI_at, if_pos rfl]; rfl, fun _ => by rw [sI_at, if_neg (by decide)]; exact h10⟩
    · rw [if_neg (show ¬ nI (k - A) ≤ 3 from nI_ge (a := 3) (by omega) (by omega)), if_neg y]
      exact ⟨_, rfl, FF.sI (by decide), by rw [sI_at, if_neg (by decide)]; exact h7, by rw [sI_at, if_pos rfl]; rfl, fun u => absurd u y⟩
  intro r
  induction r with
  | zero =>
    intro k mm v h r0 h6 h7 h10 hAk hk hm
    obtain ⟨mm, rfl⟩ : ∃ j, mm = j + 1 := ⟨mm - 1, by omega⟩
    exact stop k mm v h r0 h6 h7 h10 hAk (by omega) (fun z => by omega)
  | succ r ih =>
    intro k mm v h r0 h6 h7 h10 hAk hk hm
    obtain ⟨mm, rfl⟩ : ∃ j, mm = j + 1 := ⟨mm - 1, by omega⟩
    have n9 := r0.2.1.2
    cases z : dgb (tp k) with
    | true =>
      have kn : k < n := by omega
      have zb : 48 ≤ tp k ∧ tp k ≤ 57 := by
        have z := z
        unfold dgb at z
        rw [Bool.and_eq_true, decide_eq_true_iff, decide_eq_true_iff] at z
        exact z
      have le := rnk_le (fun j => dgb (tp j)) r (k + 1)
      show ∃ h', f_X12_next_146_b F (f_X12_next_146 F mm) m h = _ ∧ _
      unfold f_X12_next_146_b f_X12_next_196
      rw [gI_n r0.t, h7, cV_n r0.t (rc_see F r0 (by omega)), bd_n (svv_digit F r0 k), if_pos (show k < n ∧ dgb (tp k) = true from ⟨kn, z⟩), if_neg (show ¬ (1 : Int32) = 0 by decide), gI_n r0.t, h7, gI_n r0.t, h6, pk_sub hAk, rnk_t (p := fun j => dgb (tp j)) z]
      by_cases y : 3 ≤ k - A
      · rw [if_pos (show 3 ≤ nI (k - A) from nI_le (a := 3) y (by omega)), gI_n r0.t, h7, pI_n r0.t, nI_1]
        have f1 : FF m [7, 9, 10] h (hp_sI h m 7 (nI (k + 1))) := FF.sI (by decide)
        have r1 := r0.ff f1 (by decide)
        obtain ⟨h2, e2, f2, i7, i9, i10⟩ := ih (k + 1) mm v _ r1 (by rw [f1.2 6 (by decide)]; exact h6) (by rw [sI_at, if_pos rfl]) (by rw [sI_at, if_neg (by decide)]; exact h10) (by omega) (by omega) (by omega)
        exact ⟨h2, e2, f1.tr f2, i7, i9, fun u => by omega⟩
      · have es : 10 * nI v + nI (tp k) - 48 = nI (10 * v + tp k - 48) := by
          rw [show 10 * nI v = nI (10 * v) from pk_mul 10 v, nI_add]
          exact pk_sub (b := 48) (by omega)
        have ev : svv tp n k = nI (tp k) := if_pos kn
        have f1 : FF m [7, 9, 10] h (hp_sI h m 10 (nI (10 * v + tp k - 48))) := FF.sI (by decide)
        have r1 := r0.ff f1 (by decide)
        have f2 : FF m [7, 9, 10] (hp_sI h m 10 (nI (10 * v + tp k - 48))) (hp_sI (hp_sI h m 10 (nI (10 * v + tp k - 48))) m 7 (nI (k + 1))) := FF.sI (by decide)
        have r2 := r1.ff f2 (by decide)
        rw [if_neg (show ¬ 3 ≤ nI (k - A) from nI_ge (b := 3) (by omega) (by decide)), gI_n r0.t, h10, gI_n r0.t, h7, cV_n r0.t (rc_see F r0 (by omega)), ev, es, pI_n r0.t, gI_n r1.t, sI_at, if_neg (by decide), h7, pI_n r1.t, nI_1]
        obtain ⟨h2, e2, f3, i7, i9, i10⟩ := ih (k + 1) mm (10 * v + tp k - 48) _ r2 (by rw [sI_at, if_neg (by decide), sI_at, if_neg (by decide)]; exact h6) (by rw [sI_at, if_pos rfl]) (by rw [sI_at, if_neg (by decide), sI_at, if_pos rfl]) (by omega) (by omega) (by omega)
        refine ⟨h2, e2, (f1.tr f2).tr f3, i7, i9, fun u => ?_⟩
        rw [show rnk (fun j => dgb (tp j)) r (k + 1) - k = (rnk (fun j => dgb (tp j)) r (k + 1) - (k + 1)) + 1 by omega]
        exact i10 u
    | false =>
      rw [rnk_f (p := fun j => dgb (tp j)) z]
      exact stop k mm v h r0 h6 h7 h10 hAk (by omega) (fun y => by rw [z] at y; exact absurd y.2 (by decide))
theorem ch1_i : ∀ i, i < 12 → ∀ j, j < 12 → ch 1 i = ch 1 j → i = j := by decide +kernel
theorem rn_254 (F : Nat) {m n A : Nat} {tp : Nat → Nat} (hA : A < n) : ∀ r j mm (h : Hp), RDr h m n tp → hp_I h m 6 = nI A → j + r = 12 → r < mm → ∃ h', f_X12_next_254 F mm m (nI j) h = some ((), h') ∧ FF m [9] h h' ∧ ((∀ i, j ≤ i → i < 12 → tp A ≠ ch 1 i) → hp_I h' m 9 = hp_I h m 9) ∧ (∀ i, j ≤ i → i < 12 → tp A = ch 1 i → hp_I h' m 9 = nI (30 + i)) := by
  have s1 := sl_v.2.1
  intro r
  induction r with
  | zero =>
    intro j mm h r0 h6 hj hm
    obtain ⟨mm, rfl⟩ : ∃ j, mm = j + 1 := ⟨mm - 1, by omega⟩
    have ks := r0.2.2.2
    have t14 := (ks 1 (by decide)).1
    refine ⟨h, ?_, FF.rf _ _ _, fun _ => rfl, fun i h1 h2 => by omega⟩
    show f_X12_next_254_b F (f_X12_next_254 F mm) m (nI j) h = _
    unfold f_X12_next_254_b
    rw [cV_n t14 (st_len F ks (by decide)), s1, if_pos (nI_le (by omega) (by omega))]
  | succ r ih =>
    intro j mm h r0 h6 hj hm
    obtain ⟨mm, rfl⟩ : ∃ j, mm = j + 1 := ⟨mm - 1, by omega⟩
    have ks := r0.2.2.2
    have t14 := (ks 1 (by decide)).1
    have bl := (r0.2.2.1 A hA).2
    have cl := ch_lt 1 (by decide) j (by rw [s1]; omega)
    show ∃ h', f_X12_next_254_b F (f_X12_next_254 F mm) m (nI j) h = _ ∧ _
    unfold f_X12_next_254_b f_X12_next_288
    rw [cV_n t14 (st_len F ks (by decide)), s1, if_neg (nI_ge (by omega) (by decide)), gI_n r0.t, h6, cV_n r0.t (rc_see F r0 (by omega)), cV_n t14 (st_chr F ks (by decide) (by rw [s1]; omega)), show svv tp n A = nI (tp A) from if_pos hA, nI_1]
    by_cases z : tp A = ch 1 j
    · have f1 : FF m [9] h (hp_sI h m 9 (nI (30 + j))) := FF.sI (by decide)
      have r1 := r0.ff f1 (by decide)
      rw [if_pos (by rw [z]), show (30 : Int32) + nI j = nI (30 + j) from nI_add 30 j, pI_n r0.t]
      obtain ⟨h2, e2, f2, i1, i2⟩ := ih (j + 1) mm _ r1 (by rw [f1.2 6 (by decide)]; exact h6) (by omega) (by omega)
      refine ⟨h2, e2, f1.tr f2, fun y => absurd z (y j (Nat.le_refl _) (by omega)), fun i h1 h3 h4 => ?_⟩
      have ej : i = j := ch1_i i h3 j (by omega) (by rw [← h4, z])
      rw [ej, i1 (fun i' h1' h3' h4' => by have := ch1_i i' h3' j (by omega) (by rw [← h4', z]); omega), sI_at, if_pos rfl]
    · rw [if_neg (fun g => z (nI_inj (by omega) (by omega) g))]
      obtain ⟨h2, e2, f2, i1, i2⟩ := ih (j + 1) mm _ r0 h6 (by omega) (by omega)
      refine ⟨h2, e2, f2, fun y => i1 (fun i h1 h3 => y i (by omega) h3), fun i h1 h3 h4 => i2 i ?_ h3 h4⟩
      by_cases u : i = j
      · rw [u] at h4; exact absurd h4 z
      · omega
