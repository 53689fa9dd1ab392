/-! L3, the class: the next token -/
/-- only the fields ks of q changed -/
def FF (q : Nat) (ks : List Nat) (h h' : Hp) : Prop := FQ q h h' ∧ ∀ k, k ∉ ks → hp_I h' q k = hp_I h q k
theorem FF.rf (q : Nat) (ks : List Nat) (h : Hp) : FF q ks h h := ⟨FQ.rf q h, fun _ _ => rfl⟩
theorem FF.tr {q : Nat} {ks : List Nat} {h h1 h2 : Hp} (a : FF q ks h h1) (b : FF q ks h1 h2) : FF q ks h h2 := ⟨a.1.tr b.1, fun k hk => (b.2 k hk).trans (a.2 k hk)⟩
theorem FF.mono {q : Nat} {ks ks' : List Nat} {h h' : Hp} (a : FF q ks h h') (hs : ∀ k ∈ ks, k ∈ ks') : FF q ks' h h' := ⟨a.1, fun k hk => a.2 k (fun z => hk (hs k z))⟩
theorem FF.sI {q k : Nat} {ks : List Nat} {v : Int32} {h : Hp} (hk : k ∈ ks) : FF q ks h (hp_sI h q k v) := ⟨FQ.sI, fun j hj => by rw [sI_at, if_neg (fun e => hj (by rw [e]; exact hk))]⟩
theorem KS.fq {h h' : Hp} {q : Nat} (ks : KS h) (f : FQ q h h') (t : hp_t h q ≠ 14 ∧ hp_t h q ≠ 27) : KS h' := by
  intro i hi
  obtain ⟨a1, a2, v, a3, a4, a5, a6⟩ := ks i hi
  have n1 : hp_k h i ≠ q := fun e => t.1 (by rw [← e]; exact a1)
  have n2 : v ≠ q := fun e => t.2 (by rw [← e]; exact a4)
  rw [f.1.1, f.1.2.1, f.1.2.2.1, f.1.2.2.2.2.2, f.2.2 _ n1]
  refine ⟨a1, a2, v, a3, a4, a5, ?_⟩
  rw [f.2.2 _ n2]; exact a6
/-- a reader of the class over the bytes tp -/
def RDc (h : Hp) (q tx n : Nat) (tp : Nat → Nat) : Prop := (hp_t h q = 6 ∧ hp_R h q 2 = some tx) ∧ (hp_t h tx = 21 ∧ hp_l h tx = 900) ∧ (hp_I h q 3 = nI n ∧ n ≤ 900) ∧ (∀ j, j < n → hp_I h tx j = sx (tp j) ∧ tp j < 256) ∧ KS h
theorem RDc.ff {h h' : Hp} {q tx n : Nat} {tp : Nat → Nat} {ks : List Nat} (r : RDc h q tx n tp) (f : FF q ks h h') (h3 : 3 ∉ ks) : RDc h' q tx n tp := by
  obtain ⟨⟨a1, a2⟩, ⟨a3, a4⟩, ⟨a5, a6⟩, a7, a8⟩ := r
  have n1 : tx ≠ q := fun e => by rw [e, a1] at a3; exact absurd a3 (by decide)
  refine ⟨⟨by rw [f.1.1.1]; exact a1, by rw [f.1.1.2.2.1]; exact a2⟩, ⟨by rw [f.1.1.1]; exact a3, by rw [f.1.1.2.1]; exact a4⟩, ⟨by rw [f.2 3 h3]; exact a5, a6⟩, by rw [f.1.2.2 _ n1]; exact a7, a8.fq f.1 (by rw [a1]; decide)⟩
section RDs
variable {h : Hp} {q tx n : Nat} {tp : Nat → Nat}
theorem RDc.t (r : RDc h q tx n tp) : hp_t h q = 6 := r.1.1
theorem RDc.g2 {α : Type} (r : RDc h q tx n tp) (K : Nat → Option α) : gR 6 h q 2 K = K tx := gR_n r.1.1 r.1.2 K
theorem RDc.b {α : Type} (r : RDc h q tx n tp) {j : Nat} (hj : j < n) (K : Int32 → Option α) : aI 21 h tx (nI j) K = K (sx (tp j)) := by
  have := r.2.2.1.2
  rw [aI_n r.2.1.1 r.2.1.2 rfl (show j < 900 by omega) (by decide), (r.2.2.2.1 j hj).1]
theorem RDc.lt (r : RDc h q tx n tp) {j : Nat} (hj : j < n) : tp j < 256 := (r.2.2.2.1 j hj).2
theorem RDc.g3 {α : Type} (r : RDc h q tx n tp) (K : Int32 → Option α) : gI 6 h q 3 K = K (nI n) := by rw [gI_n r.1.1, r.2.2.1.1]
end RDs
theorem ca_skip (F : Nat) {h : Hp} {q tx n : Nat} {tp : Nat → Nat} (r0 : RDc h q tx n tp) : ∀ r k m, k + r = n → r < m → f_X5_advance_5 F m q (nI k) h = f_X5_advance_41 F q (nI (rnk (fun j => wsb (tp j)) r k)) h := by
  have n9 := r0.2.2.1.2
  intro r
  induction r with
  | zero =>
    intro k m hk hm
    obtain ⟨m, rfl⟩ : ∃ j, m = j + 1 := ⟨m - 1, by omega⟩
    show f_X5_advance_5_b F (f_X5_advance_5 F m) q (nI k) h = _
    unfold f_X5_advance_5_b
    rw [r0.g3, if_pos (nI_le (by omega) (by omega))]
    rfl
  | succ r ih =>
    intro k m hk hm
    obtain ⟨m, rfl⟩ : ∃ j, m = j + 1 := ⟨m - 1, by omega⟩
    have kn : k < n := by omega
    have st := (sx_t (tp k) (r0.lt kn)).1
    show f_X5_advance_5_b F (f_X5_advance_5 F m) q (nI k) h = _
    unfold f_X5_advance_5_b f_X5_advance_35
    rw [r0.g3, if_neg (nI_ge kn (by omega)), r0.g2, r0.b kn, r0.g2, r0.b kn, nI_1]
    cases z : wsb (tp k) with
    | true =>
      rw [rnk_t (p := fun j => wsb (tp j)) z, ← ih (k + 1) m (by omega) (by omega)]
      rcases st.mp z with y | y
      · rw [if_pos y]
      · by_cases y1 : sx (tp k) = 10
        · rw [if_pos y1]
        · rw [if_neg y1, if_pos y]
    | false =>
      rw [rnk_f (p := fun j => wsb (tp j)) z, if_neg (fun y => by rw [st.mpr (Or.inl y)] at z; exact absurd z (by decide)), if_neg (fun y => by rw [st.mpr (Or.inr y)] at z; exact absurd z (by decide))]
/-! words -/
theorem sx_neg : ∀ b, b < 256 → 128 ≤ b → sx b < 0 := by decide +kernel
theorem sx_eq {b c : Nat} (hb : b < 256) (hc : c < 128) : sx b = nI c ↔ b = c := by
  have st := (sx_t b hb).2.2.2.2
  by_cases z : b < 128
  · rw [st z]
    exact ⟨fun e => nI_inj (by omega) (by omega) e, fun e => by rw [e]⟩
  · have := sx_neg b hb (by omega)
    exact ⟨fun e => by rw [e] at this; exact absurd this (nI_pos (by omega)), fun e => by omega⟩
theorem ca_word0 (F : Nat) {q tx n : Nat} {tp : Nat → Nat} : ∀ r k m (h : Hp), RDc h q tx n tp → hp_I h q 5 = nI k → k + r = n → r < m → ∃ h', f_X5_readWord_0 F m q h = f_X5_readWord_52 F q h' ∧ FF q [5] h h' ∧ hp_I h' q 5 = nI (rnk (fun j => smb (tp j)) r k) := by
  intro r
  induction r with
  | zero =>
    intro k m h r0 h5 hk hm
    obtain ⟨m, rfl⟩ : ∃ j, m = j + 1 := ⟨m - 1, by omega⟩
    have n9 := r0.2.2.1.2
    refine ⟨h, ?_, FF.rf _ _ _, h5⟩
    show f_X5_readWord_0_b F (f_X5_readWord_0 F m) q h = _
    unfold f_X5_readWord_0_b
    rw [gI_n r0.t, h5, r0.g3, if_pos (nI_le (by omega) (by omega))]
  | succ r ih =>
    intro k m h r0 h5 hk hm
    obtain ⟨m, rfl⟩ : ∃ j, m = j + 1 := ⟨m - 1, by omega⟩
    have n9 := r0.2.2.1.2
    have kn : k < n := by omega
    have st := (sx_t (tp k) (r0.lt kn)).2.1
    show ∃ h', f_X5_readWord_0_b F (f_X5_readWord_0 F m) q h = _ ∧ _
    unfold f_X5_readWord_0_b
    rw [gI_n r0.t, h5, r0.g3, if_neg (nI_ge kn (by omega)), r0.g2, gI_n r0.t, h5, r0.b kn, r0.g2, gI_n r0.t, h5, r0.b kn, gI_n r0.t, h5, pI_n r0.t, nI_1]
    cases z : smb (tp k) with
    | true =>
      have y := st.mp z
      rw [if_neg (fun e => y (Or.inl e)), if_neg (fun e => y (Or.inr e)), rnk_t (p := fun j => smb (tp j)) z]
      have f1 : FF q [5] h (hp_sI h q 5 (nI (k + 1))) := FF.sI (by decide)
      obtain ⟨h2, e2, f2, i2⟩ := ih (k + 1) m _ (r0.ff f1 (by decide)) (by rw [sI_at, if_pos rfl]) (by omega) (by omega)
      exact ⟨h2, e2, f1.tr f2, i2⟩
    | false =>
      rw [rnk_f (p := fun j => smb (tp j)) z]
      refine ⟨h, ?_, FF.rf _ _ _, h5⟩
      by_cases y : sx (tp k) < 97
      · rw [if_pos y]
      · by_cases y2 : 122 < sx (tp k)
        · rw [if_neg y, if_pos y2]
        · have := st.mpr (fun e => by rcases e with e | e; exact y e; exact y2 e)
          rw [z] at this
          exact absurd this (by decide)
/-- the first j letters are alike -/
def sma (tp : Nat → Nat) (A e K j : Nat) : Prop := ∀ i, i < j → A + i < e ∧ tp (A + i) = wch K i
noncomputable def smn (tp : Nat → Nat) (A e K j : Nat) : Nat := @ite Nat (sma tp A e K j) (Classical.propDecidable _) 1 0
theorem smn_0 (tp : Nat → Nat) (A e K : Nat) : smn tp A e K 0 = 1 := if_pos (fun i hi => absurd hi (by omega))
theorem ca_letters (F : Nat) {h : Hp} {q tx n A e c : Nat} {tp : Nat → Nat} (r0 : RDc h q tx n tp) (h6 : hp_I h q 6 = 3) (h5 : hp_I h q 5 = nI e) (he : e ≤ n) (hA : A ≤ n) (hc : c < 21) : ∀ r j m, j + r = wl (cpw c) → f_X5_readWord_71 F (m + r) q (nI (200 + c)) (nI (A + j)) (nI (smn tp A e (cpw c) j)) (nI (co c + j)) h = f_X5_readWord_71 F m q (nI (200 + c)) (nI (A + wl (cpw c))) (nI (smn tp A e (cpw c) (wl (cpw c)))) (nI (co c + wl (cpw c))) h := by
  have n9 := r0.2.2.1.2
  obtain ⟨v1, v2, v3, v4, v5, v6⟩ := co_v c hc
  have ks := r0.2.2.2.2
  have s0 := sl_v.1
  intro r
  induction r with
  | zero => intro j m hj; rw [show j = wl (cpw c) by omega]; rfl
  | succ r ih =>
    intro j m hj
    have jl : j < wl (cpw c) := by omega
    obtain ⟨w1, w2⟩ := v2 j jl
    have cl := ch_lt 0 (by decide) (co c + j) (by rw [s0]; omega)
    have w6 := (wo_v (cpw c) v5).2.2.2.2.2
    have t14 := (ks 0 (by decide)).1
    rw [← ih (j + 1) m (by omega), show m + (r + 1) = (m + r) + 1 by omega]
    show f_X5_readWord_71_b F (f_X5_readWord_71 F (m + r)) q (nI (200 + c)) (nI (A + j)) (nI (smn tp A e (cpw c) j)) (nI (co c + j)) h = _
    unfold f_X5_readWord_71_b f_X5_readWord_132 f_X5_readWord_133 f_X5_readWord_170
    rw [cV_n t14 (st_len F ks (by decide)), s0, if_neg (nI_ge (by omega) (by decide)), gI_n r0.t, h6, if_pos rfl, cV_n t14 (st_chr F ks (by decide) (by rw [s0]; omega)), if_neg (show ¬ nI (ch 0 (co c + j)) = 32 from fun z => w2 (nI_inj (b := 32) (by omega) (by decide) z)), nI_1, nI_1, gI_n r0.t, h5, r0.g2]
    have key : smn tp A e (cpw c) (j + 1) = @ite Nat (smn tp A e (cpw c) j = 1 ∧ A + j < e ∧ tp (A + j) = wch (cpw c) j) (Classical.propDecidable _) 1 0 := by
      have iff1 : sma tp A e (cpw c) (j + 1) ↔ (smn tp A e (cpw c) j = 1 ∧ A + j < e ∧ tp (A + j) = wch (cpw c) j) := by
        constructor
        · intro z
          refine ⟨if_pos (fun i hi => z i (by omega)), z j (by omega)⟩
        · rintro ⟨z1, z2⟩ i hi
          by_cases y : i = j
          · rw [y]; exact z2
          · by_cases u : sma tp A e (cpw c) j
            · exact u i (by omega)
            · unfold smn at z1; rw [if_neg u] at z1; exact absurd z1 (by decide)
      by_cases u : sma tp A e (cpw c) (j + 1)
      · rw [show smn tp A e (cpw c) (j + 1) = 1 from if_pos u, if_pos (iff1.mp u)]
      · rw [show smn tp A e (cpw c) (j + 1) = 0 from if_neg u, if_neg (fun y => u (iff1.mpr y))]
    by_cases u : sma tp A e (cpw c) j
    · have u1 : smn tp A e (cpw c) j = 1 := if_pos u
      rw [u1, if_neg (show ¬ nI 1 = 0 by decide)]
      by_cases y : A + j < e
      · have bl := r0.lt (show A + j < n by omega)
        rw [if_neg (nI_ge y (by omega)), r0.b (show A + j < n by omega)]
        by_cases z : tp (A + j) = ch 0 (co c + j)
        · rw [if_pos ((sx_eq bl cl).mpr z), key, if_pos ⟨u1, y, by rw [← w1]; exact z⟩]; rfl
        · rw [if_neg (fun g => z ((sx_eq bl cl).mp g)), key, if_neg (fun g => z (by rw [w1]; exact g.2.2))]; rfl
      · rw [if_pos (nI_le (by omega) (by omega)), key, if_neg (fun g => y g.2.1)]; rfl
    · have u0 : smn tp A e (cpw c) j = 0 := if_neg u
      rw [u0, if_pos (show nI 0 = 0 from rfl), key, if_neg (fun g => by rw [u0] at g; exact absurd g.1 (by decide))]; rfl
theorem ca_words (F : Nat) {h : Hp} {q tx n A e : Nat} {tp : Nat → Nat} (r0 : RDc h q tx n tp) (h6 : hp_I h q 6 = 3) (h5 : hp_I h q 5 = nI e) (h4 : hp_I h q 4 = nI A) (he : e ≤ n) (hA : A ≤ n) : ∀ s c m, c + s = 21 → (∀ k, k < c → ¬ mt tp A e (cpw k)) → 105 ≤ co c + m → ∃ h', f_X5_readWord_71 F m q (nI (200 + c)) (nI A) (nI 1) (nI (co c)) h = some ((), h') ∧ FF q [6] h h' ∧ hp_I h' q 6 = ctk (kw tp A e) := by
  have n9 := r0.2.2.1.2
  have ks := r0.2.2.2.2
  have s0 := sl_v.1
  have t14 := (ks 0 (by decide)).1
  intro s
  induction s with
  | zero =>
    intro c m hc hn hm
    have c21 : c = 21 := by omega
    subst c21
    have e103 : co 21 = 103 := rfl
    obtain ⟨m, rfl⟩ : ∃ j, m = j + 1 := ⟨m - 1, by omega⟩
    refine ⟨h, ?_, FF.rf _ _ _, ?_⟩
    · show f_X5_readWord_71_b F (f_X5_readWord_71 F m) q (nI (200 + 21)) (nI A) (nI 1) (nI (co 21)) h = _
      unfold f_X5_readWord_71_b
      rw [cV_n t14 (st_len F ks (by decide)), s0, e103, if_pos (nI_le (Nat.le_refl _) (by decide))]
    · rcases kw_v tp A e with ⟨j, j1, j2, -⟩ | ⟨-, j2⟩
      · have v := ci_v j j1
        exact absurd (by rw [v.2]; exact j2) (hn (ci j) v.1)
      · rw [j2, h6]; rfl
  | succ s ih =>
    intro c m hc hn hm
    have c21 : c < 21 := by omega
    obtain ⟨v1, v2, v3, v4, v5, v6⟩ := co_v c c21
    have w6 := (wo_v (cpw c) v5).2.2.2.2.2
    obtain ⟨m, rfl⟩ : ∃ j, m = j + 1 + wl (cpw c) := ⟨m - 1 - wl (cpw c), by omega⟩
    have e1 := ca_letters F r0 h6 h5 he hA c21 (wl (cpw c)) 0 (m + 1) (by omega)
    rw [show A + 0 = A from rfl, show co c + 0 = co c from rfl, smn_0] at e1
    rw [e1]
    show ∃ h', f_X5_readWord_71_b F (f_X5_readWord_71 F m) q (nI (200 + c)) (nI (A + wl (cpw c))) (nI (smn tp A e (cpw c) (wl (cpw c)))) (nI (co c + wl (cpw c))) h = _ ∧ _
    unfold f_X5_readWord_71_b f_X5_readWord_160 f_X5_readWord_170
    rw [cV_n t14 (st_len F ks (by decide)), s0, if_neg (nI_ge (by omega) (by decide)), gI_n r0.t, h6, if_pos rfl, cV_n t14 (st_chr F ks (by decide) (by rw [s0]; omega)), v3, if_pos (show nI 32 = 32 from rfl), gI_n r0.t, h4, gI_n r0.t, h5, nI_1, nI_1, v4]
    have go : (¬ mt tp A e (cpw c)) → ∃ h', f_X5_readWord_71 F m q (nI (200 + c + 1)) (nI A) 1 (nI (co (c + 1))) h = some ((), h') ∧ FF q [6] h h' ∧ hp_I h' q 6 = ctk (kw tp A e) := fun nm => ih (c + 1) m (by omega) (fun k hk => by
      by_cases y : k = c
      · rw [y]; exact nm
      · exact hn k (by omega)) (by omega)
    by_cases u : sma tp A e (cpw c) (wl (cpw c))
    · rw [show smn tp A e (cpw c) (wl (cpw c)) = 1 from if_pos u, if_neg (show ¬ nI 1 = 0 by decide)]
      by_cases y : A + wl (cpw c) = e
      · have hmt : mt tp A e (cpw c) := ⟨y.symm, fun j hj => (u j hj).2⟩
        rw [if_pos (by rw [y]), pI_n r0.t]
        have f1 : FF q [6] h (hp_sI h q 6 (nI (200 + c))) := FF.sI (by decide)
        have r1 := r0.ff f1 (by decide)
        obtain ⟨m, rfl⟩ : ∃ j, m = j + 1 := ⟨m - 1, by omega⟩
        refine ⟨_, ?_, f1, ?_⟩
        · show f_X5_readWord_71_b F (f_X5_readWord_71 F m) q (nI (200 + c)) _ _ (nI (co (c + 1))) (hp_sI h q 6 (nI (200 + c))) = _
          unfold f_X5_readWord_71_b
          have ks1 := r1.2.2.2.2
          have t1 := (ks1 0 (by decide)).1
          rw [cV_n t1 (st_len F ks1 (by decide)), s0, gI_n r1.t, sI_at, if_pos rfl]
          by_cases z : nI 103 ≤ nI (co (c + 1))
          · rw [if_pos z]
          · rw [if_neg z, if_neg (show ¬ nI (200 + c) = 3 from fun g => by have := nI_inj (b := 3) (by omega) (by decide) g; omega)]
        · rw [sI_at, if_pos rfl, kw_m v5 hmt]
          unfold ctk
          rw [if_pos v5, v6]
      · rw [if_neg (fun g => y (nI_inj (by omega) (by omega) g))]
        exact go (fun z => y z.1.symm)
    · rw [show smn tp A e (cpw c) (wl (cpw c)) = 0 from if_neg u, if_pos (show nI 0 = 0 from rfl)]
      exact go (fun z => u (fun i hi => ⟨by have := z.1; omega, z.2 i hi⟩))
theorem ca_readWord (F : Nat) (hF : 2000 ≤ F) {h : Hp} {q tx n A : Nat} {tp : Nat → Nat} (r0 : RDc h q tx n tp) (h5 : hp_I h q 5 = nI A) (h4 : hp_I h q 4 = nI A) (hA : A ≤ n) : ∃ h', f_X5_readWord F q h = some ((), h') ∧ FF q [5, 6] h h' ∧ hp_I h' q 5 = nI (rnk (fun j => smb (tp j)) (n - A) A) ∧ hp_I h' q 6 = ctk (kw tp A (rnk (fun j => smb (tp j)) (n - A) A)) := by
  have n9 := r0.2.2.1.2
  have le := rnk_le (fun j => smb (tp j)) (n - A) A
  unfold f_X5_readWord
  obtain ⟨h1, e1, f1, i1⟩ := ca_word0 F (n - A) A F h r0 h5 (by omega) (by omega)
  have r1 := r0.ff f1 (by decide)
  rw [e1]
  unfold f_X5_readWord_52
  have f2 : FF q [6] h1 (hp_sI h1 q 6 3) := FF.sI (by decide)
  have r2 := r1.ff f2 (by decide)
  have i4 : hp_I (hp_sI h1 q 6 3) q 4 = nI A := by rw [f2.2 4 (by decide), f1.2 4 (by decide)]; exact h4
  obtain ⟨h3, e3, f3, i3⟩ := ca_words F r2 (by rw [sI_at, if_pos rfl]) (by rw [f2.2 5 (by decide)]; exact i1) i4 (show rnk (fun j => smb (tp j)) (n - A) A ≤ n by omega) hA 21 0 F (by omega) (fun k hk => absurd hk (by omega)) (by omega)
  rw [pI_n r1.t, gI_n r2.t, i4, show f_X5_readWord_71 F F q 200 (nI A) 1 0 (hp_sI h1 q 6 3) = _ from e3]
  refine ⟨h3, rfl, ((f1.mono (by decide)).tr (f2.mono (by decide))).tr (f3.mono (by decide)), ?_, i3⟩
  rw [f3.2 5 (by decide), f2.2 5 (by decide)]; exact i1
/-! digits -/
theorem ca_dig5 (F : Nat) {q tx n A : Nat} {tp : Nat → Nat} : ∀ r k m v (h : Hp), RDc h q tx n tp → hp_I h q 5 = nI k → hp_I h q 7 = nI v → k + r = n → r < m → ∃ h', f_X5_readDigits_5 F m q h = f_X5_readDigits_81 F q h' ∧ FF q [5, 7] h h' ∧ hp_I h' q 5 = nI (rnk (fun j => dgb (tp j)) r k) ∧ hp_I h' q 7 = nI (nvr tp (rnk (fun j => dgb (tp j)) r k - k) k v) := by
  intro r
  induction r with
  | zero =>
    intro k m v h r0 h5 h7 hk hm
    obtain ⟨m, rfl⟩ : ∃ j, m = j + 1 := ⟨m - 1, by omega⟩
    have n9 := r0.2.2.1.2
    refine ⟨h, ?_, FF.rf _ _ _, h5, ?_⟩
    · show f_X5_readDigits_5_b F (f_X5_readDigits_5 F m) q h = _
      unfold f_X5_readDigits_5_b
      rw [gI_n r0.t, h5, r0.g3, if_pos (nI_le (by omega) (by omega))]
    · show _ = nI (nvr tp (k - k) k v)
      rw [Nat.sub_self]; exact h7
  | succ r ih =>
    intro k m v h r0 h5 h7 hk hm
    obtain ⟨m, rfl⟩ : ∃ j, m = j + 1 := ⟨m - 1, by omega⟩
    have n9 := r0.2.2.1.2
    have kn : k < n := by omega
    have st := sx_t (tp k) (r0.lt kn)
    show ∃ h', f_X5_readDigits_5_b F (f_X5_readDigits_5 F m) q h = _ ∧ _
    unfold f_X5_readDigits_5_b
    rw [gI_n r0.t, h5, r0.g3, if_neg (nI_ge kn (by omega)), r0.g2, gI_n r0.t, h5, r0.b kn, r0.g2, gI_n r0.t, h5, r0.b kn, gI_n r0.t, h7, r0.g2, gI_n r0.t, h5, r0.b kn, pI_n r0.t]
    cases z : dgb (tp k) with
    | true =>
      have y := st.2.2.1.mp z
      have zb : 48 ≤ tp k ∧ tp k ≤ 57 := by
        unfold dgb at z
        rw [Bool.and_eq_true, decide_eq_true_iff, decide_eq_true_iff] at z
        exact z
      have es : 10 * nI v + sx (tp k) - 48 = nI (10 * v + tp k - 48) := by
        rw [st.2.2.2.2 (by omega), show 10 * nI v = nI (10 * v) from pk_mul 10 v, nI_add]
        exact pk_sub (b := 48) (by omega)
      have f1 : FF q [5, 7] h (hp_sI h q 7 (nI (10 * v + tp k - 48))) := FF.sI (by decide)
      have f2 : FF q [5, 7] (hp_sI h q 7 (nI (10 * v + tp k - 48))) (hp_sI (hp_sI h q 7 (nI (10 * v + tp k - 48))) q 5 (nI (k + 1))) := FF.sI (by decide)
      have r1 := r0.ff f1 (by decide)
      rw [if_neg (fun e => y (Or.inl e)), if_neg (fun e => y (Or.inr e)), es, gI_n r1.t, sI_at, if_neg (by decide), h5, pI_n r1.t, nI_1]
      obtain ⟨h2, e2, f3, i5, i7⟩ := ih (k + 1) m (10 * v + tp k - 48) _ (r1.ff f2 (by decide)) (by rw [sI_at, if_pos rfl]) (by rw [sI_at, if_neg (by decide), sI_at, if_pos rfl]) (by omega) (by omega)
      have le := rnk_le (fun j => dgb (tp j)) r (k + 1)
      refine ⟨h2, e2, (f1.tr f2).tr f3, ?_, ?_⟩
      · rw [rnk_t (p := fun j => dgb (tp j)) z]; exact i5
      · rw [rnk_t (p := fun j => dgb (tp j)) z, show rnk (fun j => dgb (tp j)) r (k + 1) - k = (rnk (fun j => dgb (tp j)) r (k + 1) - (k + 1)) + 1 by omega]
        exact i7
    | false =>
      rw [rnk_f (p := fun j => dgb (tp j)) z, Nat.sub_self]
      refine ⟨h, ?_, FF.rf _ _ _, h5, h7⟩
      by_cases y : sx (tp k) < 48
      · rw [if_pos y]
      · by_cases y2 : 57 < sx (tp k)
        · rw [if_neg y, if_pos y2]
        · have := st.2.2.1.mpr (fun e => by rcases e with e | e; exact y e; exact y2 e)
          rw [z] at this
          exact absurd this (by decide)
theorem ca_readDigits (F : Nat) (hF : 2000 ≤ F) {h : Hp} {q tx n A : Nat} {tp : Nat → Nat} (r0 : RDc h q tx n tp) (h5 : hp_I h q 5 = nI A) (h4 : hp_I h q 4 = nI A) (hA : A ≤ n) : ∃ h', f_X5_readDigits F q h = some ((), h') ∧ FF q [5, 6, 7] h h' ∧ hp_I h' q 5 = nI (rnk (fun j => dgb (tp j)) (n - A) A) ∧ hp_I h' q 6 = ctk (if rnk (fun j => dgb (tp j)) (n - A) A - A ≤ 3 then 23 else 25) ∧ hp_I h' q 7 = nI (tN tp n A) := by
  have n9 := r0.2.2.1.2
  have le := rnk_le (fun j => dgb (tp j)) (n - A) A
  unfold f_X5_readDigits
  have f0 : FF q [7] h (hp_sI h q 7 0) := FF.sI (by decide)
  have r1 := r0.ff f0 (by decide)
  obtain ⟨h1, e1, f1, i5, i7⟩ := ca_dig5 F (A := A) (n - A) A F 0 _ r1 (by rw [f0.2 5 (by decide)]; exact h5) (by rw [sI_at, if_pos rfl]; rfl) (by omega) (by omega)
  have r2 := r1.ff f1 (by decide)
  have i4 : hp_I h1 q 4 = nI A := by rw [f1.2 4 (by decide), f0.2 4 (by decide)]; exact h4
  rw [pI_n r0.t, e1]
  unfold f_X5_readDigits_81 f_X5_readDigits_100
  rw [gI_n r2.t, i5, gI_n r2.t, i4, pk_sub (by omega), pI_n r2.t, pI_n r2.t]
  have ff : FF q [5, 6, 7] h h1 := (f0.mono (by decide)).tr (f1.mono (by decide))
  by_cases z : rnk (fun j => dgb (tp j)) (n - A) A - A ≤ 3
  · rw [if_pos (show nI _ ≤ 3 from nI_le (b := 3) z (by decide)), if_pos z]
    refine ⟨_, rfl, ff.tr (FF.sI (by decide)), ?_, ?_, ?_⟩
    · rw [sI_at, if_neg (by decide)]; exact i5
    · rw [sI_at, if_pos rfl]; rfl
    · rw [sI_at, if_neg (by decide)]; exact i7
  · rw [if_neg (show ¬ nI _ ≤ 3 from nI_ge (a := 3) (by omega) (by omega)), if_neg z]
    refine ⟨_, rfl, ff.tr (FF.sI (by decide)), ?_, ?_, ?_⟩
    · rw [sI_at, if_neg (by decide)]; exact i5
    · rw [sI_at, if_pos rfl]; rfl
    · rw [sI_at, if_neg (by decide)]; exact i7
