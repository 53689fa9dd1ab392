/-! L3: the two readers side by side -/
/-- where a reader is: at a good token (its place, the codes so far); or failed (fault, place, at most so many codes) -/
abbrev PS : Type := Sum (Nat × List Nat) (Nat × Nat × Nat)
def ccd (r : Nat) : Nat := if r < 1000 then 100 + r else if r < 3000 then r - 1000 else [6, 7, 8, 9, 10, 11, 14, 12, 13, 15].getD (r - 3000) 0
def CK (h : Hp) (x : Nat) (ls : List Nat) : Prop := hp_I h (x + 11) 1 = nI ls.length ∧ ∀ i, i < ls.length → hp_I h (x + 12) i = nI (ccd (ls.getD i 0))
def MK (g : Hp) (m : Nat) (ls : List Nat) : Prop := hp_I g (m + 4) 143 = nI ls.length ∧ ∀ i, i < ls.length → hp_I g (m + 4) (144 + i) = nI (ls.getD i 0)
def FZc (x : Nat) (h0 h : Hp) : Prop := FA x [9, 11, 12] h0 h ∧ (∀ k, k ∉ [0, 1, 4, 5, 6, 7] → hp_I h (x + 9) k = hp_I h0 (x + 9) k) ∧ ∀ k, k ≠ 1 → hp_I h (x + 11) k = hp_I h0 (x + 11) k
def FZr (m : Nat) (g0 g : Hp) : Prop := SH g0 g ∧ hp_L g = hp_L g0 ∧ (∀ a, a ≠ m → a ≠ m + 4 → hp_I g a = hp_I g0 a) ∧ (∀ k, k ∉ [6, 7, 9, 10, 11, 12] → hp_I g m k = hp_I g0 m k) ∧ (∀ k, k < 143 → hp_I g (m + 4) k = hp_I g0 (m + 4) k) ∧ (hp_I g0 m 11 ≠ 0 → hp_I g m 11 ≠ 0)
theorem FZc.rf (x : Nat) (h : Hp) : FZc x h h := ⟨FA.rf _ _ _, fun _ _ => rfl, fun _ _ => rfl⟩
theorem FZc.tr {x : Nat} {h h1 h2 : Hp} (a : FZc x h h1) (b : FZc x h1 h2) : FZc x h h2 := ⟨a.1.tr b.1, fun k hk => (b.2.1 k hk).trans (a.2.1 k hk), fun k hk => (b.2.2 k hk).trans (a.2.2 k hk)⟩
theorem FZr.rf (m : Nat) (h : Hp) : FZr m h h := ⟨SH.rf h, rfl, fun _ _ _ => rfl, fun _ _ => rfl, fun _ _ => rfl, id⟩
theorem FZr.tr {m : Nat} {h h1 h2 : Hp} (a : FZr m h h1) (b : FZr m h1 h2) : FZr m h h2 := ⟨a.1.tr b.1, b.2.1.trans a.2.1, fun y h1 h2 => (b.2.2.1 y h1 h2).trans (a.2.2.1 y h1 h2), fun k hk => (b.2.2.2.1 k hk).trans (a.2.2.2.1 k hk), fun k hk => (b.2.2.2.2.1 k hk).trans (a.2.2.2.2.1 k hk), fun z => b.2.2.2.2.2 (a.2.2.2.2.2 z)⟩
theorem FF.fzc {x : Nat} {ks : List Nat} {h h' : Hp} (f : FF (x + 9) ks h h') (hs : ∀ k ∈ ks, k ∈ [0, 1, 4, 5, 6, 7]) : FZc x h h' := ⟨f.1.fa (by decide), fun k hk => f.2 k (fun z => hk (hs k z)), fun k _ => by rw [f.1.2.2 _ (by omega)]⟩
theorem FF.fzr {m : Nat} {ks : List Nat} {h h' : Hp} (f : FF m ks h h') (hs : ∀ k ∈ ks, k ∈ [6, 7, 9, 10, 11, 12]) (hw : hp_I h m 11 ≠ 0 → hp_I h' m 11 ≠ 0) : FZr m h h' := ⟨f.1.1, f.1.2.1, fun a h1 _ => f.1.2.2 a h1, fun k hk => f.2 k (fun z => hk (hs k z)), fun k _ => by rw [f.1.2.2 _ (by omega)], hw⟩
def TKo (h : Hp) (q n A : Nat) (tp : Nat → Nat) : Prop := hp_I h q 0 = 0 ∧ hp_I h q 4 = nI A ∧ hp_I h q 5 = nI (tE tp n A) ∧ hp_I h q 6 = ctk (tK tp n A) ∧ (tK tp n A = 23 → hp_I h q 7 = nI (tN tp n A)) ∧ hp_I h q 1 = -1
def CSs (x n : Nat) (tp : Nat → Nat) (h : Hp) : PS → Prop
  | .inl (A, ls) => TKo h (x + 9) n A tp ∧ CK h x ls
  | .inr (k, p, c) => hp_I h (x + 9) 0 = nI k ∧ hp_I h (x + 9) 1 = nI p ∧ hp_I h (x + 9) 6 = 1 ∧ ∃ c', c' ≤ c ∧ hp_I h (x + 11) 1 = nI c'
def MSs (m n : Nat) (tp : Nat → Nat) (g : Hp) : PS → Prop
  | .inl (A, ls) => TKr g m n A tp ∧ hp_I g m 11 = 0 ∧ MK g m ls
  | .inr (k, p, c) => (hp_I g m 11 = nI k ∧ hp_I g m 12 = nI p) ∨ (hp_I g m 11 = 0 ∧ k = 1 ∧ tK tp n p = 25 ∧ TKr g m n p tp ∧ ∃ c', c' ≤ c ∧ hp_I g (m + 4) 143 = nI c')
def CC (x n : Nat) (tp : Nat → Nat) (h0 h : Hp) (σ : PS) : Prop := CSH h x ∧ RDc h (x + 9) (x + 1) n tp ∧ FZc x h0 h ∧ CSs x n tp h σ
def MM (m n : Nat) (tp : Nat → Nat) (g0 g : Hp) (σ : PS) : Prop := RDr g m n tp ∧ FZr m g0 g ∧ MSs m n tp g σ
def plc : PS → Nat
  | .inl (A, _) => A
  | .inr (_, p, _) => p
def cnt : PS → Nat
  | .inl (_, ls) => ls.length
  | .inr (_, _, c) => c
def Pk (n : Nat) (tp : Nat → Nat) : PS → Prop
  | .inl (A, _) => tK tp n A ≠ 25
  | .inr (k, _, _) => 0 < k ∧ k < 5
def Pok (n : Nat) (tp : Nat → Nat) (σ : PS) : Prop := plc σ ≤ n ∧ Pk n tp σ
/-- codes are no more than places gone on -/
def Le (σ σ' : PS) : Prop := plc σ ≤ plc σ' ∧ cnt σ' + plc σ ≤ cnt σ + plc σ'
theorem Le.rf (σ : PS) : Le σ σ := ⟨Nat.le_refl _, Nat.le_refl _⟩
theorem Le.tr {a b c : PS} (h1 : Le a b) (h2 : Le b c) : Le a c := by
  obtain ⟨p1, p2⟩ := h1
  obtain ⟨q1, q2⟩ := h2
  exact ⟨by omega, by omega⟩
theorem CC.tg {x n : Nat} {tp : Nat → Nat} {h0 h : Hp} {σ : PS} (c : CC x n tp h0 h σ) : hp_t h (x + 9) = 6 := c.2.1.1.1
theorem MM.tg {m n : Nat} {tp : Nat → Nat} {g0 g : Hp} {σ : PS} (c : MM m n tp g0 g σ) : hp_t g m = 13 := c.1.1.1
/-! a failure -/
def flt (k : Nat) : PS → PS
  | .inl (A, ls) => .inr (k, A, ls.length)
  | .inr b => .inr b
theorem flt_ok {k n : Nat} {tp : Nat → Nat} (hk : 0 < k ∧ k < 5) : ∀ {σ : PS}, Pok n tp σ → Pok n tp (flt k σ) ∧ Le σ (flt k σ)
  | .inl (A, ls), h => ⟨⟨h.1, hk⟩, Nat.le_refl _, Nat.le_refl _⟩
  | .inr b, h => ⟨h, Le.rf _⟩
theorem CC.ff {x n : Nat} {tp : Nat → Nat} {h0 h h' : Hp} {σ σ' : PS} {ks : List Nat} (c : CC x n tp h0 h σ) (f : FF (x + 9) ks h h') (hs : ∀ k ∈ ks, k ∈ [0, 1, 4, 5, 6, 7]) (e : CSs x n tp h' σ') : CC x n tp h0 h' σ' := ⟨c.1.sh f.1.1, c.2.1.ff f (fun z => absurd (hs 3 z) (by decide)), c.2.2.1.tr (f.fzc hs), e⟩
theorem MM.ff {m n : Nat} {tp : Nat → Nat} {g0 g g' : Hp} {σ σ' : PS} {ks : List Nat} (c : MM m n tp g0 g σ) (f : FF m ks g g') (hs : ∀ k ∈ ks, k ∈ [6, 7, 9, 10, 11, 12]) (hw : hp_I g m 11 ≠ 0 → hp_I g' m 11 ≠ 0) (e : MSs m n tp g' σ') : MM m n tp g0 g' σ' := ⟨c.1.ff f (fun z => absurd (hs 8 z) (by decide)), c.2.1.tr (f.fzr hs hw), e⟩
theorem CK.ff {x : Nat} {ks : List Nat} {h h' : Hp} {ls : List Nat} (c : CK h x ls) (f : FF (x + 9) ks h h') : CK h' x ls := by
  unfold CK
  rw [f.1.2.2 _ (by omega), f.1.2.2 _ (by omega)]
  exact c
theorem MK.ff {m : Nat} {ks : List Nat} {h h' : Hp} {ls : List Nat} (c : MK h m ls) (f : FF m ks h h') : MK h' m ls := by
  unfold MK
  rw [f.1.2.2 _ (by omega)]
  exact c
theorem nI_n0 : ∀ k, 0 < k ∧ k < 5 → nI k ≠ 0 := by
  intro k hk e
  have := nI_inj (b := 0) (show k < 2 ^ 31 by omega) (by decide) e
  omega
theorem C_fail (F : Nat) {x n k : Nat} {tp : Nat → Nat} {h0 h : Hp} : ∀ {σ : PS}, CC x n tp h0 h σ → Pok n tp σ → ∃ h', f_X5_fail F (x + 9) (nI k) h = some ((), h') ∧ CC x n tp h0 h' (flt k σ)
  | .inl (A, ls), c, _ => by
    obtain ⟨h', e, f, i6, i0, -⟩ := ca_fail F c.tg (nI k)
    obtain ⟨⟨a1, a2, -⟩, a3⟩ := c.2.2.2
    refine ⟨h', e, c.ff f (by decide) ⟨(i0 a1).1, by rw [(i0 a1).2]; exact a2, i6, ls.length, Nat.le_refl _, (a3.ff f).1⟩⟩
  | .inr (k', p, b), c, pk => by
    obtain ⟨h', e, f, i6, -, i1⟩ := ca_fail F c.tg (nI k)
    obtain ⟨a1, a2, a3, c', a4, a5⟩ := c.2.2.2
    have n0 := nI_n0 k' pk.2
    refine ⟨h', e, c.ff f (by decide) ⟨?_, ?_, i6, c', a4, by rw [f.1.2.2 _ (by omega)]; exact a5⟩⟩
    · rw [(i1 (by rw [a1]; exact n0)).1]; exact a1
    · rw [(i1 (by rw [a1]; exact n0)).2]; exact a2
theorem M_fail (F : Nat) {m n k : Nat} {tp : Nat → Nat} {g0 g : Hp} (hk : 0 < k ∧ k < 5) : ∀ {σ : PS}, MM m n tp g0 g σ → Pok n tp σ → ∃ g', f_X12_fails F m (nI k) g = some ((), g') ∧ MM m n tp g0 g' (flt k σ) := by
  have wr : ∀ (w : Int32) (σ : PS) (k' p c' : Nat), MM m n tp g0 g σ → (0 < k' ∧ k' < 5) → w = nI k' → hp_I g m 6 = nI p → ∃ g', f_X12_fails_23 F m w m g = some ((), g') ∧ MM m n tp g0 g' (.inr (k', p, c')) := fun w σ k' p c' c hk' hw h6 => by
    unfold f_X12_fails_23
    have f1 : FF m [11, 12] g (hp_sI g m 11 w) := FF.sI (by decide)
    have t1 : hp_t (hp_sI g m 11 w) m = 13 := by rw [f1.1.1.1]; exact c.tg
    have f2 : FF m [11, 12] (hp_sI g m 11 w) (hp_sI (hp_sI g m 11 w) m 12 (nI p)) := FF.sI (by decide)
    rw [pI_n c.tg, gI_n t1, sI_at, if_neg (by decide), h6, pI_n t1]
    have e11 : hp_I (hp_sI (hp_sI g m 11 w) m 12 (nI p)) m 11 = nI k' := by rw [sI_at, if_neg (by decide), sI_at, if_pos rfl, hw]
    refine ⟨_, rfl, c.ff (f1.tr f2) (by decide) (fun _ => by rw [e11]; exact nI_n0 k' hk') (Or.inl ⟨e11, ?_⟩)⟩
    rw [sI_at, if_pos rfl]
  intro σ
  match σ with
  | .inl (A, ls) =>
    intro c pk
    obtain ⟨⟨b1, b2, b3, b4⟩, a1, a2⟩ := c.2.2
    have lt : tK tp n A < 42 := kok_lt _ (tK_ok (fun j hj => (c.1.2.2.1 j hj).2))
    unfold f_X12_fails
    rw [gI_n c.tg, a1, if_pos rfl, gI_n c.tg, b3, if_neg (show ¬ nI (tK tp n A) = 25 from fun e => pk.2 (nI_inj (b := 25) (by omega) (by decide) e))]
    exact wr _ _ k A _ c hk rfl b1
  | .inr (k', p, b) =>
    intro c pk
    unfold f_X12_fails
    rw [gI_n c.tg]
    rcases c.2.2 with ⟨a1, a2⟩ | ⟨a1, a2, a3, ⟨b1, b2, b3, b4⟩, a5⟩
    · rw [a1, if_neg (nI_n0 k' pk.2)]
      exact ⟨g, rfl, c⟩
    · rw [a1, if_pos rfl, gI_n c.tg, b3, a3, if_pos (show nI 25 = 25 from rfl)]
      exact wr 1 _ k' p b c pk.2 (by rw [a2]; rfl) b1
/-! going on -/
noncomputable def nx (tp : Nat → Nat) (n A : Nat) (ls : List Nat) : PS := if tK tp n (tA tp n (tE tp n A)) = 25 then .inr (1, tA tp n (tE tp n A), ls.length) else .inl (tA tp n (tE tp n A), ls)
theorem nx_ok {n A : Nat} {tp : Nat → Nat} {ls : List Nat} (h : Pok n tp (.inl (A, ls))) : Pok n tp (nx tp n A ls) ∧ Le (.inl (A, ls)) (nx tp n A ls) ∧ cnt (nx tp n A ls) = ls.length ∧ (A < n → A < plc (nx tp n A ls)) := by
  have e := tE_le (tp := tp) (show A ≤ n from h.1)
  have a := tA_le (tp := tp) e.2.1
  unfold nx
  by_cases z : tK tp n (tA tp n (tE tp n A)) = 25
  · rw [if_pos z]
    exact ⟨⟨a.2, show 0 < 1 ∧ 1 < 5 by decide⟩, ⟨show A ≤ tA tp n (tE tp n A) by omega, show ls.length + A ≤ ls.length + tA tp n (tE tp n A) by omega⟩, rfl, fun y => show A < tA tp n (tE tp n A) by have := e.2.2 y; omega⟩
  · rw [if_neg z]
    exact ⟨⟨a.2, z⟩, ⟨show A ≤ tA tp n (tE tp n A) by omega, show ls.length + A ≤ ls.length + tA tp n (tE tp n A) by omega⟩, rfl, fun y => show A < tA tp n (tE tp n A) by have := e.2.2 y; omega⟩
theorem C_adv (F : Nat) (hF : 2000 ≤ F) {x n A : Nat} {tp : Nat → Nat} {ls : List Nat} {h0 h : Hp} (c : CC x n tp h0 h (.inl (A, ls))) (pk : Pok n tp (.inl (A, ls))) : ∃ h', f_X5_advance F (x + 9) h = some ((), h') ∧ CC x n tp h0 h' (nx tp n A ls) := by
  obtain ⟨⟨a1, a2, a3, a4, a5, a5'⟩, a6⟩ := c.2.2.2
  obtain ⟨h', e, f, b1, b2, b3, b4, b5, b6⟩ := ca_advance F hF c.2.1 a3 (tE_le (tp := tp) (show A ≤ n from pk.1)).2.1 a1
  refine ⟨h', e, c.ff f (by decide) ?_⟩
  unfold nx
  by_cases z : tK tp n (tA tp n (tE tp n A)) = 25
  · rw [if_pos z]
    exact ⟨(b4 z).1, (b4 z).2, by rw [b3, z]; rfl, ls.length, Nat.le_refl _, (a6.ff f).1⟩
  · rw [if_neg z]
    exact ⟨⟨(b5 z).1, b1, b2, b3, b6, by rw [(b5 z).2]; exact a5'⟩, a6.ff f⟩
theorem M_adv (F : Nat) (hF : 2000 ≤ F) {m n A : Nat} {tp : Nat → Nat} {ls : List Nat} {g0 g : Hp} (c : MM m n tp g0 g (.inl (A, ls))) (pk : Pok n tp (.inl (A, ls))) : ∃ g', f_X12_next F m g = some ((), g') ∧ MM m n tp g0 g' (nx tp n A ls) := by
  obtain ⟨⟨b1, b2, b3, b4⟩, a1, a2⟩ := c.2.2
  obtain ⟨g', e, f, t⟩ := rc_next F hF c.1 b2 (tE_le (tp := tp) (show A ≤ n from pk.1)).2.1
  refine ⟨g', e, c.ff f (by decide) (fun z => by rw [f.2 11 (by decide)]; exact z) ?_⟩
  have i11 : hp_I g' m 11 = 0 := by rw [f.2 11 (by decide)]; exact a1
  unfold nx
  by_cases z : tK tp n (tA tp n (tE tp n A)) = 25
  · rw [if_pos z]
    exact Or.inr ⟨i11, rfl, z, t, ls.length, Nat.le_refl _, by rw [f.1.2.2 _ (by omega)]; exact a2.1⟩
  · rw [if_neg z]
    exact ⟨t, i11, a2.ff f⟩
