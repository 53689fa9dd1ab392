/-! the String constants, the script, the abstract heap at the start -/
theorem wb_str {args : Array Value} {s : State} {A : Nat → Prop} (hg : (Cond.and given_1 narrow_1).before args s = true) (hA : ∀ a : Nat, a < s.heap.size → ¬ A a) : ∃ adK adV : Nat → Nat, vk_S 3 ks_ls ks_bs adK adV A s s.heap ∧ (∀ i, i < 4 → (ks_m i).eval args s none [] s = some (.ref (adK (ks_s i)))) ∧ ∀ i, i < 3 → ∃ cell : Cell, s.heap[adV i]? = some cell ∧ cell.slots.size = ks_ls.getD i 0 := by
  have fl := flat_of_before _ hg
  have lN : ∀ i : Nat, i < 3 → ks_ls.getD i 0 < 2 ^ 31 := by decide +kernel
  obtain ⟨adK, adV, hS, hE⟩ := vk_Sof (args := args) (s := s) (N := 3) (tm := ks_m) (len := ks_ls) (byt := ks_bs) (A := A) lN (fun i hi => fl _ (wb_f1 i hi).1) (fun i hi => fl _ (wb_f1 i hi).2.1) (fun i hi => fl _ (wb_f1 i hi).2.2.1) (fun i hi => fl _ (wb_f1 i hi).2.2.2) (fun i hi j hj => fl _ (wb_f2 i hi j hj)) (fun i j hi hj hij => (wb_f3 i hi j hj hij).imp (fl _) (fl _)) hA
  refine ⟨adK, adV, hS, fun i hi => ?_, fun i hi => ?_⟩
  · rcases (show i = 0 ∨ i = 1 ∨ i = 2 ∨ i = 3 by omega) with rfl | rfl | rfl | rfl
    · exact hE 0 (by decide)
    · exact hE 1 (by decide)
    · exact hE 2 (by decide)
    · exact wb_eqR (fl _ wb_f4.1) (hE 1 (by decide))
  · obtain ⟨a, cell, h1, h2, h3⟩ := wb_sz (lN i hi) (va_eqt (fl _ (wb_f1 i hi).2.2.2))
    have e : adV i = a := by
      obtain ⟨_, _, _, f, c1, q1, _, q2, _, q3, _⟩ := (hS.1 i hi).2.2.1
      obtain ⟨_, _, _, f', c2, p1, _, p2, _, p3, _⟩ := vk_OFof (A := A) (hE i hi) h1 hA
      cases q1.symm.trans p1
      cases q2.symm.trans p2
      have := Option.some.inj (q3.symm.trans p3)
      injection this
    rw [e]
    exact ⟨cell, h2, h3⟩
section WB
variable {s : State} {A : Nat → Prop} {K V : Nat → Nat} {b L : Nat} {xs : Nat → Int32}
theorem wb_KV (hS : vk_S 3 ks_ls ks_bs K V A s s.heap) (hz : ∀ i, i < 3 → ∃ cell : Cell, s.heap[V i]? = some cell ∧ cell.slots.size = ks_ls.getD i 0) (i j : Nat) (hi : i < 3) (hj : j < 3) : K i ≠ V j := by
  intro e
  obtain ⟨_, _, _, f, cell, _, _, hc, _, hs, _⟩ := (hS.1 i hi).2.2.1
  obtain ⟨c2, h2, hsz⟩ := hz j hj
  obtain ⟨c3, h3, _, _, _, _, hint, _⟩ := (hS.1 j hj).2.2.2
  rw [e] at hc
  cases hc.symm.trans h2
  cases hc.symm.trans h3
  have lt : f.slot < cell.slots.size := (Array.getElem?_eq_some_iff.mp hs).1
  rw [hsz] at lt
  have := hint _ lt
  rw [hs] at this
  cases this
theorem wb_KX (hS : vk_S 3 ks_ls ks_bs K V A s s.heap) (hX : va_X b L xs s s.heap) (i : Nat) (hi : i < 3) : K i ≠ b := by
  intro e
  obtain ⟨_, _, _, f, cell, _, _, hc, _, hs, _⟩ := (hS.1 i hi).2.2.1
  obtain ⟨c3, h3, _, _, hsz, hint⟩ := hX
  rw [e] at hc
  cases hc.symm.trans h3
  have lt : f.slot < cell.slots.size := (Array.getElem?_eq_some_iff.mp hs).1
  rw [hsz] at lt
  have := hint _ lt
  rw [hs] at this
  cases this
theorem wb_VX (hS : vk_S 3 ks_ls ks_bs K V A s s.heap) (hX : va_X b L xs s s.heap) (i : Nat) (hi : i < 3) : V i ≠ b := by
  intro e
  obtain ⟨c1, h1, ⟨_, k1, a1, comp1, b1⟩, _⟩ := (hS.1 i hi).2.2.2
  obtain ⟨c3, h3, ⟨_, k2, a2, comp2, b2⟩, _⟩ := hX
  rw [e] at h1
  cases h1.symm.trans h3
  cases a1.symm.trans a2
  have := b1.symm.trans b2
  injection this with _ q
  cases q
theorem wb_VV (hz : ∀ i, i < 3 → ∃ cell : Cell, s.heap[V i]? = some cell ∧ cell.slots.size = ks_ls.getD i 0) (i j : Nat) (hi : i < 3) (hj : j < 3) (e : V i = V j) : i = j := by
  obtain ⟨c1, h1, z1⟩ := hz i hi
  obtain ⟨c2, h2, z2⟩ := hz j hj
  rw [e] at h1
  cases h1.symm.trans h2
  have q : ks_ls.getD i 0 = ks_ls.getD j 0 := z1.symm.trans z2
  have d : ∀ i, i < 3 → ∀ j, j < 3 → ks_ls.getD i 0 = ks_ls.getD j 0 → i = j := by decide +kernel
  exact d i hi j hj q
end WB
/-- which of three -/
def wi (V : Nat → Nat) (a : Nat) : Nat := if a = V 0 then 0 else if a = V 1 then 1 else 2
theorem wi_lt (V : Nat → Nat) (a : Nat) : wi V a < 3 := by
  unfold wi
  split
  · decide
  · split <;> decide
theorem wi_at {V : Nat → Nat} {a : Nat} (h : a = V 0 ∨ a = V 1 ∨ a = V 2) : a = V (wi V a) := by
  unfold wi
  split
  · assumption
  · split
    · assumption
    · rcases h with h | h | h
      · exact absurd h (by assumption)
      · exact absurd h (by assumption)
      · exact h
theorem wi_in {V : Nat → Nat} (i : Nat) (hi : i < 3) : V i = V 0 ∨ V i = V 1 ∨ V i = V 2 := by
  rcases (show i = 0 ∨ i = 1 ∨ i = 2 by omega) with rfl | rfl | rfl
  · exact Or.inl rfl
  · exact Or.inr (Or.inl rfl)
  · exact Or.inr (Or.inr rfl)
theorem wi_eq {V : Nat → Nat} (inj : ∀ i j, i < 3 → j < 3 → V i = V j → i = j) (i : Nat) (hi : i < 3) : wi V (V i) = i := inj _ _ (wi_lt V _) hi (wi_at (wi_in i hi)).symm
def h0t (K V : Nat → Nat) (b : Nat) (a : Nat) : Nat := if a = K 0 ∨ a = K 1 ∨ a = K 2 then 14 else if a = V 0 ∨ a = V 1 ∨ a = V 2 then 27 else if a = b then 28 else 0
def h0h (K V : Nat → Nat) (b L n : Nat) (xs : Nat → Int32) : Hp := (h0t K V b, fun a => if h0t K V b a = 28 then L else sl (wi V a), fun a j => if h0t K V b a = 28 then xs j else if h0t K V b a = 27 then nI (ch (wi V a) j) else 0, fun _ _ => 0, fun a _ => some (V (wi K a)), n, 0, K)
theorem h0_14 {K V : Nat → Nat} {b a : Nat} (h : h0t K V b a = 14) : a = K 0 ∨ a = K 1 ∨ a = K 2 := by
  unfold h0t at h
  split at h
  · assumption
  · split at h
    · omega
    · split at h <;> omega
theorem h0_27 {K V : Nat → Nat} {b a : Nat} (h : h0t K V b a = 27) : a = V 0 ∨ a = V 1 ∨ a = V 2 := by
  unfold h0t at h
  split at h
  · omega
  · split at h
    · assumption
    · split at h <;> omega
theorem h0_28 {K V : Nat → Nat} {b a : Nat} (h : h0t K V b a = 28) : a = b := by
  unfold h0t at h
  split at h
  · omega
  · split at h
    · omega
    · split at h
      · assumption
      · omega
theorem h0_no {K V : Nat → Nat} {b a : Nat} : ¬ hp_ok (h0t K V b a) := by
  unfold hp_ok h0t
  split
  · omega
  · split
    · omega
    · split <;> omega
theorem wb_txt : ∀ i, i < 3 → sl i = ks_ls.getD i 0 ∧ ∀ j, j < sl i → nI (ch i j) = (ks_bs.getD i []).getD j 0 := by decide +kernel
theorem h0_HR {g : Gl} {n : Nat} {H : Heap} (hn : n = H.size) : HR g (h0h (gK g) (gV g) (gX g) (gXn g) n (gXf g)) H := by
  refine ⟨hn, fun i _ => rfl, fun a ha => absurd ha h0_no, fun a ha => ?_, fun a ha => ?_, fun a ha => ?_⟩
  · have ha : h0t (gK g) (gV g) (gX g) a = 14 := ha
    refine ⟨wi (gK g) a, wi_lt _ _, wi_at (h0_14 ha), rfl, ?_⟩
    show (if h0t (gK g) (gV g) (gX g) a = 28 then _ else if h0t (gK g) (gV g) (gX g) a = 27 then _ else (0 : Int32)) = 0
    rw [if_neg (by omega), if_neg (by omega)]
  · have ha : h0t (gK g) (gV g) (gX g) a = 27 := ha
    have hl : hp_l (h0h (gK g) (gV g) (gX g) (gXn g) n (gXf g)) a = sl (wi (gV g) a) := if_neg (by rw [ha]; decide)
    refine ⟨wi (gV g) a, wi_lt _ _, wi_at (h0_27 ha), by rw [hl]; exact (wb_txt _ (wi_lt _ _)).1, fun j hj => ?_⟩
    rw [hl] at hj
    rw [← (wb_txt _ (wi_lt (gV g) a)).2 j hj]
    show (if h0t (gK g) (gV g) (gX g) a = 28 then _ else if h0t (gK g) (gV g) (gX g) a = 27 then nI (ch (wi (gV g) a) j) else (0 : Int32)) = _
    rw [if_neg (by omega), if_pos ha]
  · have ha : h0t (gK g) (gV g) (gX g) a = 28 := ha
    exact ⟨h0_28 ha, if_pos ha, fun j _ => if_pos ha⟩
theorem h0_KS {K V : Nat → Nat} {b L n : Nat} {xs : Nat → Int32} (kk : ∀ i j, i < 3 → j < 3 → K i = K j → i = j) (vv : ∀ i j, i < 3 → j < 3 → V i = V j → i = j) (kv : ∀ i j, i < 3 → j < 3 → K i ≠ V j) (kn : ∀ i, i < 3 → K i < n) (vn : ∀ i, i < 3 → V i < n) : KSb (h0h K V b L n xs) := by
  intro i hi
  have t14 : h0t K V b (K i) = 14 := if_pos (wi_in i hi)
  have t27 : h0t K V b (V i) = 27 := by
    unfold h0t
    rw [if_neg (fun q => by
      rcases q with q | q | q
      · exact kv 0 i (by decide) hi q.symm
      · exact kv 1 i (by decide) hi q.symm
      · exact kv 2 i (by decide) hi q.symm), if_pos (wi_in i hi)]
  refine ⟨⟨t14, ?_, kn i hi⟩, V i, ?_, ⟨t27, ?_, fun j hj => ?_⟩, vn i hi⟩
  · show (if h0t K V b (K i) = 28 then _ else if h0t K V b (K i) = 27 then _ else (0 : Int32)) = 0
    rw [if_neg (by omega), if_neg (by omega)]
  · show some (V (wi K (K i))) = some (V i)
    rw [wi_eq kk i hi]
  · show (if h0t K V b (V i) = 28 then L else sl (wi V (V i))) = sl i
    rw [if_neg (by omega), wi_eq vv i hi]
  · show (if h0t K V b (V i) = 28 then _ else if h0t K V b (V i) = 27 then nI (ch (wi V (V i)) j) else (0 : Int32)) = nI (ch i j)
    rw [if_neg (by omega), if_pos t27, wi_eq vv i hi]
theorem h0_X {K V : Nat → Nat} {b L n : Nat} {xs : Nat → Int32} (kx : ∀ i, i < 3 → K i ≠ b) (vx : ∀ i, i < 3 → V i ≠ b) : hp_t (h0h K V b L n xs) b = 28 ∧ hp_l (h0h K V b L n xs) b = L := by
  have t : h0t K V b b = 28 := by
    unfold h0t
    rw [if_neg (fun q => by
      rcases q with q | q | q
      · exact kx 0 (by decide) q.symm
      · exact kx 1 (by decide) q.symm
      · exact kx 2 (by decide) q.symm), if_neg (fun q => by
      rcases q with q | q | q
      · exact vx 0 (by decide) q.symm
      · exact vx 1 (by decide) q.symm
      · exact vx 2 (by decide) q.symm), if_pos rfl]
  exact ⟨t, if_pos t⟩
