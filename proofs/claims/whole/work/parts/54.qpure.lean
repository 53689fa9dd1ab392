/-! L3, the class: pure rows of the queue -/
theorem pig : ∀ N n (f : Nat → Nat), (∀ i, i < n → f i < N) → (∀ i j, i < n → j < n → f i = f j → i = j) → n ≤ N := by
  intro N
  induction N with
  | zero =>
    intro n f h _
    rcases Nat.eq_zero_or_pos n with e | e
    · omega
    · exact absurd (h 0 e) (by omega)
  | succ N ih =>
    intro n f h hi
    by_cases q : ∃ i, i < n ∧ f i = N
    · obtain ⟨i0, h0, e0⟩ := q
      have := ih (n - 1) (fun i => if i = i0 then f (n - 1) else f i) (fun i hin => by
        show (if i = i0 then f (n - 1) else f i) < N
        by_cases e : i = i0
        · rw [if_pos e]
          have a := h (n - 1) (by omega)
          have : f (n - 1) ≠ N := fun z => by
            have := hi (n - 1) i0 (by omega) h0 (z.trans e0.symm)
            omega
          omega
        · rw [if_neg e]
          have a := h i (by omega)
          have : f i ≠ N := fun z => e (hi i i0 (by omega) h0 (z.trans e0.symm))
          omega) (fun i j hin hjn => by
        show (if i = i0 then f (n - 1) else f i) = (if j = i0 then f (n - 1) else f j) → i = j
        by_cases e : i = i0
        · by_cases e2 : j = i0
          · intro _; omega
          · rw [if_pos e, if_neg e2]; intro z
            have := hi (n - 1) j (by omega) (by omega) z
            omega
        · by_cases e2 : j = i0
          · rw [if_neg e, if_pos e2]; intro z
            have := hi i (n - 1) (by omega) (by omega) z
            omega
          · rw [if_neg e, if_neg e2]; exact hi i j (by omega) (by omega))
      omega
    · exact Nat.le_succ_of_le (ih n f (fun i hin => by
        have a := h i hin
        have : f i ≠ N := fun z => q ⟨i, hin, z⟩
        omega) hi)
/-- one more that is new has room -/
theorem pig1 {N n : Nat} {f : Nat → Nat} {v : Nat} (h : ∀ i, i < n → f i < N) (hi : ∀ i j, i < n → j < n → f i = f j → i = j) (hv : v < N) (hn : ∀ i, i < n → f i ≠ v) : n < N := by
  have := pig N (n + 1) (fun i => if i = n then v else f i) (fun i hin => by
    show (if i = n then v else f i) < N
    by_cases e : i = n
    · rw [if_pos e]; exact hv
    · rw [if_neg e]; exact h i (by omega)) (fun i j hin hjn => by
    show (if i = n then v else f i) = (if j = n then v else f j) → i = j
    by_cases e : i = n
    · by_cases e2 : j = n
      · intro _; omega
      · rw [if_pos e, if_neg e2]; intro z; exact absurd z.symm (hn j (by omega))
    · by_cases e2 : j = n
      · rw [if_neg e, if_pos e2]; intro z; exact absurd z (hn i (by omega))
      · rw [if_neg e, if_neg e2]; exact hi i j (by omega) (by omega))
  omega
def dsm (s : Nat) : Nat := dg s 0 + dg s 1 + dg s 2 + dg s 3 + dg s 4 + dg s 5 + dg s 6 + dg s 7
theorem dsm_le (s : Nat) : dsm s ≤ 24 := by
  have h0 := dg_lt s 0; have h1 := dg_lt s 1; have h2 := dg_lt s 2; have h3 := dg_lt s 3
  have h4 := dg_lt s 4; have h5 := dg_lt s 5; have h6 := dg_lt s 6; have h7 := dg_lt s 7
  unfold dsm
  omega
theorem dsm_lt {s u : Nat} (hs : s < 65536) (hu : u < 65536) (h : LEd s u) (hn : s ≠ u) : dsm s < dsm u := by
  have h0 := h 0 (by decide); have h1 := h 1 (by decide); have h2 := h 2 (by decide); have h3 := h 3 (by decide)
  have h4 := h 4 (by decide); have h5 := h 5 (by decide); have h6 := h 6 (by decide); have h7 := h 7 (by decide)
  by_cases q : dsm s < dsm u
  · exact q
  · refine absurd (dg_ext hs hu fun k hk => ?_) hn
    unfold dsm at q
    rcases (show k = 0 ∨ k = 1 ∨ k = 2 ∨ k = 3 ∨ k = 4 ∨ k = 5 ∨ k = 6 ∨ k = 7 by omega) with rfl | rfl | rfl | rfl | rfl | rfl | rfl | rfl <;> omega
section BQt
variable {H : HM} {b M s : Nat} {u p kk : Nat → Nat} {n o k : Nat}
theorem BQ.len (hH : HMok H) (q : BQ H b M s u p kk n o k) : ∀ i, i < n → (Pp p kk i).length + dsm s ≤ dsm (u i) := by
  intro i
  induction i using Nat.strongRecOn with
  | _ i ih =>
    intro hi
    by_cases e : i = 0
    · subst e; rw [Pp_0, q.1.1]; simp
    · obtain ⟨h1, -, h3, h4, h5⟩ := q.2.2.2.1 i (by omega) hi
      have r := ih (p i) h1 (by omega)
      have a := mv_ok hH (q.2.1 (p i) (by omega)) h3 h5
      have c := dsm_lt (q.2.1 (p i) (by omega)).1 a.1.1 a.2.2 (fun z => by
        have := q.2.2.1 (p i) i (by omega) hi z
        omega)
      rw [Pp_s q.hp (show 0 < i by omega) hi]
      simp only [List.length_cons]
      omega
theorem BQ.len24 (hH : HMok H) (q : BQ H b M s u p kk n o k) {i : Nat} (hi : i < n) : (Pp p kk i).length ≤ 24 := by
  have a := q.len hH i hi
  have c := dsm_le (u i)
  omega
/-- a queue that fills the room has all -/
theorem BQ.full (hH : HMok H) (hs : STok H s) (q : BQ H b M s u p kk n o k) (hn : 16 ^ hm_f H ≤ n) {v : Nat} (hv : RH H b M s v) : ∃ i, i < n ∧ u i = v := by
  by_cases z : ∃ i, i < n ∧ u i = v
  · exact z
  · have ok := (RH.ok hH hs hv).1
    have := pig1 (f := fun i => cs (u i)) (N := 16 ^ hm_f H) (n := n) (v := cs v) (fun i hi => cs_room (q.2.1 i hi) hH.1) (fun i j hi hj e => q.2.2.1 i j hi hj (cs_inj (q.2.1 i hi).1 (q.2.1 j hj).1 e)) (cs_room ok hH.1) (fun i hi e => z ⟨i, hi, cs_inj (q.2.1 i hi).1 ok.1 e⟩)
    omega
end BQt
theorem ltr_app : ∀ (xs ys : List Nat) (k j : Nat), xs.length = ys.length → ltr (xs ++ [k]) (ys ++ [j]) → k < j ∨ (k = j ∧ ltr xs ys) := by
  intro xs
  induction xs with
  | nil =>
    intro ys k j hl h
    cases ys with
    | nil =>
      rcases h with h | ⟨-, h⟩
      · exact absurd h (by simp [ltr])
      · exact Or.inl h
    | cons y ys => exact absurd hl (by simp)
  | cons x xs ih =>
    intro ys k j hl h
    cases ys with
    | nil => exact absurd hl (by simp)
    | cons y ys =>
      have hl : xs.length = ys.length := by simp only [List.length_cons] at hl; omega
      have h : ltr (xs ++ [k]) (ys ++ [j]) ∨ (xs ++ [k] = ys ++ [j] ∧ x < y) := h
      rcases h with h | ⟨h, h'⟩
      · rcases ih ys k j hl h with r | ⟨r1, r2⟩
        · exact Or.inl r
        · exact Or.inr ⟨r1, Or.inl r2⟩
      · obtain ⟨e1, e2⟩ := List.append_inj h hl
        have e2 : k = j := by simpa using e2
        exact Or.inr ⟨e2, Or.inr ⟨e1, h'⟩⟩
theorem rpt_app {H : HM} {b : Nat} (ys : List Nat) (s : Nat) : ∀ xs, rpt H b (xs ++ ys) s = (rpt H b ys s).bind (rpt H b xs) := by
  intro xs
  induction xs with
  | nil =>
    show rpt H b ys s = (rpt H b ys s).bind (fun u => some u)
    cases rpt H b ys s <;> rfl
  | cons x xs ih =>
    show (rpt H b (xs ++ ys) s).bind (fun w => mv H b w x) = _
    rw [ih]
    cases rpt H b ys s <;> rfl
theorem pth_rpt {H : HM} {b : Nat} : ∀ ms s, pth H b ms s = rpt H b ms.reverse s := by
  intro ms
  induction ms with
  | nil => intro s; rfl
  | cons k ks ih =>
    intro s
    rw [List.reverse_cons, rpt_app]
    show (mv H b s k).bind (fun u => pth H b ks u) = ((some s).bind (fun w => mv H b w k)).bind (rpt H b ks.reverse)
    show (mv H b s k).bind (fun u => pth H b ks u) = (mv H b s k).bind (rpt H b ks.reverse)
    cases mv H b s k with
    | none => rfl
    | some u => exact ih u
theorem loe_app {xs ys : List Nat} {k : Nat} (h : loe (xs ++ [k]) (ys ++ [k])) : loe xs ys := by
  rcases h with h | h
  · left; exact List.append_cancel_right h
  · rcases h with h | ⟨h, h'⟩
    · exact Or.inr (Or.inl (by simp only [List.length_append, List.length_cons, List.length_nil] at h; omega))
    · have hl : xs.length = ys.length := by simp only [List.length_append, List.length_cons, List.length_nil] at h; omega
      rcases ltr_app xs ys k k hl h' with r | ⟨-, r⟩
      · omega
      · exact Or.inr (Or.inr ⟨hl, r⟩)
/-- the first of the shortest rows, by comparing with all -/
theorem LW_of {H : HM} (hH : HMok H) {b : Nat} {g : GL} : ∀ (ms : List Nat) (s : Nat), STok H s → mo 511 ms → gto H b g s ms → (∀ ns, mo 511 ns → gto H b g s ns → loe ms.reverse ns.reverse) → LW H b g ms s ∧ ms.length + s < 65536 := by
  intro ms
  induction ms with
  | nil =>
    intro s hs hm hg hb
    refine ⟨Or.inr ⟨by have := hs.1; omega, ⟨[], hm, hg, rfl⟩, fun ns _ _ => Nat.zero_le _⟩, by have := hs.1; simp; omega⟩
  | cons k ks ih =>
    intro s hs hm hg hb
    have hk := mo_hd hm
    obtain ⟨u, u1, u2⟩ := gto_cons.mp hg
    have ok := mv_ok hH hs hk.1 u1
    obtain ⟨l1, l2⟩ := ih u ok.1 (mo_tl hm) u2 (fun ns n1 n2 => by
      have := hb (k :: ns) (mo_cons hk.1 hk.2 n1) (gto_cons.mpr ⟨u, u1, n2⟩)
      rw [List.reverse_cons, List.reverse_cons] at this
      exact loe_app this)
    have ne : u ≠ s := fun z => by
      have := (hb ks (mo_tl hm) (by rw [← z]; exact u2)).len
      simp only [List.length_reverse, List.length_cons] at this
      omega
    have hl : (k :: ks).length + s < 65536 := by simp only [List.length_cons]; omega
    have sd : ∀ ns, mo 511 ns → gto H b g s ns → ks.length + 1 ≤ ns.length := fun ns n1 n2 => by
      have := (hb ns n1 n2).len
      simp only [List.length_reverse, List.length_cons] at this
      exact this
    refine ⟨⟨Or.inr ⟨by simp only [List.length_cons] at hl; omega, ⟨k :: ks, hm, hg, by rw [cst_f]; rfl⟩, fun ns n1 n2 => by rw [cst_f]; exact sd ns n1 n2⟩, hk.1, ⟨u, u1, l1⟩, fun j u' hj hj' hsd => ?_⟩, hl⟩
    rcases hsd with ⟨z, -⟩ | ⟨-, ⟨ns, n1, n2, n3⟩, -⟩
    · simp only [List.length_cons] at hl; omega
    · rw [cst_f] at n3
      have j9 : j < 9 := by omega
      have := hb (j :: ns) (mo_cons j9 (all511 j j9) n1) (gto_cons.mpr ⟨u', hj', n2⟩)
      rw [List.reverse_cons, List.reverse_cons] at this
      have hl2 : ks.reverse.length = ns.reverse.length := by rw [List.length_reverse, List.length_reverse, n3]
      rcases this with e | e
      · have := (List.append_inj e hl2).2
        have : k = j := by simpa using this
        omega
      · rcases e with e | ⟨-, e⟩
        · simp only [List.length_append, List.length_cons, List.length_nil] at e; omega
        · rcases ltr_app _ _ _ _ hl2 e with r | ⟨r, -⟩ <;> omega
theorem BQ.lw {H : HM} (hH : HMok H) {b s : Nat} {u p kk : Nat → Nat} {n o : Nat} (hs : STok H s) (q : BQ H b 511 s u p kk n o 0) {g : GL} {e : Nat} (he : e < n) (hf : ∀ j, j < e → gl H g (u j) = false) (hg : gl H g (u e) = true) : LW H b g (Pp p kk e).reverse s := by
  have r := q.row e he
  refine (LW_of hH _ s hs (fun k hk => r.2 k (List.mem_reverse.mp hk)) ⟨u e, by rw [pth_rpt, List.reverse_reverse]; exact r.1, hg⟩ (fun ns n1 n2 => ?_)).1
  rw [List.reverse_reverse]
  obtain ⟨v, v1, v2⟩ := n2
  rw [pth_rpt] at v1
  exact q.best (G := fun v => gl H g v = true) he (fun j hj => by rw [hf j hj]; decide) (fun k hk => n1 k (List.mem_reverse.mp hk)) v1 v2
theorem SD_none {H : HM} {b M s : Nat} {g : GL} {free : Bool} (h : ∀ v, RH H b M s v → gl H g v = false) : SD H b M g free s 268435456 := by
  refine Or.inl ⟨rfl, fun ms hm ⟨e, e1, e2⟩ => ?_⟩
  rw [pth_rpt] at e1
  rw [h e ⟨ms.reverse, fun k hk => hm k (List.mem_reverse.mp hk), e1⟩] at e2
  exact absurd e2 (by decide)
/-! two numbers in one int; a bit of a row of bits -/
theorem pack16 {a c : Nat} (ha : a < 65536) (hc : c < 65536) : (nI a <<< ((16 : Int32) &&& 31)) ||| nI c = nI (65536 * a + c) := by
  rw [pk_shlN _ 16 (by decide) (by omega), nx_or, Nat.mul_comm a, show 65536 * a + c = 2 ^ 16 * a ||| c from Nat.two_pow_add_eq_or_of_lt (i := 16) hc a]
theorem unpack_lo {a c : Nat} (ha : a < 65536) (hc : c < 65536) : nI (65536 * a + c) &&& 65535 = nI c := by
  rw [pk_andN (by omega) 16 (by decide), show (65536 * a + c) % 2 ^ 16 = c by omega]
theorem unpack_hi {a c : Nat} (ha : a < 65536) (hc : c < 65536) : ju (nI (65536 * a + c)) 16 = nI a := by
  unfold ju
  rw [pk_ushrN (by omega) 16 16 (by decide), show (65536 * a + c) / 2 ^ 16 = a by omega]
theorem b_one {n i : Nat} (hn : n < 32) (hi : i < 32) : bt ((1 : Int32) <<< (nI n &&& 31)) i = decide (i = n) := by
  rw [b_shl n hn _ hi, bt_1 (i - n) (by omega)]
  by_cases e : i = n
  · rw [decide_eq_true e, decide_eq_true (show n ≤ i by omega), decide_eq_true (show i - n = 0 by omega)]; rfl
  · rw [decide_eq_false e]
    by_cases q : n ≤ i
    · rw [decide_eq_false (show ¬ i - n = 0 by omega)]; simp
    · rw [decide_eq_false q]; simp
theorem and_one {x : Int32} {n : Nat} (hn : n < 32) : x &&& ((1 : Int32) <<< (nI n &&& 31)) = 0 ↔ bt x n = false := by
  constructor
  · intro h
    have := congrArg (fun y => bt y n) h
    rw [b_and, b_one hn hn, decide_eq_true rfl, Bool.and_true, b_0] at this
    exact this
  · intro h
    refine b_ext fun i hi => ?_
    rw [b_and, b_one hn hi, b_0]
    by_cases e : i = n
    · rw [e, h]; rfl
    · rw [decide_eq_false e, Bool.and_false]
theorem or_one {x : Int32} {n i : Nat} (hn : n < 32) (hi : i < 32) : bt (x ||| ((1 : Int32) <<< (nI n &&& 31))) i = (bt x i || decide (i = n)) := by rw [b_or, b_one hn hi]
theorem and31 (c : Nat) (hc : c < 65536) : nI c &&& 31 = nI (c % 32) := by rw [pk_andN (by omega) 5 (by decide)]
theorem shr5 (c : Nat) (hc : c < 65536) : nI c >>> ((5 : Int32) &&& 31) = nI (c / 32) := by rw [pk_shrN (by omega) _ 5 (by decide)]
