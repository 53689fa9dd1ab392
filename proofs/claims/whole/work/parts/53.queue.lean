/-! L3, the class: a queue of stands, shortest rows first -/
def ltr : List Nat → List Nat → Prop
  | x :: xs, y :: ys => ltr xs ys ∨ (xs = ys ∧ x < y)
  | _, _ => False
/-- shorter, or as long and ahead; rows with the last move first -/
def lo (a b : List Nat) : Prop := a.length < b.length ∨ (a.length = b.length ∧ ltr a b)
theorem ltr.tr : ∀ {a b c : List Nat}, ltr a b → ltr b c → ltr a c := by
  intro a
  induction a with
  | nil => intro b c h; cases b <;> exact absurd h (by simp [ltr])
  | cons x xs ih =>
    intro b c h1 h2
    cases b with
    | nil => exact absurd h1 (by simp [ltr])
    | cons y ys =>
      cases c with
      | nil => exact absurd h2 (by simp [ltr])
      | cons z zs =>
        rcases h1 with h1 | ⟨h1, h1'⟩
        · rcases h2 with h2 | ⟨h2, h2'⟩
          · exact Or.inl (ih h1 h2)
          · rw [← h2]; exact Or.inl h1
        · rcases h2 with h2 | ⟨h2, h2'⟩
          · rw [h1]; exact Or.inl h2
          · exact Or.inr ⟨h1.trans h2, Nat.lt_trans h1' h2'⟩
theorem lo.tr {a b c : List Nat} (h1 : lo a b) (h2 : lo b c) : lo a c := by
  rcases h1 with h1 | ⟨h1, h1'⟩
  · rcases h2 with h2 | ⟨h2, h2'⟩
    · exact Or.inl (by omega)
    · exact Or.inl (by omega)
  · rcases h2 with h2 | ⟨h2, h2'⟩
    · exact Or.inl (by omega)
    · exact Or.inr ⟨h1.trans h2, h1'.tr h2'⟩
def loe (a b : List Nat) : Prop := a = b ∨ lo a b
theorem lo.le {a b c : List Nat} (h1 : lo a b) (h2 : loe b c) : lo a c := by
  rcases h2 with h2 | h2
  · rw [← h2]; exact h1
  · exact h1.tr h2
theorem lo.cons {a b : List Nat} (x y : Nat) (h : lo a b) : lo (x :: a) (y :: b) := by
  rcases h with h | ⟨h, h'⟩
  · exact Or.inl (by simp only [List.length_cons]; omega)
  · exact Or.inr ⟨by simp only [List.length_cons]; omega, Or.inl h'⟩
theorem lo.len {a b : List Nat} (h : lo a b) : a.length ≤ b.length := by
  rcases h with h | ⟨h, -⟩ <;> omega
theorem loe.len {a b : List Nat} (h : loe a b) : a.length ≤ b.length := by
  rcases h with h | h
  · rw [h]; exact Nat.le_refl _
  · exact h.len
/-- n stands were found, o of them opened, of the next one k moves -/
def BQ (H : HM) (b M s : Nat) (u p kk : Nat → Nat) (n o k : Nat) : Prop :=
  (u 0 = s ∧ 0 < n ∧ o ≤ n ∧ k ≤ 9 ∧ (k = 0 ∨ o < n)) ∧ (∀ i, i < n → STok H (u i)) ∧ (∀ i j, i < n → j < n → u i = u j → i = j) ∧
  (∀ i, 0 < i → i < n → p i < i ∧ (p i < o ∨ (p i = o ∧ kk i < k)) ∧ kk i < 9 ∧ M.testBit (kk i) = true ∧ mv H b (u (p i)) (kk i) = some (u i)) ∧
  (∀ i j, 0 < i → i < j → j < n → p i < p j ∨ (p i = p j ∧ kk i < kk j)) ∧
  (∀ j m v, (j < o ∨ (j = o ∧ m < k)) → j < n → m < 9 → M.testBit m = true → mv H b (u j) m = some v → ∃ i, i < n ∧ u i = v ∧ (i = 0 ∨ p i < j ∨ (p i = j ∧ kk i ≤ m)))
def pr (p kk : Nat → Nat) : Nat → Nat → List Nat
  | 0, _ => []
  | f + 1, i => if i = 0 then [] else kk i :: pr p kk f (p i)
def Pp (p kk : Nat → Nat) (i : Nat) : List Nat := pr p kk i i
theorem pr_eq {p kk : Nat → Nat} {n : Nat} (hp : ∀ i, 0 < i → i < n → p i < i) : ∀ f g i, i < n → i ≤ f → i ≤ g → pr p kk f i = pr p kk g i := by
  intro f
  induction f with
  | zero =>
    intro g i hi h1 h2
    have e : i = 0 := by omega
    subst e
    cases g with
    | zero => rfl
    | succ g => show [] = (if 0 = 0 then [] else _); rw [if_pos rfl]
  | succ f ih =>
    intro g i hi h1 h2
    by_cases e : i = 0
    · subst e
      cases g with
      | zero => show (if 0 = 0 then [] else _) = _; rw [if_pos rfl]; rfl
      | succ g => show (if 0 = 0 then [] else _) = (if 0 = 0 then [] else _); rw [if_pos rfl, if_pos rfl]
    · cases g with
      | zero => omega
      | succ g =>
        show (if i = 0 then [] else kk i :: pr p kk f (p i)) = (if i = 0 then [] else kk i :: pr p kk g (p i))
        have := hp i (by omega) hi
        rw [if_neg e, if_neg e, ih g (p i) (by omega) (by omega) (by omega)]
theorem Pp_0 (p kk : Nat → Nat) : Pp p kk 0 = [] := rfl
theorem Pp_s {p kk : Nat → Nat} {n i : Nat} (hp : ∀ i, 0 < i → i < n → p i < i) (h0 : 0 < i) (hi : i < n) : Pp p kk i = kk i :: Pp p kk (p i) := by
  have := hp i h0 hi
  obtain ⟨j, rfl⟩ : ∃ j, i = j + 1 := ⟨i - 1, by omega⟩
  show (if j + 1 = 0 then [] else kk (j + 1) :: pr p kk j (p (j + 1))) = _
  rw [if_neg (by omega), pr_eq hp j (p (j + 1)) (p (j + 1)) (by omega) (by omega) (Nat.le_refl _)]
  rfl
section BQs
variable {H : HM} {b M s : Nat} {u p kk : Nat → Nat} {n o k : Nat}
theorem BQ.hp (q : BQ H b M s u p kk n o k) : ∀ i, 0 < i → i < n → p i < i := fun i h0 hi => (q.2.2.2.1 i h0 hi).1
theorem BQ.ord (q : BQ H b M s u p kk n o k) : ∀ j i, i < j → j < n → lo (Pp p kk i) (Pp p kk j) := by
  intro j
  induction j using Nat.strongRecOn with
  | _ j ih =>
    intro i hij hj
    rw [Pp_s q.hp (show 0 < j by omega) hj]
    by_cases e : i = 0
    · subst e; rw [Pp_0]; exact Or.inl (by simp)
    · rw [Pp_s q.hp (show 0 < i by omega) (show i < n by omega)]
      rcases q.2.2.2.2.1 i j (by omega) hij hj with h | ⟨h, h'⟩
      · exact (ih (p j) (q.hp j (by omega) hj) (p i) h (by have := q.hp j (by omega) hj; omega)).cons _ _
      · rw [h]; exact Or.inr ⟨by simp, Or.inr ⟨rfl, h'⟩⟩
theorem BQ.row (q : BQ H b M s u p kk n o k) : ∀ i, i < n → rpt H b (Pp p kk i) s = some (u i) ∧ mo M (Pp p kk i) := by
  intro i
  induction i using Nat.strongRecOn with
  | _ i ih =>
    intro hi
    by_cases e : i = 0
    · subst e; rw [Pp_0]; exact ⟨by show some s = _; rw [q.1.1], mo_nil M⟩
    · obtain ⟨h1, -, h3, h4, h5⟩ := q.2.2.2.1 i (by omega) hi
      obtain ⟨r1, r2⟩ := ih (p i) h1 (by omega)
      rw [Pp_s q.hp (show 0 < i by omega) hi]
      refine ⟨?_, mo_cons h3 h4 r2⟩
      show (rpt H b (Pp p kk (p i)) s).bind (fun w => mv H b w (kk i)) = _
      rw [r1]; exact h5
/-- a row is met by a place that is no farther, or leads past one that isn't opened -/
theorem BQ.min (q : BQ H b M s u p kk n o 0) : ∀ ms v, mo M ms → rpt H b ms s = some v → (∃ i, i < n ∧ u i = v ∧ loe (Pp p kk i) ms) ∨ ∃ i ms1, o ≤ i ∧ i < n ∧ loe (Pp p kk i) ms1 ∧ (ms1.length + 1 < ms.length ∨ ∃ x, ms = x :: ms1) := by
  intro ms
  induction ms with
  | nil =>
    intro v _ h
    have h : s = v := Option.some.inj h
    exact Or.inl ⟨0, q.1.2.1, by rw [q.1.1]; exact h, Or.inl (Pp_0 p kk)⟩
  | cons m ms ih =>
    intro v hm h
    have h : (rpt H b ms s).bind (fun w => mv H b w m) = some v := h
    cases hw : rpt H b ms s with
    | none => rw [hw] at h; cases h
    | some w =>
      rw [hw] at h
      have h : mv H b w m = some v := h
      have hd := mo_hd hm
      rcases ih w (mo_tl hm) hw with ⟨i', hi', e', l'⟩ | ⟨i, ms1, h1, h2, h3, h4⟩
      · by_cases z : i' < o
        · left
          obtain ⟨i, hi, ei, l⟩ := q.2.2.2.2.2 i' m v (Or.inl z) hi' hd.1 hd.2 (by rw [e']; exact h)
          refine ⟨i, hi, ei, ?_⟩
          by_cases e0 : i = 0
          · subst e0; rw [Pp_0]; exact Or.inr (Or.inl (by simp))
          · rw [Pp_s q.hp (show 0 < i by omega) hi]
            rcases l with l | l | ⟨l, l2⟩
            · exact absurd l e0
            · exact Or.inr (((q.ord i' (p i) l hi').le l').cons _ _)
            · rw [l]
              rcases l' with l' | l'
              · rw [l']
                rcases Nat.lt_or_ge (kk i) m with y | y
                · exact Or.inr (Or.inr ⟨by simp, Or.inr ⟨rfl, y⟩⟩)
                · rw [show kk i = m by omega]; exact Or.inl rfl
              · exact Or.inr (l'.cons _ _)
        · exact Or.inr ⟨i', ms, by omega, hi', l', Or.inr ⟨m, rfl⟩⟩
      · refine Or.inr ⟨i, ms1, h1, h2, h3, Or.inl ?_⟩
        rcases h4 with h4 | ⟨x, h4⟩
        · simp only [List.length_cons]; omega
        · rw [h4]; simp only [List.length_cons]; omega
/-- the first place of a goal has the first of the shortest rows -/
theorem BQ.best (q : BQ H b M s u p kk n o 0) {G : Nat → Prop} {g : Nat} (hg : g < n) (hf : ∀ j, j < g → ¬ G (u j)) {ms : List Nat} {v : Nat} (hm : mo M ms) (hr : rpt H b ms s = some v) (hG : G v) : loe (Pp p kk g) ms := by
  rcases q.min ms v hm hr with ⟨i, hi, e, l⟩ | ⟨i, ms1, h1, h2, h3, h4⟩
  · rcases Nat.lt_trichotomy i g with z | z | z
    · exact absurd (by rw [e]; exact hG) (hf i z)
    · rw [← z]; exact l
    · exact Or.inr ((q.ord i g z hi).le l)
  · by_cases e0 : g = 0
    · subst e0
      rw [Pp_0]
      refine Or.inr (Or.inl ?_)
      rcases h4 with h4 | ⟨x, h4⟩
      · show 0 < _; omega
      · rw [h4]; simp
    · obtain ⟨a1, a2, -⟩ := q.2.2.2.1 g (by omega) hg
      have a2 : p g < o := by omega
      have l := (q.ord i (p g) (by omega) h2).le h3
      rw [Pp_s q.hp (show 0 < g by omega) hg]
      rcases h4 with h4 | ⟨x, h4⟩
      · have := l.len
        exact Or.inr (Or.inl (by simp only [List.length_cons]; omega))
      · rw [h4]; exact Or.inr (l.cons _ _)
theorem BQ.all (q : BQ H b M s u p kk n n 0) {v : Nat} : RH H b M s v ↔ ∃ i, i < n ∧ u i = v := by
  constructor
  · rintro ⟨ms, hm, hr⟩
    rcases q.min ms v hm hr with ⟨i, hi, e, -⟩ | ⟨i, ms1, h1, h2, -⟩
    · exact ⟨i, hi, e⟩
    · omega
  · rintro ⟨i, hi, rfl⟩
    exact ⟨_, (q.row i hi).2, (q.row i hi).1⟩
theorem BQ.init (hs : STok H s) : BQ H b M s (fun _ => s) (fun _ => 0) (fun _ => 0) 1 0 0 := by
  refine ⟨⟨rfl, by decide, by decide, by decide, Or.inl rfl⟩, fun _ _ => hs, fun i j hi hj _ => by omega, fun i h0 hi => by omega, fun i j h0 hij hj => by omega, fun j m v h _ _ _ _ => by omega⟩
theorem BQ.stay (q : BQ H b M s u p kk n o k) (ho : o < n) (hk : k < 9) (hv : ∀ v, M.testBit k = true → mv H b (u o) k = some v → ∃ i, i < n ∧ u i = v) : BQ H b M s u p kk n o (k + 1) := by
  obtain ⟨⟨q0, q1, q2, q3, q4⟩, q5, q6, q7, q8, q9⟩ := q
  refine ⟨⟨q0, q1, q2, by omega, Or.inr ho⟩, q5, q6, fun i h0 hi => ?_, q8, fun j m v hj hjn hm hM hmv => ?_⟩
  · obtain ⟨a1, a2, a3⟩ := q7 i h0 hi
    exact ⟨a1, by omega, a3⟩
  · by_cases z : j = o ∧ m = k
    · obtain ⟨rfl, rfl⟩ := z
      obtain ⟨i, hi, e⟩ := hv v hM hmv
      refine ⟨i, hi, e, ?_⟩
      by_cases e0 : i = 0
      · exact Or.inl e0
      · obtain ⟨a1, a2, -⟩ := q7 i (by omega) hi
        omega
    · exact q9 j m v (by omega) hjn hm hM hmv
theorem BQ.push (q : BQ H b M s u p kk n o k) (ho : o < n) (hk : k < 9) (hM : M.testBit k = true) {v : Nat} (hmv : mv H b (u o) k = some v) (hv : STok H v) (hnew : ∀ i, i < n → u i ≠ v) : BQ H b M s (fun i => if i = n then v else u i) (fun i => if i = n then o else p i) (fun i => if i = n then k else kk i) (n + 1) o (k + 1) := by
  obtain ⟨⟨q0, q1, q2, q3, q4⟩, q5, q6, q7, q8, q9⟩ := q
  have un : ∀ i, i < n → (if i = n then v else u i) = u i := fun i hi => if_neg (by omega)
  have pn : ∀ i, i < n → (if i = n then o else p i) = p i := fun i hi => if_neg (by omega)
  have kn : ∀ i, i < n → (if i = n then k else kk i) = kk i := fun i hi => if_neg (by omega)
  refine ⟨⟨?_, by omega, by omega, by omega, Or.inr (by omega)⟩, fun i hi => ?_, fun i j hi hj => ?_, fun i h0 hi => ?_, fun i j h0 hij hj => ?_, fun j m w hj hjn hm hM' hmv' => ?_⟩
  · show (if 0 = n then v else u 0) = s
    rw [if_neg (by omega)]; exact q0
  · show STok H (if i = n then v else u i)
    by_cases e : i = n
    · rw [if_pos e]; exact hv
    · rw [if_neg e]; exact q5 i (by omega)
  · show (if i = n then v else u i) = (if j = n then v else u j) → i = j
    by_cases e : i = n
    · by_cases e2 : j = n
      · intro _; omega
      · rw [if_pos e, if_neg e2]; intro z; exact absurd z.symm (hnew j (by omega))
    · by_cases e2 : j = n
      · rw [if_neg e, if_pos e2]; intro z; exact absurd z (hnew i (by omega))
      · rw [if_neg e, if_neg e2]; exact q6 i j (by omega) (by omega)
  · show (if i = n then o else p i) < i ∧ ((if i = n then o else p i) < o ∨ ((if i = n then o else p i) = o ∧ (if i = n then k else kk i) < k + 1)) ∧ (if i = n then k else kk i) < 9 ∧ M.testBit (if i = n then k else kk i) = true ∧ mv H b (if (if i = n then o else p i) = n then v else u (if i = n then o else p i)) (if i = n then k else kk i) = some (if i = n then v else u i)
    by_cases e : i = n
    · subst e
      rw [if_pos rfl, if_pos rfl, if_pos rfl, un o ho]
      exact ⟨ho, Or.inr ⟨rfl, by omega⟩, hk, hM, hmv⟩
    · obtain ⟨a1, a2, a3, a4, a5⟩ := q7 i h0 (by omega)
      rw [if_neg e, if_neg e, if_neg e, un (p i) (by omega)]
      exact ⟨a1, by omega, a3, a4, a5⟩
  · show (if i = n then o else p i) < (if j = n then o else p j) ∨ ((if i = n then o else p i) = (if j = n then o else p j) ∧ (if i = n then k else kk i) < (if j = n then k else kk j))
    rw [pn i (by omega), kn i (by omega)]
    by_cases e : j = n
    · rw [if_pos e, if_pos e]
      obtain ⟨a1, a2, -⟩ := q7 i h0 (by omega)
      omega
    · rw [if_neg e, if_neg e]; exact q8 i j h0 hij (by omega)
  · have hjn : j < n := by omega
    have hmv' : mv H b (if j = n then v else u j) m = some w := hmv'
    rw [un j hjn] at hmv'
    by_cases z : j = o ∧ m = k
    · obtain ⟨rfl, rfl⟩ := z
      rw [hmv] at hmv'
      have hw : v = w := Option.some.inj hmv'
      refine ⟨n, by omega, ?_, Or.inr (Or.inr ⟨?_, ?_⟩)⟩
      · show (if n = n then v else u n) = w
        rw [if_pos rfl]; exact hw
      · show (if n = n then j else p n) = j
        rw [if_pos rfl]
      · show (if n = n then m else kk n) ≤ m
        rw [if_pos rfl]; exact Nat.le_refl _
    · obtain ⟨i, hi, e, l⟩ := q9 j m w (by omega) hjn hm hM' hmv'
      refine ⟨i, by omega, ?_, ?_⟩
      · show (if i = n then v else u i) = w
        rw [un i hi]; exact e
      · show i = 0 ∨ (if i = n then o else p i) < j ∨ ((if i = n then o else p i) = j ∧ (if i = n then k else kk i) ≤ m)
        rw [pn i hi, kn i hi]; exact l
theorem BQ.next (q : BQ H b M s u p kk n o 9) (ho : o < n) : BQ H b M s u p kk n (o + 1) 0 := by
  obtain ⟨⟨q0, q1, q2, q3, q4⟩, q5, q6, q7, q8, q9⟩ := q
  refine ⟨⟨q0, q1, by omega, by omega, Or.inl rfl⟩, q5, q6, fun i h0 hi => ?_, q8, fun j m v hj hjn hm hM hmv => q9 j m v (by omega) hjn hm hM hmv⟩
  obtain ⟨a1, a2, a3⟩ := q7 i h0 hi
  exact ⟨a1, by omega, a3⟩
/-- the move of a place is the first one that leads there -/
theorem BQ.first (q : BQ H b M s u p kk n o k) {i m : Nat} (h0 : 0 < i) (hi : i < n) (hm : m < kk i) (hM : M.testBit m = true) : mv H b (u (p i)) m ≠ some (u i) := by
  intro z
  obtain ⟨a1, a2, a3, a4, a5⟩ := q.2.2.2.1 i h0 hi
  obtain ⟨j, hj, e, l⟩ := q.2.2.2.2.2 (p i) m (u i) (by omega) (by omega) (by omega) hM z
  have : j = i := q.2.2.1 j i hj hi e
  subst this
  omega
end BQs
