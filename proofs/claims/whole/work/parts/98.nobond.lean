/-! L3: codes that don't name the bond -/
theorem sv_nb {W W' : Nat → Int} {r : Nat} (hr : r ≠ 1005) (hw : ∀ j, j ≠ 5 → W' j = W j) (p : List Int) : sv W' r p = sv W r p := by
  unfold sv
  by_cases z : r < 3000
  · rw [if_pos z, if_pos z]
    by_cases u : r < 1000
    · rw [if_pos u, if_pos u]
    · rw [if_neg u, if_neg u, hw (r - 1000) (by omega)]
  · rw [if_neg z, if_neg z]
theorem ev_nb {W W' : Nat → Int} (hw : ∀ j, j ≠ 5 → W' j = W j) : ∀ (l : List Nat) (p : List Int), (∀ r ∈ l, r ≠ 1005) → ev W' l p = ev W l p := by
  intro l
  induction l with
  | nil => intro p _; rfl
  | cons r l ih =>
    intro p h
    show (sv W' r p).bind (ev W' l) = (sv W r p).bind (ev W l)
    rw [sv_nb (h r List.mem_cons_self) hw]
    cases sv W r p with
    | none => rfl
    | some q => exact ih q (fun u hu => h u (List.mem_cons_of_mem _ hu))
