/-! L3, the class: two numbers joined and kept -/
theorem cc_kept (F : Nat) (s : Int64) (h : Hp) : f_X3_kept F s h = some (zI (cpI s.toInt), h) := by
  have e1 : (1000000 : Int64).toInt = 1000000 := rfl
  have e2 : (-1000000 : Int64).toInt = -1000000 := rfl
  unfold f_X3_kept f_J9_min_f86c9 f_J9_max_f86c9 cpI
  by_cases z : s < 1000000
  · have z' := Int64.lt_iff_toInt_lt.mp z
    rw [e1] at z'
    rw [if_pos z, bd_s, if_pos (show s.toInt ≤ 1000000 by omega)]
    by_cases y : -1000000 < s
    · have y' := Int64.lt_iff_toInt_lt.mp y
      rw [e2] at y'
      rw [if_pos y, bd_s, if_pos (show -1000000 ≤ s.toInt by omega)]
      have : s.toInt32 = zI s.toInt := i32_eq (by
        rw [zI_t ⟨by omega, by omega⟩, Int64.toInt_toInt32]
        exact Int.bmod_eq_of_le (by omega) (by omega))
      rw [this]
    · have y' : ¬ -1000000 < s.toInt := fun w => y (Int64.lt_iff_toInt_lt.mpr (by rw [e2]; exact w))
      rw [if_neg y, bd_s]
      by_cases u : -1000000 ≤ s.toInt
      · rw [if_pos u, show s.toInt = -1000000 by omega]; rfl
      · rw [if_neg u]; rfl
  · have z' : ¬ s.toInt < 1000000 := fun w => z (Int64.lt_iff_toInt_lt.mpr (by rw [e1]; exact w))
    rw [if_neg z, bd_s, if_pos (show (-1000000 : Int64) < 1000000 by decide), bd_s]
    by_cases u : s.toInt ≤ 1000000
    · rw [if_pos u, if_pos (show -1000000 ≤ s.toInt by omega), show s.toInt = 1000000 by omega]; rfl
    · rw [if_neg u]; rfl
theorem i64_eq {a b : Int64} (h : a.toInt = b.toInt) : a = b := Int64.toInt_inj.mp h
theorem cpI_i {v : Int} (h : BD v) : cpI v = v := by
  unfold cpI
  rw [if_pos h.2, if_pos h.1]
theorem cc_joined (F : Nat) {r : Nat} {a b : Int} (hr : 3000 ≤ r ∧ r < 3009 ∧ r ≠ 3006) (ha : BD a) (hb : BD b) (hl : (r = 3007 ∨ r = 3008) → (a = 0 ∨ a = 1) ∧ (b = 0 ∨ b = 1)) (h : Hp) : ∃ s : Int64, f_X3_joined F (nI (ccd r)) (zI a).toInt64 (zI b).toInt64 h = some (s, h) ∧ zI (cpI s.toInt) = zI (bet r a b) := by
  have ba := ha
  have bb := hb
  obtain ⟨a1, a2⟩ := ba
  obtain ⟨b1', b2⟩ := bb
  have o1 : zI (cpI (1 : Int64).toInt) = zI 1 := rfl
  have o0 : zI (cpI (0 : Int64).toInt) = zI 0 := rfl
  have le : ∀ {u v : Int}, BD u → BD v → ((zI u).toInt64 ≤ (zI v).toInt64 ↔ u ≤ v) := fun hu hv => by rw [Int64.le_iff_toInt_le, z64 hu, z64 hv]
  rcases (show r = 3000 ∨ r = 3001 ∨ r = 3002 ∨ r = 3003 ∨ r = 3004 ∨ r = 3005 ∨ r = 3007 ∨ r = 3008 by omega) with rfl | rfl | rfl | rfl | rfl | rfl | rfl | rfl
  · refine ⟨(zI a).toInt64 + (zI b).toInt64, rfl, ?_⟩
    rw [Int64.toInt_add, z64 ha, z64 hb, bm (by omega) (by omega)]; rfl
  · refine ⟨(zI a).toInt64 - (zI b).toInt64, rfl, ?_⟩
    rw [Int64.toInt_sub, z64 ha, z64 hb, bm (by omega) (by omega)]; rfl
  · have mb := mul_b ha hb
    refine ⟨(zI a).toInt64 * (zI b).toInt64, rfl, ?_⟩
    rw [Int64.toInt_mul, z64 ha, z64 hb, bm mb.1 mb.2]; rfl
  · show ∃ s : Int64, (if (zI a).toInt64 = (zI b).toInt64 then some ((1 : Int64), h) else some (0, h)) = some (s, h) ∧ zI (cpI s.toInt) = zI (trI (a = b))
    unfold trI
    by_cases z : a = b
    · rw [if_pos (by rw [z]), if_pos z]; exact ⟨1, rfl, o1⟩
    · rw [if_neg (fun y => z (by rw [← z64 ha, ← z64 hb, y])), if_neg z]; exact ⟨0, rfl, o0⟩
  · show ∃ s : Int64, (if (zI b).toInt64 ≤ (zI a).toInt64 then some ((0 : Int64), h) else some (1, h)) = some (s, h) ∧ zI (cpI s.toInt) = zI (trI (a < b))
    unfold trI
    by_cases z : b ≤ a
    · rw [if_pos ((le hb ha).mpr z), if_neg (by omega)]; exact ⟨0, rfl, o0⟩
    · rw [if_neg (fun y => z ((le hb ha).mp y)), if_pos (by omega)]; exact ⟨1, rfl, o1⟩
  · show ∃ s : Int64, (if (zI a).toInt64 ≤ (zI b).toInt64 then some ((0 : Int64), h) else some (1, h)) = some (s, h) ∧ zI (cpI s.toInt) = zI (trI (b < a))
    unfold trI
    by_cases z : a ≤ b
    · rw [if_pos ((le ha hb).mpr z), if_neg (by omega)]; exact ⟨0, rfl, o0⟩
    · rw [if_neg (fun y => z ((le ha hb).mp y)), if_pos (by omega)]; exact ⟨1, rfl, o1⟩
  · obtain ⟨x, y⟩ := hl (Or.inl rfl)
    refine ⟨(zI a).toInt64 &&& (zI b).toInt64, rfl, ?_⟩
    show zI (cpI ((zI a).toInt64 &&& (zI b).toInt64).toInt) = zI (trI (a = 1 ∧ b = 1))
    rcases x with rfl | rfl <;> rcases y with rfl | rfl <;> rfl
  · obtain ⟨x, y⟩ := hl (Or.inr rfl)
    refine ⟨(zI a).toInt64 ||| (zI b).toInt64, rfl, ?_⟩
    show zI (cpI ((zI a).toInt64 ||| (zI b).toInt64).toInt) = zI (trI (a = 1 ∨ b = 1))
    rcases x with rfl | rfl <;> rcases y with rfl | rfl <;> rfl
/-! piles in the heap -/
/-- the pile p lies at a -/
def PL (h : Hp) (a : Nat) : List Int → Prop
  | [] => True
  | v :: q => hp_I h a q.length = zI v ∧ PL h a q
theorem PL.w {h : Hp} {a i : Nat} {w : Int32} : ∀ {q : List Int}, PL h a q → q.length ≤ i → PL (hp_sI h a i w) a q
  | [], _, _ => trivial
  | v :: q, p, hi => by
    have hi : q.length + 1 ≤ i := hi
    exact ⟨by rw [sI_at, if_neg (by omega)]; exact p.1, PL.w p.2 (by omega)⟩
theorem PL.put {h : Hp} {a : Nat} {v : Int} {q : List Int} (p : PL h a q) : PL (hp_sI h a q.length (zI v)) a (v :: q) := ⟨by rw [sI_at, if_pos rfl], p.w (Nat.le_refl _)⟩
theorem PL.cg {h h' : Hp} {a : Nat} (e : hp_I h' a = hp_I h a) : ∀ {q : List Int}, PL h a q → PL h' a q
  | [], _ => trivial
  | _ :: _, p => ⟨by rw [e]; exact p.1, PL.cg e p.2⟩
