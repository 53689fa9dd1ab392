/-! L3, the reference: what lies between two numbers -/
def zI (v : Int) : Int32 := Int32.ofInt v
def BD (v : Int) : Prop := -1000000 ≤ v ∧ v ≤ 1000000
theorem zI_t {v : Int} (h : BD v) : (zI v).toInt = v := Int32.toInt_ofInt_of_le (by have := h.1; omega) (by have := h.2; omega)
theorem zI_e {a b : Int} (ha : BD a) (hb : BD b) : zI a = zI b ↔ a = b := ⟨fun e => by rw [← zI_t ha, ← zI_t hb, e], fun e => by rw [e]⟩
theorem zI_le {a b : Int} (ha : BD a) (hb : BD b) : zI a ≤ zI b ↔ a ≤ b := by rw [Int32.le_iff_toInt_le, zI_t ha, zI_t hb]
theorem bm {v : Int} (h1 : -4000000000000 ≤ v) (h2 : v ≤ 4000000000000) : v.bmod (2 ^ 64) = v := Int.bmod_eq_of_le (by omega) (by omega)
theorem z64 {v : Int} (h : BD v) : (zI v).toInt64.toInt = v := by rw [i64_toInt, zI_t h]
theorem i32_eq {a b : Int32} (h : a.toInt = b.toInt) : a = b := Int32.toInt_inj.mp h
theorem rc_116 (F : Nat) (s : Int64) (h : Hp) : f_X12_between_116 F s h = some (zI (cpI s.toInt), h) := by
  unfold f_X12_between_116 cpI
  have e1 : (1000000 : Int64).toInt = 1000000 := rfl
  have e2 : (-1000000 : Int64).toInt = -1000000 := rfl
  by_cases z : s ≤ 1000000
  · have z' := Int64.le_iff_toInt_le.mp z
    rw [e1] at z'
    rw [if_pos z, if_pos z']
    by_cases y : -1000000 ≤ s
    · have y' := Int64.le_iff_toInt_le.mp y
      rw [e2] at y'
      rw [if_pos y, if_pos y']
      have : s.toInt32 = zI s.toInt := i32_eq (by
        rw [zI_t ⟨y', z'⟩, Int64.toInt_toInt32]
        exact Int.bmod_eq_of_le (by omega) (by omega))
      rw [this]
    · have y' : ¬ -1000000 ≤ s.toInt := fun w => y (Int64.le_iff_toInt_le.mpr (by rw [e2]; exact w))
      rw [if_neg y, if_neg y']; rfl
  · have z' : ¬ s.toInt ≤ 1000000 := fun w => z (Int64.le_iff_toInt_le.mpr (by rw [e1]; exact w))
    rw [if_neg z, if_neg z']; rfl
theorem mul_b {a b : Int} (ha : BD a) (hb : BD b) : -4000000000000 ≤ a * b ∧ a * b ≤ 4000000000000 := by
  have h1 : (a.natAbs : Int) ≤ 1000000 := by obtain ⟨x, y⟩ := ha; omega
  have h2 : (b.natAbs : Int) ≤ 1000000 := by obtain ⟨x, y⟩ := hb; omega
  have h3 : a.natAbs * b.natAbs ≤ 1000000 * 1000000 := Nat.mul_le_mul (by omega) (by omega)
  have h4 : (a * b).natAbs = a.natAbs * b.natAbs := Int.natAbs_mul a b
  omega
theorem rc_between (F : Nat) {r : Nat} {a b : Int} (hr : 3000 ≤ r ∧ r < 3009 ∧ r ≠ 3006) (ha : BD a) (hb : BD b) (hl : (r = 3007 ∨ r = 3008) → (a = 0 ∨ a = 1) ∧ (b = 0 ∨ b = 1)) (h : Hp) : f_X12_between F (nI r) (zI a) (zI b) h = some (zI (bet r a b), h) := by
  have ba := ha
  have bb := hb
  obtain ⟨a1, a2⟩ := ba
  obtain ⟨b1', b2⟩ := bb
  rcases (show r = 3000 ∨ r = 3001 ∨ r = 3002 ∨ r = 3003 ∨ r = 3004 ∨ r = 3005 ∨ r = 3007 ∨ r = 3008 by omega) with rfl | rfl | rfl | rfl | rfl | rfl | rfl | rfl
  · show f_X12_between_116 F ((zI a).toInt64 + (zI b).toInt64) h = some (zI (cpI (a + b)), h)
    rw [rc_116, Int64.toInt_add, z64 ha, z64 hb, bm (by omega) (by omega)]
  · show f_X12_between_116 F ((zI a).toInt64 - (zI b).toInt64) h = some (zI (cpI (a - b)), h)
    rw [rc_116, Int64.toInt_sub, z64 ha, z64 hb, bm (by omega) (by omega)]
  · have mb := mul_b ha hb
    show f_X12_between_116 F ((zI a).toInt64 * (zI b).toInt64) h = some (zI (cpI (a * b)), h)
    rw [rc_116, Int64.toInt_mul, z64 ha, z64 hb, bm mb.1 mb.2]
  · show (if zI a = zI b then some ((1 : Int32), h) else some (0, h)) = some (zI (trI (a = b)), h)
    unfold trI
    by_cases z : a = b
    · rw [if_pos ((zI_e ha hb).mpr z), if_pos z]; rfl
    · rw [if_neg (fun y => z ((zI_e ha hb).mp y)), if_neg z]; rfl
  · show (if zI b ≤ zI a then some ((0 : Int32), h) else some (1, h)) = some (zI (trI (a < b)), h)
    unfold trI
    by_cases z : b ≤ a
    · rw [if_pos ((zI_le hb ha).mpr z), if_neg (by omega)]; rfl
    · rw [if_neg (fun y => z ((zI_le hb ha).mp y)), if_pos (by omega)]; rfl
  · show (if zI a ≤ zI b then some ((0 : Int32), h) else some (1, h)) = some (zI (trI (b < a)), h)
    unfold trI
    by_cases z : a ≤ b
    · rw [if_pos ((zI_le ha hb).mpr z), if_neg (by omega)]; rfl
    · rw [if_neg (fun y => z ((zI_le ha hb).mp y)), if_pos (by omega)]; rfl
  · obtain ⟨x, y⟩ := hl (Or.inl rfl)
    show some (zI a &&& zI b, h) = some (zI (trI (a = 1 ∧ b = 1)), h)
    rcases x with rfl | rfl <;> rcases y with rfl | rfl <;> rfl
  · obtain ⟨x, y⟩ := hl (Or.inr rfl)
    show some (zI a ||| zI b, h) = some (zI (trI (a = 1 ∨ b = 1)), h)
    rcases x with rfl | rfl <;> rcases y with rfl | rfl <;> rfl
