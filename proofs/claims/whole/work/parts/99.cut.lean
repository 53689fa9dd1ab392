/-! L3, the class: what comes, cut to 0 to 3 -/
theorem cut_v {v : Int} (h : BD v) : clc (zI v) = (if 0 ≤ v then (if v ≤ 3 then v.toNat else 3) else 0) := by
  have e := zI_t h
  have z0 : (0 : Int32).toInt = 0 := rfl
  have z3 : (3 : Int32).toInt = 3 := rfl
  unfold clc
  by_cases a : 0 ≤ v
  · rw [if_pos (show (0 : Int32) ≤ zI v from Int32.le_iff_toInt_le.mpr (by rw [z0, e]; exact a)), if_pos a]
    by_cases b : v ≤ 3
    · rw [if_pos (show zI v ≤ 3 from Int32.le_iff_toInt_le.mpr (by rw [z3, e]; exact b)), if_pos b]
      show (zI v).toInt.toNat = v.toNat
      rw [e]
    · rw [if_neg (fun w => b (by have := Int32.le_iff_toInt_le.mp w; rw [z3, e] at this; exact this)), if_neg b]
  · rw [if_neg (fun w => a (by have := Int32.le_iff_toInt_le.mp w; rw [z0, e] at this; exact this)), if_neg a]
