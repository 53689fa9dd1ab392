/-! the law whole, on the abstract heap; its room -/
theorem LAW_all {F N l0 : Nat} {h0 : Hp} (hF : 70000 ≤ F) (kb : KSb h0) (t0 : hp_t h0 l0 = 28) (n0 : hp_l h0 l0 = N) (hN : N ≤ 3072) (l1 : l0 < hp_n h0) : ∃ h2, f_L_law F l0 h0 = some (1, h2) ∧ hp_n h2 ≤ hp_n h0 + 600000 ∧ hp_s h2 ≤ hp_s h0 + 7302250 := by
  obtain ⟨x, hx⟩ : ∃ x, hp_n h0 = x := ⟨_, rfl⟩
  obtain ⟨h', e12, f, z⟩ := mk_X12 F (by omega) hx
  have I := INV0 hx kb f z
  obtain ⟨⟨n1, s1⟩, c1, w1⟩ := yp_ok hx yLm
  have n66 : hp_n h' = x + 66 := by rw [f.1.2.2.2.1, n1, y_n.1]
  have s66 : hp_s h' ≤ hp_s h0 + 1000000 + 1200000 := by
    rw [f.1.2.2.2.2.1, s1]
    have := y_n.2
    omega
  rw [hx] at l1
  have b := w1.2.2 l0 (by rw [hx]; exact l1)
  have sc : SCr h' l0 N (ow0 x) := ⟨by rw [f.1.1, b.1.1]; exact t0, by rw [f.1.2.1, b.1.2]; exact n0, hN, by rw [n66]; omega, if_pos l1⟩
  obtain ⟨h2, ow', hs', T', P', S', e, I2, rm⟩ := LAW_loop (F := F) (x := x) (l0 := l0) (N := N) hF 512 0 F h' (ow0 x) (fun _ => H0m) 4 1 S0m (by omega) (by omega) (by decide) I sc
  refine ⟨h2, ?_, ?_⟩
  · unfold f_L_law
    have e0 : nO 12 h0 (fun b1 h2 => bd (f_X11_init F b1 h2) fun _ h4 => nO 13 h4 fun b5 h6 => bd (f_X12_init F b5 h6) fun _ h8 => f_L_law_18 F F l0 b1 b5 0 h8) = bd (f_X11_init F (x + 0) (ypr x h0 [yA 12 0 17])) (fun _ h4 => nO 13 h4 fun b5 h6 => bd (f_X12_init F b5 h6) fun _ h8 => f_L_law_18 F F l0 (x + 0) b5 0 h8) := xnO (l := []) hx 12 0 17 rfl rfl _
    rw [e0, Nat.add_zero, bd_n (mk_X11 F (by omega) hx), xnO hx 13 48 35 (by decide +kernel) rfl, bd_n e12]
    exact e
  · obtain ⟨⟨a, p, ⟨cv, -⟩, -, -, -, -, ⟨⟨⟨-, hP⟩, -⟩, -⟩, -⟩, -⟩ := I2
    obtain ⟨-, -, -, P1, S1, L1, P2, S2, L2, W, L3, J, L4, i1, i2, i3, i4, rfl⟩ := cv
    have b1 : L1 ≤ 65536 := i1.1.2.2.2.2.elim fun k hk => by
      rw [hk.2]
      exact Nat.pow_le_pow_right (by decide : 0 < 16) hk.1
    have b2 : L2 ≤ 65536 := i2.1.2.2.2.2.elim fun k hk => by
      rw [hk.2]
      exact Nat.pow_le_pow_right (by decide : 0 < 16) hk.1
    have b3 : L3 ≤ 65536 := i3.2.1.2.2.elim fun k hk => by
      rw [hk.2]
      exact Nat.pow_le_pow_right (by decide : 0 < 16) hk.1
    have b4 : L4 ≤ 65536 := i4.2.1.2.2.elim fun k hk => by
      rw [hk.2]
      exact Nat.pow_le_pow_right (by decide : 0 < 16) hk.1
    obtain ⟨r1, r2, -, -⟩ := rm
    rw [hx]
    constructor <;> omega
