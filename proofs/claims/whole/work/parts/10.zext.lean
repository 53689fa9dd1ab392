/-! L1, behind the facts: a method's theorem out of its body, also where its class has entries of the machine's own -/
set_option maxHeartbeats 1000000 in
theorem GM_ofF {ρ : Type} {rv : ρ → Option Value} {I : MI} {d : Nat} {as : List Value} {lv : List (Nat × Value)} {h : Hp} {o : Option (ρ × Hp)} (hp : plainFor (mi_y I) = true) (hl : (lg_sl as).length ≤ mi_n I) (ha : lv_args 0 as = lv) (k : G rv I d 0 lv [] h o) : GM rv I d as h o := by
  intro x hx
  obtain ⟨hm, k⟩ := k x hx
  refine ⟨hm, fun l g => ?_⟩
  refine va_MetF (cc := mi_c I) (maxL := mi_n I) (ret := mi_r I) hp rfl ?_
  intro p e s m args below meth c s₁ B hml hv
  obtain ⟨rfl, hH, hK, hb⟩ := hv
  have hts := atoms_spec (ws := mi_w I) B.pre
  have hn : hp_n h = s.heap.size := hH.1
  have hl0 := lv_entry as (n := mi_n I) hl
  rw [lg_entry_eq]
  generalize (lg_sl as ++ List.replicate (mi_n I - (lg_sl as).length) Slot.unset).toArray = ls at hl0 ⊢
  rw [ha] at hl0
  have w := k g p l e (rmOf d (hp_n x.2 - s.heap.size) (hp_s x.2 - hp_s h)) s m as.toArray below meth c (hp_s h) ⟨B.exec, B.bytes, hml, B.returns, findClass_of_methodNamed B.named, fun w hw => hts w (List.mem_cons_of_mem _ hw), B.notSynchronized, (name_of_methodNamed B.named B.method).1, hK, hb, ⟨Nat.le_refl _, Nat.le_refl _, Nat.le_refl _, Nat.le_refl _⟩⟩ s.heap [] ls hH va_S.rf (Nat.le_refl _) hl0
  rw [← hn, Nat.sub_self, Nat.sub_self] at w
  exact w
