/-! L1: returns, new cells, calls, String constants, arraycopy -/
section GRC
variable {ρ : Type} {rv : ρ → Option Value} {I : MI} {d pc pc' tgt : Nat} {lv lv' : List (Nat × Value)} {st st' : List Value} {h h' : Hp} {o o1 o2 : Option (ρ × Hp)}
theorem g_iret {v : Int32} (hr : mi_r I = some .int) (dd : decode (mi_c I) pc = .ok (.ireturn, 1)) : G rvI I d pc lv [.int v] h (some (v, h)) := by
  intro x hx
  cases hx
  refine ⟨⟨Nat.le_refl _, Nat.le_refl _⟩, fun g p l e R s m args below meth c w0 C H locs ls hH hS h0 hl => ?_⟩
  obtain ⟨c1, c2, c3, c4, c5, hts, c7, c8, hK, c10, c11⟩ := C
  exact W.iret c1 c2 (c4.trans hr) (fun t ht _ => ⟨rfl, by rw [ht]; exact hH, hS.F ht⟩) hS.2.2 dd c7
theorem g_zret {v : Int32} {ty : FieldType} (hr : mi_r I = some ty) (hv : narrow ty (.int v) = .int v) (dd : decode (mi_c I) pc = .ok (.ireturn, 1)) : G rvI I d pc lv [.int v] h (some (v, h)) := by
  intro x hx
  cases hx
  refine ⟨⟨Nat.le_refl _, Nat.le_refl _⟩, fun g p l e R s m args below meth c w0 C H locs ls hH hS h0 hl => ?_⟩
  obtain ⟨c1, c2, c3, c4, c5, hts, c7, c8, hK, c10, c11⟩ := C
  exact W.zret c1 c2 (c4.trans hr) hv (fun t ht _ => ⟨rfl, by rw [ht]; exact hH, hS.F ht⟩) hS.2.2 dd c7
def rz (v : Int32) (h : Hp) : Option (Int32 × Hp) := gd (v = 0 ∨ v = 1) (some (v, h))
theorem g_zretG {v : Int32} (hr : mi_r I = some .boolean) (dd : decode (mi_c I) pc = .ok (.ireturn, 1)) : G rvI I d pc lv [.int v] h (rz v h) :=
  G_gd fun hv => g_zret hr (by rcases hv with q | q <;> subst q <;> rfl) dd
def rn (ty : FieldType) (v : Int32) (h : Hp) : Option (Int32 × Hp) := gd (narrow ty (.int v) = .int v) (some (v, h))
theorem g_nret {v : Int32} {ty : FieldType} (hr : mi_r I = some ty) (dd : decode (mi_c I) pc = .ok (.ireturn, 1)) : G rvI I d pc lv [.int v] h (rn ty v h) :=
  G_gd fun hv => g_zret hr hv dd
theorem g_lret {v : Int64} (hr : mi_r I = some .long) (dd : decode (mi_c I) pc = .ok (.lreturn, 1)) : G rvL I d pc lv [.long v] h (some (v, h)) := by
  intro x hx
  cases hx
  refine ⟨⟨Nat.le_refl _, Nat.le_refl _⟩, fun g p l e R s m args below meth c w0 C H locs ls hH hS h0 hl => ?_⟩
  obtain ⟨c1, c2, c3, c4, c5, hts, c7, c8, hK, c10, c11⟩ := C
  exact W.lret c1 c2 (c4.trans hr) (fun t ht _ => ⟨rfl, by rw [ht]; exact hH, hS.F ht⟩) hS.2.2 dd c7
theorem g_vret (hr : mi_r I = none) (dd : decode (mi_c I) pc = .ok (.return_, 1)) : G rvV I d pc lv [] h (some ((), h)) := by
  intro x hx
  cases hx
  refine ⟨⟨Nat.le_refl _, Nat.le_refl _⟩, fun g p l e R s m args below meth c w0 C H locs ls hH hS h0 hl => ?_⟩
  obtain ⟨c1, c2, c3, c4, c5, hts, c7, c8, hK, c10, c11⟩ := C
  exact W.vret c1 c2 (c4.trans hr) (fun t ht _ => ⟨rfl, by rw [ht]; exact hH, hS.F ht⟩) hS.2.2 dd c7
theorem g_aret {b : Nat} {n : String} (hr : mi_r I = some (.object n)) (dd : decode (mi_c I) pc = .ok (.areturn, 1)) : G rvR I d pc lv [.ref b] h (some (b, h)) := by
  intro x hx
  cases hx
  refine ⟨⟨Nat.le_refl _, Nat.le_refl _⟩, fun g p l e R s m args below meth c w0 C H locs ls hH hS h0 hl => ?_⟩
  obtain ⟨c1, c2, c3, c4, c5, hts, c7, c8, hK, c10, c11⟩ := C
  exact W.aret c1 c2 (c4.trans hr) (Or.inl ⟨n, rfl⟩) (Or.inr ⟨b, rfl⟩) (fun t ht _ => ⟨rfl, by rw [ht]; exact hH, hS.F ht⟩) hS.2.2 dd c7
-- new cells
theorem CR.lt {g : Gl} {h : Hp} {H : Heap} {b : Nat} (hc : CR g h b H) : b < H.size := by
  unfold CR at hc
  by_cases q : hp_t h b < 14
  · rw [if_pos q] at hc
    obtain ⟨cell, h1, -⟩ := hc
    exact (Array.getElem?_eq_some_iff.mp h1).1
  · rw [if_neg q] at hc
    exact (Array.getElem?_eq_some_iff.mp hc).1
theorem HR.new {g : Gl} {h : Hp} {H H1 : Heap} {t n w : Nat} (hH : HR g h H) (hb : gB g ≤ H.size) (ok : hp_ok t) (z : H1.size = H.size + 1) (oq : ∀ q, q < H.size → H1[q]? = H[q]?) (hc : CR g (hp_nw h t n w) (hp_n h) H1) : HR g (hp_nw h t n w) H1 := by
  obtain ⟨q1, q2, q3, q4, q5, q6⟩ := hH
  have key : ∀ b, b ≠ hp_n h → hp_t (hp_nw h t n w) b = hp_t h b ∧ hp_l (hp_nw h t n w) b = hp_l h b ∧ hp_I (hp_nw h t n w) b = hp_I h b ∧ hp_L (hp_nw h t n w) b = hp_L h b ∧ hp_R (hp_nw h t n w) b = hp_R h b := by
    intro b hb
    simp [hp_nw, hp_t, hp_l, hp_I, hp_L, hp_R, hp_n] at hb ⊢
    simp [hb]
  have here : hp_t (hp_nw h t n w) (hp_n h) = t := by simp [hp_nw, hp_t, hp_n]
  refine ⟨by rw [z, ← q1]; rfl, q2, fun b hok => ?_, fun b hbt => ?_, fun b hbt => ?_, fun b hbt => ?_⟩
  · by_cases e : b = hp_n h
    · subst e; exact ⟨by rw [q1]; exact hb, hc⟩
    · obtain ⟨k1, k2, k3, k4, k5⟩ := key b e
      rw [k1] at hok
      exact ⟨(q3 b hok).1, (q3 b hok).2.kept (oq b (q3 b hok).2.lt) k1 k2 k3 k4 k5⟩
  · have e : b ≠ hp_n h := fun e => by subst e; rw [here] at hbt; unfold hp_ok at ok; omega
    obtain ⟨k1, k2, k3, k4, k5⟩ := key b e
    rw [k1] at hbt
    rw [k3, k5]
    exact q4 b hbt
  · have e : b ≠ hp_n h := fun e => by subst e; rw [here] at hbt; unfold hp_ok at ok; omega
    obtain ⟨k1, k2, k3, k4, k5⟩ := key b e
    rw [k1] at hbt
    rw [k2, k3]
    exact q5 b hbt
  · have e : b ≠ hp_n h := fun e => by subst e; rw [here] at hbt; unfold hp_ok at ok; omega
    obtain ⟨k1, k2, k3, k4, k5⟩ := key b e
    rw [k1] at hbt
    rw [k2, k3]
    exact q6 b hbt
theorem va_S.new {A : Nat → Prop} {H0 H H1 : Heap} {locs : List Loc} (hS : va_S A H0 H locs) (z : H1.size = H.size + 1) (oq : ∀ q, q < H.size → H1[q]? = H[q]?) : va_S A H0 H1 locs :=
  ⟨Nat.le_trans hS.1 (by omega), fun x h1 h2 => (oq x (Nat.lt_of_lt_of_le h1 hS.1)).trans (hS.2.1 x h1 h2), hS.2.2⟩
theorem kc_def : ∀ t, 0 < t → t < 14 → ∀ k, k < kc_n t → defaultValue (kc_y t k) = (match kc_k (kc_y t k) with | 0 => .int 0 | 1 => .long 0 | _ => .null) := by
  have h : ∀ t, t < 13 → ∀ k, k < kc_n (t + 1) → defaultValue (kc_y (t + 1) k) = (match kc_k (kc_y (t + 1) k) with | 0 => .int 0 | 1 => .long 0 | _ => .null) := by decide +kernel
  intro t h0 h1
  obtain ⟨u, rfl⟩ : ∃ u, t = u + 1 := ⟨t - 1, by omega⟩
  exact h u (by omega)
theorem hp_nw_at (h : Hp) (t n w : Nat) : hp_t (hp_nw h t n w) (hp_n h) = t ∧ hp_l (hp_nw h t n w) (hp_n h) = n ∧ (∀ j, hp_I (hp_nw h t n w) (hp_n h) j = 0) ∧ (∀ j, hp_L (hp_nw h t n w) (hp_n h) j = 0) ∧ (∀ j, hp_R (hp_nw h t n w) (hp_n h) j = none) := by
  simp [hp_nw, hp_t, hp_l, hp_I, hp_L, hp_R, hp_n]
set_option maxHeartbeats 1000000 in
theorem g_new {i t : Nat} {K : Nat → Hp → Option (ρ × Hp)} (h0 : 0 < t) (h1 : t < 14) (hl : Cond.classLink (mi_y I).cls i (kc_N t) ∈ TS ∧ Cond.instantiable (kc_N t) (kc_n t) ∈ TS ∧ Cond.initialized (kc_N t) ∈ TS) (dd : decode (mi_c I) pc = .ok (.new i, 3)) (kk : ∀ a h1, G rv I d (pc + 3) lv (.ref a :: st) h1 (K a h1)) : G rv I d pc lv st h (nO t h K) := by
  intro x hx
  obtain ⟨km, kw⟩ := kk (hp_n h) (hp_nw h t 0 (kc_n t)) x hx
  have km1 : hp_n h + 1 ≤ hp_n x.2 := km.1
  have km2 : hp_s h + kc_n t ≤ hp_s x.2 := km.2
  refine ⟨⟨by omega, by omega⟩, fun g p l e R s m args below meth c w0 C H locs ls hH hS hw hlv => ?_⟩
  have C' := C
  obtain ⟨c1, c2, c3, c4, c5, hts, c7, c8, hK, c10, c11⟩ := C
  have hz := hS.1
  have hsz := hH.1
  have hKn := hK.1 t h0 h1
  refine W.newcK c1 c2 c5 (hts _ hl.1) (hts _ hl.2.1) (hts _ hl.2.2) rfl dd (Nat.le_trans (by omega) c11.2.2.1) (Nat.le_trans (by omega) c11.2.2.2) hKn.2.1 hsz.symm fun H1 kC hkC e1 z1 o1 => ?_
  rw [hsz] at z1 o1
  obtain ⟨n1, n2, n3, n4, n5⟩ := hp_nw_at h t 0 (kc_n t)
  have w := kw g p l e R s m args below meth c w0 C' H1 locs ls (hH.new (Nat.le_trans c10 hz) (Or.inl ⟨h0, h1⟩) z1 o1 (by
    unfold CR
    rw [n1, if_pos h1]
    refine (u_born (kc_y t) hts (kc_lays t h0 h1) hKn hkC e1 (kc_tyok t h0 h1)).to (fun j hj => ?_)
    rw [kc_def t h0 h1 j hj]
    unfold hp_fv
    rw [n1, n3, n4, n5]
    rfl)) (hS.new z1 o1) (Nat.le_trans hw (Nat.le_add_right _ _)) hlv
  refine W.cs ?_ ?_ w
  · show _ = hp_n h + 1 - s.heap.size; omega
  · show _ = hp_s h + kc_n t - w0; omega
theorem ka_def {t : Nat} (h0 : 20 ≤ t) (h1 : t < 27) (j : Nat) (h : Hp) (n w : Nat) : defaultValue (ka_y t) = hp_av (hp_nw h t n w) (hp_n h) j := by
  obtain ⟨n1, n2, n3, n4, n5⟩ := hp_nw_at h t n w
  unfold hp_av
  rw [n1, n3, n4, n5]
  rcases (show t = 20 ∨ t = 21 ∨ t = 22 ∨ t = 23 ∨ t = 24 ∨ t = 25 ∨ t = 26 by omega) with rfl | rfl | rfl | rfl | rfl | rfl | rfl <;> rfl
set_option maxHeartbeats 1000000 in
theorem g_newa {t : Nat} {atype : ArrayType} {n : Int32} {K : Nat → Hp → Option (ρ × Hp)} (h0 : 20 ≤ t) (h1 : t < 24) (hty : newarray.typeOf atype = ka_y t) (hl : Cond.arrayClass (newarray.typeOf atype) ∈ TS) (dd : decode (mi_c I) pc = .ok (.newarray atype, 2)) (kk : ∀ a h1, G rv I d (pc + 2) lv (.ref a :: st) h1 (K a h1)) : G rv I d pc lv (.int n :: st) h (nA t h n K) := by
  refine G_gd fun hn => ?_
  intro x hx
  obtain ⟨km, kw⟩ := kk (hp_n h) (hp_nw h t (ix n) (ix n)) x hx
  have km1 : hp_n h + 1 ≤ hp_n x.2 := km.1
  have km2 : hp_s h + ix n ≤ hp_s x.2 := km.2
  refine ⟨⟨by omega, by omega⟩, fun g p l e R s m args below meth c w0 C H locs ls hH hS hw hlv => ?_⟩
  have C' := C
  obtain ⟨c1, c2, c3, c4, c5, hts, c7, c8, hK, c10, c11⟩ := C
  have hz := hS.1
  have hsz := hH.1
  have hcb : componentBytes (newarray.typeOf atype) ≤ 8 := by cases atype <;> decide
  refine va_newaK (N := ix n) c1 c2 (hts _ hl) rfl dd rfl hn.1 rfl (Nat.le_trans (Nat.mul_le_mul hn.2 hcb) (by decide)) (Nat.le_trans (by omega) c11.2.2.1) (Nat.le_trans (show _ + ix n ≤ _ by omega) c11.2.2.2) hsz.symm fun H1 cA e1 z1 o1 hAr hNm => ?_
  rw [hsz] at z1 o1
  rw [hty] at e1 hNm
  have hcA : cA = gA g t := by
    have h2 := (hK.2.1 t h0 (by omega)).2
    rcases (show t = 20 ∨ t = 21 ∨ t = 22 ∨ t = 23 by omega) with rfl | rfl | rfl | rfl <;> exact Option.some.inj (hNm.symm.trans h2)
  obtain ⟨n1, n2, n3, n4, n5⟩ := hp_nw_at h t (ix n) (ix n)
  have w := kw g p l e R s m args below meth c w0 C' H1 locs ls (hH.new (Nat.le_trans c10 hz) (Or.inr ⟨h0, by omega⟩) z1 o1 (by
    unfold CR
    rw [n1, if_neg (by omega), n2, e1, hcA]
    congr 2
    funext j
    exact ka_def h0 (by omega) j h _ _)) (hS.new z1 o1) (Nat.le_trans hw (Nat.le_add_right _ _)) hlv
  refine W.cs ?_ ?_ w
  · show _ = hp_n h + 1 - s.heap.size; omega
  · show _ = hp_s h + ix n - w0; omega
set_option maxHeartbeats 1000000 in
theorem g_anew {i t : Nat} {n : Int32} {K : Nat → Hp → Option (ρ × Hp)} (h0 : 24 ≤ t) (h1 : t < 27) (hl : Cond.classLink (mi_y I).cls i (kc_N (ka_c t)) ∈ TS) (dd : decode (mi_c I) pc = .ok (.anewarray i, 3)) (kk : ∀ a h1, G rv I d (pc + 3) lv (.ref a :: st) h1 (K a h1)) : G rv I d pc lv (.int n :: st) h (nA t h n K) := by
  refine G_gd fun hn => ?_
  intro x hx
  obtain ⟨km, kw⟩ := kk (hp_n h) (hp_nw h t (ix n) (ix n)) x hx
  have km1 : hp_n h + 1 ≤ hp_n x.2 := km.1
  have km2 : hp_s h + ix n ≤ hp_s x.2 := km.2
  refine ⟨⟨by omega, by omega⟩, fun g p l e R s m args below meth c w0 C H locs ls hH hS hw hlv => ?_⟩
  have C' := C
  obtain ⟨c1, c2, c3, c4, c5, hts, c7, c8, hK, c10, c11⟩ := C
  have hz := hS.1
  have hsz := hH.1
  obtain ⟨ey, t0, t1⟩ := ka_obj h0 h1
  have hao : va_AO (kc_N (ka_c t)) s := hK.2.2.2.1 _ (by rcases (show t = 24 ∨ t = 25 ∨ t = 26 by omega) with rfl | rfl | rfl <;> simp [ka_c, kc_N])
  refine W.anew c1 c2 c5 (hts _ hl) (va_AO.use hao) rfl dd rfl hn.1 (Nat.le_trans (Nat.mul_le_mul hn.2 (Nat.le_refl 4)) (by decide)) (Nat.le_trans (by omega) c11.2.2.1) (Nat.le_trans (show _ + ix n ≤ _ by omega) c11.2.2.2) fun cA kA comp f1 f2 f3 f4 => ?_
  generalize hH1 : H.push ({ cls := cA, slots := Array.replicate n.toNatClampNeg .null, vm := .none } : Cell) = H1
  have z1 : H1.size = H.size + 1 := by rw [← hH1, Array.size_push]
  have e1 : H1[H.size]? = some (arrV cA n.toNatClampNeg (fun _ => .null)) := by rw [← hH1, Array.getElem?_push_size, ← arrV_new]
  have o1 : ∀ q : Nat, q < H.size → H1[q]? = H[q]? := fun q hq => by rw [← hH1, Array.getElem?_push, if_neg (Nat.ne_of_lt hq)]
  have hcA : cA = gA g t := by
    have h2 := (hK.2.1 t (by omega) h1).2
    rw [ey] at h2
    obtain ⟨_, _, _, _, _, h3⟩ := h2
    exact Option.some.inj (f1.symm.trans h3)
  obtain ⟨n1, n2, n3, n4, n5⟩ := hp_nw_at h t (ix n) (ix n)
  have w := kw g p l e R s m args below meth c w0 C' H1 locs ls (hH.new (Nat.le_trans c10 hz) (Or.inr ⟨by omega, by omega⟩) z1 o1 (by
    unfold CR
    rw [n1, if_neg (by omega), n2, hsz, e1, hcA]
    congr 2
    funext j
    have := ka_def (by omega) h1 j h (ix n) (ix n)
    rw [hsz] at this
    rw [← this, ey]
    rfl)) (hS.new z1 o1) (Nat.le_trans hw (Nat.le_add_right _ _)) hlv
  rw [hsz] at w
  refine W.cs ?_ ?_ w
  · rw [hsz]; show _ = hp_n h + 1 - s.heap.size; omega
  · show hp_s h - w0 + ix n = hp_s h + ix n - w0; omega
end GRC
