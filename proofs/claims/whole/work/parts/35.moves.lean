/-! L3: moves, rows of moves -/
def LEd (s u : Nat) : Prop := ∀ j, j < 8 → dg s j ≤ dg u j
theorem LEd.le {s u : Nat} (hs : s < 65536) (hu : u < 65536) (h : LEd s u) : s ≤ u := by
  rw [← mk_dg hs, ← mk_dg hu]
  have h0 := h 0 (by decide); have h1 := h 1 (by decide); have h2 := h 2 (by decide); have h3 := h 3 (by decide)
  have h4 := h 4 (by decide); have h5 := h 5 (by decide); have h6 := h 6 (by decide); have h7 := h 7 (by decide)
  unfold mkS
  omega
theorem LEd.rf (s : Nat) : LEd s s := fun _ _ => Nat.le_refl _
theorem LEd.tr {s u v : Nat} (a : LEd s u) (b : LEd u v) : LEd s v := fun j hj => Nat.le_trans (a j hj) (b j hj)
theorem LEd.dy (s : Nat) : LEd s (dy s) := fun j hj => by
  rw [dg_dy hj]
  unfold dyv
  split <;> omega
theorem LEd.st {s k v : Nat} (hv : v < 4) (h : dg s k ≤ v) : LEd s (st4 s k v) := fun j hj => by
  rw [dg_st hv hj]
  by_cases q : j = k
  · rw [if_pos q, q]; exact h
  · rw [if_neg q]; exact Nat.le_refl _
theorem LEd.tl {s t f c : Nat} (ht : t < 2) (hf : f < 4) (hc : c < 4) : LEd s (tos s t f c) := by
  have d0 := dg_lt s (4 * t + f)
  have d1 := dg_lt s (4 * (1 - t) + f)
  have hv : (if dg s (4 * t + f) = 0 then 1 else dg s (4 * t + f)) < 4 := by split <;> omega
  have hw : (if c ≤ dg s (4 * (1 - t) + f) then dg s (4 * (1 - t) + f) else c) < 4 := by split <;> omega
  unfold tos
  refine (LEd.st hv ?_).tr (LEd.st hw ?_)
  · split <;> omega
  · rw [dg_st hv (by omega), if_neg (by omega)]
    split <;> omega
/-- where a move leads: 0 to 3 tell twin 0, 4 to 7 twin 1, 8 is a day -/
def mv (H : HM) (b s k : Nat) : Option Nat := if k = 8 then some (dy s) else if k % 4 < hm_f H then tld H b s (k / 4) (k % 4) else none
def oN (o : Option Nat) : Int32 := match o with
  | none => -1
  | some u => nI u
theorem mv_ok {H : HM} (hH : HMok H) {b s k u : Nat} (hs : STok H s) (hk : k < 9) (h : mv H b s k = some u) : STok H u ∧ s ≤ u ∧ LEd s u := by
  unfold mv at h
  have key : STok H u ∧ LEd s u := by
    by_cases q : k = 8
    · rw [if_pos q] at h
      obtain rfl := Option.some.inj h
      exact ⟨hs.dy, LEd.dy s⟩
    · rw [if_neg q] at h
      by_cases q2 : k % 4 < hm_f H
      · rw [if_pos q2] at h
        unfold tld at h
        cases ht : tel H b s (k / 4) (k % 4) with
        | none => rw [ht] at h; cases h
        | some c =>
          rw [ht] at h
          obtain rfl := Option.some.inj h
          have hc : c < 4 := hH.2.2.2.2.1 _ _ _ _ _ _ ht
          exact ⟨tos_ok hs (by omega) q2 hH.1 hc, LEd.tl (by omega) (by omega) hc⟩
      · rw [if_neg q2] at h; cases h
  exact ⟨key.1, key.2.le hs.1 key.1.1, key.2⟩
theorem k4 : ∀ k, k < 9 → nI k / 4 = nI (k / 4) ∧ nI k - nI k / 4 * 4 = nI (k % 4) := by decide +kernel
theorem nI_e8 : ∀ k, k < 8 → ¬ nI k = 8 := by decide +kernel
theorem rc_movedTo (F : Nat) (hF : 2000 ≤ F) {m : Nat} {h : Hp} {H : HM} {s0 b : Nat} (r : RS h m H s0 b) {s k : Nat} (hs : STok H s) (hk : k < 9) : ∃ h', f_X12_movedTo F m (nI s) (nI k) h = some (oN (mv H b s k), h') ∧ CI m [5, 6] h h' := by
  have h4 := r.f4
  unfold f_X12_movedTo mv
  by_cases q : k = 8
  · rw [if_pos (show nI k = 8 by rw [q]; rfl), if_pos q, bd_n (rc_dayTo F (by omega) hs.1 h)]
    exact ⟨h, rfl, CI.rf _ _ _⟩
  · rw [if_neg (nI_e8 k (by omega)), if_neg q, lt_e, (k4 k hk).2, r.1.g 1 1 (by decide) rfl, r.1.a 1 1 (show (1 : Int32) = nI 1 from rfl) (by decide) (by decide), r.fc, (k4 k hk).1]
    by_cases q2 : k % 4 < hm_f H
    · rw [if_neg (nI_ge q2 (by omega)), if_pos q2]
      obtain ⟨h2, e2, c2⟩ := rc_mayTell F hF r.1 r.2.1 r.2.2.1 r.2.2.2.1 r.2.2.2.2.2 hs (t := k / 4) (by omega) q2
      have r2 := r.ci c2 (by decide)
      rw [cV_n r.1.1 e2]
      unfold tld
      cases ht : tel H b s (k / 4) (k % 4) with
      | none => rw [if_pos (bsm0 rfl)]; exact ⟨_, rfl, c2⟩
      | some c =>
        obtain ⟨h3, e3, c3⟩ := rc_toldTo F hF r2.1 r2.2.1 r2.2.2.1 r2.2.2.2.1 r2.2.2.2.2.2 hs (t := k / 4) (by omega) q2 ht
        rw [if_neg (bsm1 rfl), cV_n r2.1.1 e3]
        exact ⟨_, rfl, c2.tr c3⟩
    · rw [if_pos (nI_le (by omega) (by omega)), if_neg q2]
      exact ⟨h, rfl, CI.rf _ _ _⟩
/-- rows of moves, the last one first -/
def rpt (H : HM) (b : Nat) : List Nat → Nat → Option Nat
  | [], s => some s
  | k :: ks, s => (rpt H b ks s).bind fun u => mv H b u k
/-- rows of moves, the first one first -/
def pth (H : HM) (b : Nat) : List Nat → Nat → Option Nat
  | [], s => some s
  | k :: ks, s => (mv H b s k).bind fun u => pth H b ks u
def mo (M : Nat) (ms : List Nat) : Prop := ∀ k ∈ ms, k < 9 ∧ M.testBit k = true
/-- what can be come to -/
def RH (H : HM) (b M now s : Nat) : Prop := ∃ ms, mo M ms ∧ rpt H b ms now = some s
theorem RH.rf (H : HM) (b M now : Nat) : RH H b M now now := ⟨[], fun _ h => absurd h (by simp), rfl⟩
theorem RH.step {H : HM} {b M now s u k : Nat} (h : RH H b M now s) (hk : k < 9) (hm : M.testBit k = true) (hv : mv H b s k = some u) : RH H b M now u := by
  obtain ⟨ms, h1, h2⟩ := h
  refine ⟨k :: ms, fun j hj => ?_, ?_⟩
  · rcases List.mem_cons.mp hj with rfl | q
    · exact ⟨hk, hm⟩
    · exact h1 j q
  · show (rpt H b ms now).bind _ = _
    rw [h2]; exact hv
theorem RH.inv {H : HM} {b M now u : Nat} (h : RH H b M now u) : u = now ∨ ∃ v k, RH H b M now v ∧ k < 9 ∧ M.testBit k = true ∧ mv H b v k = some u ∧ v ≠ u := by
  obtain ⟨ms, h1, h2⟩ := h
  induction ms with
  | nil => left; exact (Option.some.inj h2).symm
  | cons k ks ih =>
    have hk := h1 k (List.mem_cons_self ..)
    have h1' : mo M ks := fun j hj => h1 j (List.mem_cons_of_mem _ hj)
    have h3 : (rpt H b ks now).bind (fun u => mv H b u k) = some u := h2
    cases hv : rpt H b ks now with
    | none => rw [hv] at h3; cases h3
    | some v =>
      rw [hv] at h3
      have h3 : mv H b v k = some u := h3
      by_cases q : v = u
      · subst q; exact ih h1' hv
      · right; exact ⟨v, k, ⟨ks, h1', hv⟩, hk.1, hk.2, h3, q⟩
theorem RH.ok {H : HM} (hH : HMok H) {b M now u : Nat} (hn : STok H now) (h : RH H b M now u) : STok H u ∧ now ≤ u := by
  obtain ⟨ms, h1, h2⟩ := h
  induction ms generalizing u with
  | nil =>
    have : now = u := Option.some.inj h2
    subst this
    exact ⟨hn, Nat.le_refl _⟩
  | cons k ks ih =>
    have hk := h1 k (List.mem_cons_self ..)
    have h1' : mo M ks := fun j hj => h1 j (List.mem_cons_of_mem _ hj)
    have h3 : (rpt H b ks now).bind (fun u => mv H b u k) = some u := h2
    cases hv : rpt H b ks now with
    | none => rw [hv] at h3; cases h3
    | some v =>
      rw [hv] at h3
      have h3 : mv H b v k = some u := h3
      have i := ih h1' hv
      have o := mv_ok hH i.1 hk.1 h3
      exact ⟨o.1, Nat.le_trans i.2 o.2.1⟩
theorem RH.mono {H : HM} {b M M' now u : Nat} (h : RH H b M now u) (hm : ∀ k, k < 9 → M.testBit k = true → M'.testBit k = true) : RH H b M' now u := by
  obtain ⟨ms, h1, h2⟩ := h
  exact ⟨ms, fun k hk => ⟨(h1 k hk).1, hm k (h1 k hk).1 (h1 k hk).2⟩, h2⟩
