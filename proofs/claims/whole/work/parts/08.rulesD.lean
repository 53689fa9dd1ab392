/-! L1: calls, String constants, arraycopy -/
/-- a method of ours that a call may reach: its words; n: its parameters -/
def MJ (J : MI) (n : Nat) : Prop := Cond.initialized (mi_y J).cls ∈ TS ∧ Cond.code (mi_y J) (mi_c J) (mi_n J) (mi_r J) ∈ TS ∧ ((mi_y J).cls ≠ "java/lang/invoke/MethodHandle" ∧ (mi_y J).cls ≠ "java/lang/invoke/VarHandle" ∧ (parseMethodDescriptor (mi_y J).desc).map (fun d => d.parameters.length) = some n) ∧ mi_n J ≤ 41
def MJv (J : MI) (n : Nat) : Prop := MJ J n ∧ Cond.instanceMethod (mi_y J) ∈ TS ∧ Cond.selects (mi_y J).cls (mi_y J) (mi_y J) ∈ TS
def MJs (J : MI) (n : Nat) : Prop := MJ J n ∧ Cond.static (mi_y J) ∈ TS
def MJi (J : MI) (n : Nat) : Prop := MJ J n ∧ Cond.instanceMethod (mi_y J) ∈ TS ∧ (mi_y J).name = "<init>"
theorem gi_w {J : MI} (h : Cond.code (mi_y J) (mi_c J) (mi_n J) (mi_r J) ∈ TS) : GoodIn TS (mi_w J) := fun w hw => (List.mem_cons.mp hw).elim (fun e => by rw [e]; exact ts_good _ h) (fun e => ts_good _ e)
theorem gi_V {J : MI} {n i : Nat} {own : String} (h : MJv J n) (hl : Cond.methodLink own i (mi_y J) ∈ TS) : GoodIn TS (wsV own i (mi_y J).cls (mi_y J) (mi_w J)) := by
  intro w hw
  unfold wsV at hw
  rcases List.mem_append.mp hw with q | q
  · simp only [List.mem_cons, List.not_mem_nil, or_false] at q
    rcases q with e | e | e | e <;> rw [e]
    · exact ts_good _ hl
    · exact ts_good _ h.2.1
    · exact ts_good _ h.2.2
    · exact ts_good _ h.1.1
  · exact gi_w h.1.2.1 w q
theorem gi_S {J : MI} {n i : Nat} {own : String} (h : MJs J n) (hl : Cond.methodLink own i (mi_y J) ∈ TS) : GoodIn TS (va_wsS own i (mi_y J) (mi_w J)) := by
  intro w hw
  unfold va_wsS at hw
  rcases List.mem_append.mp hw with q | q
  · simp only [List.mem_cons, List.not_mem_nil, or_false] at q
    rcases q with e | e | e <;> rw [e]
    · exact ts_good _ hl
    · exact ts_good _ h.2
    · exact ts_good _ h.1.1
  · exact gi_w h.1.2.1 w q
def PcOf (g : Gl) (as : List Value) (h : Hp) : Array Value → State → Prop := va_Pc as (fun U => HR g h U.heap ∧ KK g U ∧ gB g ≤ U.heap.size)
theorem PcOf.blind {g : Gl} {as : List Value} {h : Hp} : FrameBlind (PcOf g as h) := by
  intro a U f mk q
  obtain ⟨q0, q1, q2, q3⟩ := q
  exact ⟨q0, q1, q2.same (U := U.calling f mk a) rfl rfl, q3⟩
section GRD
variable {ρ : Type} {rv : ρ → Option Value} {I : MI} {d pc pc' tgt : Nat} {lv lv' : List (Nat × Value)} {st st' : List Value} {h h' : Hp} {o o1 o2 : Option (ρ × Hp)}
set_option maxHeartbeats 1000000 in
theorem G_call {σ : Type} {rw' : σ → Option Value} {J : MI} {d' : Nat} {as rest : List Value} {q : Option (σ × Hp)} {K : σ → Hp → Option (ρ × Hp)} (hM : GM rw' J d' as h q)
    (run : ∀ (g : Gl) (p : Program) (l : Launch) (e : Env) (R : Room) (s : State) (m : MethodId) (args : Array Value) (below : List Frame) (meth : Method) (c : Code) (n w w0 : Nat) (H : Heap) (locs : List Loc) (ls : Array Slot) (cells slots mc ms : Nat) (v : Option Value) (h1 : Hp), Cx g I d p R s m args meth c n w w0 → HR g h H → va_S (gF g) s.heap H locs → lv_has ls (mi_n I) lv →
      (FrameBlind (PcOf g as h) ∧ ∀ U : State, U.heap = H → s.WarmedH U.vm → PcOf g as h as.toArray U) →
      Met l (mi_y J) (mi_w J) (rmOf d' mc ms) (PcOf g as h) (Qx g v h1) mc ms (gF g) → cells + mc ≤ R.cells ∧ slots + ms ≤ R.slots → va_Run p l e R s m args below meth c H locs cells slots mc ms (F0 m pc ls st) rest (Qx g v h1 as.toArray) (gF g))
    (kk : ∀ v h1, G rv I d (pc + 3) lv ((rw' v).toList ++ rest) h1 (K v h1)) : G rv I d pc lv st h (bd q K) := by
  intro x hx
  cases q with
  | none => cases hx
  | some y =>
    obtain ⟨m1, hMet⟩ := hM y rfl
    obtain ⟨km, kw⟩ := kk y.1 y.2 x hx
    refine ⟨⟨Nat.le_trans m1.1 km.1, Nat.le_trans m1.2 km.2⟩, fun g p l e R s m args below meth c w0 C H locs ls hH hS hw hlv => ?_⟩
    have C' := C
    obtain ⟨c1, c2, c3, c4, c5, hts, c7, c8, hK, c10, c11⟩ := C
    have hz := hS.1
    have hsz := hH.1
    intro T hT X
    obtain ⟨v, st₀, t, T', L, g0, X', hL, e1, e2, ⟨hv, hHR, hz2, hk2⟩, hgo⟩ := run g p l e R s m args below meth c _ _ w0 H locs ls (hp_n h - s.heap.size) (hp_s h - w0) (hp_n y.2 - hp_n h) (hp_s y.2 - hp_s h) (rw' y.1) y.2 C' hH hS hlv
      ⟨PcOf.blind, fun U hU hW => ⟨rfl, by rw [hU]; exact hH, hK.move hW (fun a ha hn => by rw [hU]; exact hS.2.1 a ha hn), by rw [hU]; exact Nat.le_trans c10 hz⟩⟩ (hMet l g)
      ⟨Nat.le_trans (by omega) c11.2.2.1, Nat.le_trans (by omega) c11.2.2.2⟩ T hT X
    cases hv
    rw [g0] at hz2 hk2
    have w := kw g p l e R s m args below meth c w0 C' T'.heap (locs ++ L) ls (by rw [e1]; exact hHR)
      ⟨Nat.le_trans hz (by rw [e1]; exact hz2), fun a h1 h2 => by rw [e1, hk2 a (Nat.lt_of_lt_of_le h1 hz) h2]; exact hS.2.1 a h1 h2, fun a ha => by
        rcases List.mem_append.mp ha with q | q
        · exact hS.2.2 a q
        · exact hL a q⟩ (Nat.le_trans hw m1.2) hlv
    have w := W.cs (cells := hp_n h - s.heap.size + (hp_n y.2 - hp_n h)) (slots := hp_s h - w0 + (hp_s y.2 - hp_s h)) (by have := m1.1; omega) (by have := m1.2; omega) w
    obtain ⟨t2, a1, b1⟩ := w T' rfl X'
    exact ⟨t2, hgo t2 a1, b1⟩
def cV {ρ σ : Type} (t : Nat) (h : Hp) (b : Nat) (q : Option (σ × Hp)) (K : σ → Hp → Option (ρ × Hp)) : Option (ρ × Hp) := gd (hp_t h b = t) (bd q K)
theorem cat_room {d d' nJ : Nat} (hd : d' + 1 ≤ d) (hn : nJ ≤ 41) : 8 + (nJ + 11) + 60 * d' ≤ 60 * d := by omega
theorem g_callV {σ : Type} {rw' : σ → Option Value} {J : MI} {d' i t b n : Nat} {As rest : List Value} {q : Option (σ × Hp)} {K : σ → Hp → Option (ρ × Hp)} (hJ : MJv J n) (hl : Cond.methodLink (mi_y I).cls i (mi_y J) ∈ TS) (ht : kc_N t = (mi_y J).cls ∧ 0 < t ∧ t < 14) (hd : d' + 1 ≤ d) (hn : As.length = n) (hst : st = As.reverse ++ .ref b :: rest) (hc : (rest.map fun v => v.category).sum ≤ 8) (dd : decode (mi_c I) pc = .ok (.invokevirtual i, 3)) (hM : GM rw' J d' (.ref b :: As) h q)
    (kk : ∀ v h1, G rv I d (pc + 3) lv ((rw' v).toList ++ rest) h1 (K v h1)) : G rv I d pc lv st h (cV t h b q K) :=
  G_gd fun hb => G_call hM (fun g p l e R s m args below meth c n' w w0 H locs ls cells slots mc ms v h1 C hH hS hlv hp hMet hf => by
    obtain ⟨c1, c2, c3, c4, c5, hts, c7, c8, hK, c10, c11⟩ := C
    obtain ⟨-, cell, q1, q2, q3, q4⟩ := hH.cell hb ht.2.1 ht.2.2
    have hcl := (hK.1 t ht.2.1 ht.2.2).2.1
    rw [ht.1] at hcl
    exact va_runV (Ts := TS) ⟨c1, c2, c3, c5, hts⟩ hMet (cwV n hts (gi_V hJ hl) rfl rfl rfl ⟨rfl, hJ.1.2.2.1⟩ ⟨Nat.le_trans hd c11.1, Nat.le_trans (cat_room hd hJ.1.2.2.2) c11.2.1⟩) ⟨hp.1, ⟨cell, q1, by rw [q3]; rfl, by rw [q2]; exact hcl⟩, hp.2⟩ rfl hn hlv.1 hst (lv_room hc) dd hf) kk
theorem g_callVS {σ : Type} {rw' : σ → Option Value} {J : MI} {d' i b n : Nat} {As rest : List Value} {q : Option (σ × Hp)} {K : σ → Hp → Option (ρ × Hp)} (hJ : MJv J n) (hl : Cond.methodLink (mi_y I).cls i (mi_y J) ∈ TS) (ht : (mi_y J).cls = "java/lang/String") (hd : d' + 1 ≤ d) (hn : As.length = n) (hst : st = As.reverse ++ .ref b :: rest) (hc : (rest.map fun v => v.category).sum ≤ 8) (dd : decode (mi_c I) pc = .ok (.invokevirtual i, 3)) (hM : GM rw' J d' (.ref b :: As) h q)
    (kk : ∀ v h1, G rv I d (pc + 3) lv ((rw' v).toList ++ rest) h1 (K v h1)) : G rv I d pc lv st h (cV 14 h b q K) :=
  G_gd fun hb => G_call hM (fun g p l e R s m args below meth c n' w w0 H locs ls cells slots mc ms v h1 C hH hS hlv hp hMet hf => by
    obtain ⟨c1, c2, c3, c4, c5, hts, c7, c8, hK, c10, c11⟩ := C
    obtain ⟨j, hj, e1, -⟩ := hH.2.2.2.1 b hb
    have hr := vk_recv hK.2.2.2.2.2.1 hj hS
    rw [← e1, ← ht] at hr
    exact va_runV (Ts := TS) ⟨c1, c2, c3, c5, hts⟩ hMet (cwV n hts (gi_V hJ hl) rfl rfl rfl ⟨rfl, hJ.1.2.2.1⟩ ⟨Nat.le_trans hd c11.1, Nat.le_trans (cat_room hd hJ.1.2.2.2) c11.2.1⟩) ⟨hp.1, hr, hp.2⟩ rfl hn hlv.1 hst (lv_room hc) dd hf) kk
theorem g_callS {σ : Type} {rw' : σ → Option Value} {J : MI} {d' i n : Nat} {As rest : List Value} {q : Option (σ × Hp)} {K : σ → Hp → Option (ρ × Hp)} (hJ : MJs J n) (hl : Cond.methodLink (mi_y I).cls i (mi_y J) ∈ TS) (hd : d' + 1 ≤ d) (hn : As.length = n) (hst : st = As.reverse ++ rest) (hc : (rest.map fun v => v.category).sum ≤ 8) (dd : decode (mi_c I) pc = .ok (.invokestatic i, 3)) (hM : GM rw' J d' As h q)
    (kk : ∀ v h1, G rv I d (pc + 3) lv ((rw' v).toList ++ rest) h1 (K v h1)) : G rv I d pc lv st h (bd q K) :=
  G_call hM (fun g p l e R s m args below meth c n' w w0 H locs ls cells slots mc ms v h1 C hH hS hlv hp hMet hf => by
    obtain ⟨c1, c2, c3, c4, c5, hts, c7, c8, hK, c10, c11⟩ := C
    exact va_runS (Ts := TS) ⟨c1, c2, c3, c5, hts⟩ hMet (va_cwS n hts (gi_S hJ hl) rfl rfl rfl hJ.1.2.2.1 ⟨Nat.le_trans hd c11.1, Nat.le_trans (cat_room hd hJ.1.2.2.2) c11.2.1⟩) hp rfl hn hlv.1 hst (lv_room hc) dd hf) kk
theorem g_callI {J : MI} {d' i b n : Nat} {As rest : List Value} {q : Option (Unit × Hp)} {K : Unit → Hp → Option (ρ × Hp)} (hJ : MJi J n) (hr : mi_r J = none) (hl : Cond.methodLink (mi_y I).cls i (mi_y J) ∈ TS) (hd : d' + 1 ≤ d) (hn : As.length = n) (hst : st = As.reverse ++ .ref b :: rest) (hc : (rest.map fun v => v.category).sum ≤ 8) (dd : decode (mi_c I) pc = .ok (.invokespecial i, 3)) (hM : GM rvV J d' (.ref b :: As) h q)
    (kk : ∀ h1, G rv I d (pc + 3) lv rest h1 (K () h1)) : G rv I d pc lv st h (bd q K) :=
  G_call hM (fun g p l e R s m args below meth c n' w w0 H locs ls cells slots mc ms v h1 C hH hS hlv hp hMet hf => by
    obtain ⟨c1, c2, c3, c4, c5, hts, c7, c8, hK, c10, c11⟩ := C
    exact va_runI (bytes := mi_c J) (maxL := mi_n J) (Ts := TS) ⟨c1, c2, c3, c5, hts⟩ hMet (cwI n hts (gi_w hJ.1.2.1) (by rw [← hr]; rfl) rfl rfl (hts _ hJ.1.1) (hts _ hl) (hts _ hJ.2.1) hJ.2.2 hJ.1.2.2.1 ⟨Nat.le_trans hd c11.1, Nat.le_trans (cat_room hd hJ.1.2.2.2) c11.2.1⟩) hp rfl hn hlv.1 hst (lv_room hc) dd hf) (fun _ h1 => kk h1)
theorem g_callIN {J : MI} {d' i b n : Nat} {As rest : List Value} {q : Option (Unit × Hp)} {K : Unit → Hp → Option (ρ × Hp)} (hJ : MJi J n) (hr : mi_r J = none) (hl : ((mi_y I).cls, i, mi_y J, RX11) ∈ kn_w) (hd : d' + 1 ≤ d) (hn : As.length = n) (hst : st = As.reverse ++ .ref b :: rest) (hc : (rest.map fun v => v.category).sum ≤ 8) (dd : decode (mi_c I) pc = .ok (.invokespecial i, 3)) (hM : GM rvV J d' (.ref b :: As) h q)
    (kk : ∀ h1, G rv I d (pc + 3) lv rest h1 (K () h1)) : G rv I d pc lv st h (bd q K) :=
  G_call hM (fun g p l e R s m args below meth c n' w w0 H locs ls cells slots mc ms v h1 C hH hS hlv hp hMet hf => by
    obtain ⟨c1, c2, c3, c4, c5, hts, c7, c8, hK, c10, c11⟩ := C
    exact va_runIN (bytes := mi_c J) (maxL := mi_n J) (host := RX11) (Ts := TS) ⟨c1, c2, c3, c5, hts⟩ hMet ⟨va_cnB n hts (gi_w hJ.1.2.1) (by rw [← hr]; rfl) rfl rfl (hK.2.2.1 _ hl) (hts _ hJ.1.1) hJ.1.2.2.1 ⟨Nat.le_trans hd c11.1, Nat.le_trans (cat_room hd hJ.1.2.2.2) c11.2.1⟩, hJ.2.2, hts _ hJ.2.1⟩ hp rfl hn hlv.1 hst (lv_room hc) dd hf) (fun _ h1 => kk h1)
theorem g_objInit {i a : Nat} (hl : Cond.methodLink (mi_y I).cls i objectInit ∈ TS ∧ Cond.instanceMethod objectInit ∈ TS ∧ Cond.code objectInit ⟨#[0xb1]⟩ 1 none ∈ TS) (hd : 1 ≤ d) (hc : (st.map fun v => v.category).sum ≤ 8) (dd : decode (mi_c I) pc = .ok (.invokespecial i, 3)) (k : G rv I d (pc + 3) lv st h o) : G rv I d pc lv (.ref a :: st) h o := by
  intro x hx
  refine ⟨(k x hx).1, fun g p l e R s m args below meth c w0 C H locs ls hH hS h0 hlv => ?_⟩
  have w := (k x hx).2 g p l e R s m args below meth c w0 C H locs ls hH hS h0 hlv
  obtain ⟨c1, c2, c3, c4, c5, hts, c7, c8, hK, c10, c11⟩ := C
  refine W.objInit c1 c2 c5 (hts _ hl.1) (hts _ hl.2.1) (hts _ hl.2.2) rfl (by rw [c3]; exact hlv.1) rfl dd (Nat.le_trans hd c11.1) ?_ w
  have h8 := lv_room (m := m) (pc := pc) (ls := ls) (rest := .ref a :: st) hc
  have := c11.2.1
  omega
-- String constants
theorem g_ldcS (i : Nat) (hi : i < 4) (ho : (mi_y I).cls = ks_o i) (dd : decode (mi_c I) pc = .ok (.ldc (ks_x i), 2)) (k : G rv I d (pc + 2) lv (.ref (hp_k h (ks_s i)) :: st) h o) : G rv I d pc lv st h o := by
  intro x hx
  refine ⟨(k x hx).1, fun g p l e R s m args below meth c w0 C H locs ls hH hS h0 hlv => ?_⟩
  have w := (k x hx).2 g p l e R s m args below meth c w0 C H locs ls hH hS h0 hlv
  obtain ⟨c1, c2, c3, c4, c5, hts, c7, c8, hK, c10, c11⟩ := C
  have hs : ks_s i < 3 := by rcases (show i = 0 ∨ i = 1 ∨ i = 2 ∨ i = 3 by omega) with rfl | rfl | rfl | rfl <;> decide
  rw [hH.2.1 (ks_s i) hs] at w
  exact va_ldcS c1 c2 (by rw [← ho]; exact c5) (hK.2.2.2.2.1 i hi) dd w
def sV {α : Type} (h : Hp) (a : Nat) (K : Nat → Option α) : Option α := gd (hp_t h a = 14) ((hp_R h a 0).bind K)
def sC {α : Type} (h : Hp) (a : Nat) (K : Int32 → Option α) : Option α := gd (hp_t h a = 14) (K (hp_I h a 1))
theorem g_getSV {i a : Nat} {K : Nat → Option (ρ × Hp)} (hl : Cond.fieldLink (mi_y I).cls i "java/lang/String" "value" "[B" ∈ TS) (dd : decode (mi_c I) pc = .ok (.getfield i, 3)) (kk : ∀ v, G rv I d (pc + 3) lv (.ref v :: st) h (K v)) : G rv I d pc lv (.ref a :: st) h (sV h a K) :=
  G_gd fun ht => G_rb fun b hb => by
    intro x hx
    refine ⟨(kk b x hx).1, fun g p l e R s m args below meth c w0 C H locs ls hH hS h0 hlv => ?_⟩
    have w := (kk b x hx).2 g p l e R s m args below meth c w0 C H locs ls hH hS h0 hlv
    obtain ⟨c1, c2, c3, c4, c5, hts, c7, c8, hK, c10, c11⟩ := C
    obtain ⟨j, hj, e1, e2, -⟩ := hH.2.2.2.1 a ht
    have eb : b = gV g j := Option.some.inj (hb.symm.trans e2)
    have hE := (hK.2.2.2.2.2.1.1 j hj).2.2.1
    rw [← e1, ← eb] at hE
    exact vk_getf c1 c2 hE hS c5 (hts _ hl) (fun _ z => z) dd w
theorem g_getSC {i a : Nat} {K : Int32 → Option (ρ × Hp)} (hl : Cond.fieldLink (mi_y I).cls i "java/lang/String" "coder" "B" ∈ TS) (dd : decode (mi_c I) pc = .ok (.getfield i, 3)) (kk : ∀ v, G rv I d (pc + 3) lv (.int v :: st) h (K v)) : G rv I d pc lv (.ref a :: st) h (sC h a K) :=
  G_gd fun ht => by
    intro x hx
    refine ⟨(kk _ x hx).1, fun g p l e R s m args below meth c w0 C H locs ls hH hS h0 hlv => ?_⟩
    have w := (kk _ x hx).2 g p l e R s m args below meth c w0 C H locs ls hH hS h0 hlv
    obtain ⟨c1, c2, c3, c4, c5, hts, c7, c8, hK, c10, c11⟩ := C
    obtain ⟨j, hj, e1, -, e3⟩ := hH.2.2.2.1 a ht
    have hE := (hK.2.2.2.2.2.1.1 j hj).2.1
    rw [← e1, ← e3] at hE
    exact vk_getf c1 c2 hE hS c5 (hts _ hl) (fun _ z => z) dd w
theorem g_gets {i : Nat} (hl : Cond.fieldLink (mi_y I).cls i "java/lang/String" "COMPACT_STRINGS" "Z" ∈ TS) (dd : decode (mi_c I) pc = .ok (.getstatic i, 3)) (k : G rv I d (pc + 3) lv (.int 1 :: st) h o) : G rv I d pc lv st h o := by
  intro x hx
  refine ⟨(k x hx).1, fun g p l e R s m args below meth c w0 C H locs ls hH hS h0 hlv => ?_⟩
  have w := (k x hx).2 g p l e R s m args below meth c w0 C H locs ls hH hS h0 hlv
  obtain ⟨c1, c2, c3, c4, c5, hts, c7, c8, hK, c10, c11⟩ := C
  exact va_gets c1 c2 hK.2.2.2.2.2.2.1.1 hS c5 (hts _ hl) (fun _ z => z) dd w
/-- a static that holds a reference or null, nobody asks which -/
theorem g_getsq {i : Nat} (hl : Cond.fieldLink (mi_y I).cls i "jdk/internal/util/Preconditions" "SIOOBE_FORMATTER" "Ljava/util/function/BiFunction;" ∈ TS) (dd : decode (mi_c I) pc = .ok (.getstatic i, 3)) (k : ∀ v : Value, (v = .null ∨ ∃ t, v = .ref t) → G rv I d (pc + 3) lv (v :: st) h o) : G rv I d pc lv st h o := by
  intro x hx
  refine ⟨(k .null (Or.inl rfl) x hx).1, fun g p l e R s m args below meth c w0 C H locs ls hH hS h0 hlv => ?_⟩
  have w := fun v hv => (k v hv x hx).2 g p l e R s m args below meth c w0 C H locs ls hH hS h0 hlv
  obtain ⟨c1, c2, c3, c4, c5, hts, c7, c8, hK, c10, c11⟩ := C
  rcases hK.2.2.2.2.2.2.1.2 with z | ⟨t, z⟩
  · exact va_gets c1 c2 z hS c5 (hts _ hl) (fun _ z => z) dd (w _ (Or.inl rfl))
  · exact va_gets c1 c2 z hS c5 (hts _ hl) (fun _ z => z) dd (w _ (Or.inr ⟨t, rfl⟩))
def aS {α : Type} (h : Hp) (a : Nat) (i : Int32) (K : Int32 → Option α) : Option α := gd (hp_t h a = 27 ∧ inb i (hp_l h a)) (K (hp_I h a (ix i)))
def alS {α : Type} (h : Hp) (a : Nat) (K : Int32 → Option α) : Option α := gd (hp_t h a = 27) (K (nI (hp_l h a)))
theorem g_baldS {a : Nat} {i : Int32} {K : Int32 → Option (ρ × Hp)} (dd : decode (mi_c I) pc = .ok (.baload, 1)) (kk : ∀ v, G rv I d (pc + 1) lv (.int v :: st) h (K v)) : G rv I d pc lv (.int i :: .ref a :: st) h (aS h a i K) :=
  G_gd fun ht => by
    intro x hx
    refine ⟨(kk _ x hx).1, fun g p l e R s m args below meth c w0 C H locs ls hH hS h0 hlv => ?_⟩
    have w := (kk _ x hx).2 g p l e R s m args below meth c w0 C H locs ls hH hS h0 hlv
    obtain ⟨c1, c2, c3, c4, c5, hts, c7, c8, hK, c10, c11⟩ := C
    obtain ⟨j, hj, e1, e2, e3⟩ := hH.2.2.2.2.1 a ht.1
    have hE := (hK.2.2.2.2.2.1.1 j hj).2.2.2
    rw [← e1, ← e2] at hE
    obtain ⟨cell, k1, k2, k3, k4, k5, k6, -⟩ := hE.kept hS.2.1
    have hlt : ix i < hp_l h a := Nat.not_le.mp fun q => ht.2 (Or.inr q)
    exact W.bald c1 c2 k1 k2 k3 (fun q => ht.2 (q.imp id (fun z => Nat.le_trans k4 z))) (v := .int (hp_I h a (ix i))) (by rw [k6 _ hlt, e3 _ hlt]) rfl rfl dd w
theorem g_alenS {a : Nat} {K : Int32 → Option (ρ × Hp)} (dd : decode (mi_c I) pc = .ok (.arraylength, 1)) (kk : ∀ v, G rv I d (pc + 1) lv (.int v :: st) h (K v)) : G rv I d pc lv (.ref a :: st) h (alS h a K) :=
  G_gd fun ht => by
    intro x hx
    refine ⟨(kk _ x hx).1, fun g p l e R s m args below meth c w0 C H locs ls hH hS h0 hlv => ?_⟩
    have w := (kk _ x hx).2 g p l e R s m args below meth c w0 C H locs ls hH hS h0 hlv
    obtain ⟨c1, c2, c3, c4, c5, hts, c7, c8, hK, c10, c11⟩ := C
    obtain ⟨j, hj, e1, e2, e3⟩ := hH.2.2.2.2.1 a ht
    have hE := (hK.2.2.2.2.2.1.1 j hj).2.2.2
    rw [← e1, ← e2] at hE
    obtain ⟨cell, k1, k2, k3, k4, k5, k6, -⟩ := hE.kept hS.2.1
    exact W.alen c1 c2 k1 k2 k5 rfl rfl dd w
-- the script
def aX {α : Type} (h : Hp) (a : Nat) (i : Int32) (K : Int32 → Option α) : Option α := gd (hp_t h a = 28 ∧ inb i (hp_l h a)) (K (hp_I h a (ix i)))
def alX {α : Type} (h : Hp) (a : Nat) (K : Int32 → Option α) : Option α := gd (hp_t h a = 28) (K (nI (hp_l h a)))
theorem g_ialdX {a : Nat} {i : Int32} {K : Int32 → Option (ρ × Hp)} (dd : decode (mi_c I) pc = .ok (.iaload, 1)) (kk : ∀ v, G rv I d (pc + 1) lv (.int v :: st) h (K v)) : G rv I d pc lv (.int i :: .ref a :: st) h (aX h a i K) :=
  G_gd fun ht => by
    intro x hx
    refine ⟨(kk _ x hx).1, fun g p l e R s m args below meth c w0 C H locs ls hH hS h0 hlv => ?_⟩
    have w := (kk _ x hx).2 g p l e R s m args below meth c w0 C H locs ls hH hS h0 hlv
    obtain ⟨c1, c2, c3, c4, c5, hts, c7, c8, hK, c10, c11⟩ := C
    obtain ⟨e1, e2, e3⟩ := hH.2.2.2.2.2 a ht.1
    have hE := hK.2.2.2.2.2.2.2
    rw [← e1, ← e2] at hE
    obtain ⟨cell, k1, k2, k3, k4, k5, k6, -⟩ := hE.kept hS.2.1
    have hlt : ix i < hp_l h a := Nat.not_le.mp fun q => ht.2 (Or.inr q)
    exact W.iald c1 c2 k1 k2 k3 (fun q => ht.2 (q.imp id (fun z => Nat.le_trans k4 z))) (v := .int (hp_I h a (ix i))) (by rw [k6 _ hlt, e3 _ hlt]) rfl rfl dd w
theorem g_alenX {a : Nat} {K : Int32 → Option (ρ × Hp)} (dd : decode (mi_c I) pc = .ok (.arraylength, 1)) (kk : ∀ v, G rv I d (pc + 1) lv (.int v :: st) h (K v)) : G rv I d pc lv (.ref a :: st) h (alX h a K) :=
  G_gd fun ht => by
    intro x hx
    refine ⟨(kk _ x hx).1, fun g p l e R s m args below meth c w0 C H locs ls hH hS h0 hlv => ?_⟩
    have w := (kk _ x hx).2 g p l e R s m args below meth c w0 C H locs ls hH hS h0 hlv
    obtain ⟨c1, c2, c3, c4, c5, hts, c7, c8, hK, c10, c11⟩ := C
    obtain ⟨e1, e2, e3⟩ := hH.2.2.2.2.2 a ht
    have hE := hK.2.2.2.2.2.2.2
    rw [← e1, ← e2] at hE
    obtain ⟨cell, k1, k2, k3, k4, k5, k6, -⟩ := hE.kept hS.2.1
    exact W.alen c1 c2 k1 k2 k5 rfl rfl dd w
-- arraycopy of ints
def hp_cp (h : Hp) (a0 sp a dp n : Nat) : Hp := (hp_t h, hp_l h, fun b j => if b = a then va_cpy (hp_I h a0) (hp_I h a) sp dp n j else hp_I h b j, hp_L h, hp_R h, hp_n h, hp_s h, hp_k h)
def cp {α : Type} (h : Hp) (a0 : Nat) (sp : Int32) (a : Nat) (dp n : Int32) (K : Hp → Option α) : Option α := gd (hp_t h a0 = 20 ∧ hp_t h a = 20 ∧ ¬ sp < 0 ∧ ¬ dp < 0 ∧ ¬ n < 0 ∧ ix sp + ix n ≤ hp_l h a0 ∧ ix dp + ix n ≤ hp_l h a) (K (hp_cp h a0 (ix sp) a (ix dp) (ix n)))
set_option maxHeartbeats 1000000 in
theorem g_acopy {i a0 a : Nat} {sp dp n : Int32} {K : Hp → Option (ρ × Hp)} (hl : Cond.methodLink (mi_y I).cls i arraycopyName ∈ TS ∧ Cond.native arraycopyName ∈ TS ∧ Cond.static arraycopyName ∈ TS ∧ Cond.initialized "java/lang/System" ∈ TS) (hd : 1 ≤ d) (hc : (st.map fun v => v.category).sum ≤ 8) (dd : decode (mi_c I) pc = .ok (.invokestatic i, 3)) (kk : ∀ h1, G rv I d (pc + 3) lv st h1 (K h1)) : G rv I d pc lv (.int n :: .int dp :: .ref a :: .int sp :: .ref a0 :: st) h (cp h a0 sp a dp n K) := by
  refine G_gd fun hq => ?_
  obtain ⟨ht0, ht1, h1, h2, h3, h4, h5⟩ := hq
  dsimp only [ix] at h4 h5
  have hnf : nativeFrameWords "java/lang/System" "arraycopy" 5 ≤ 40 := by decide +kernel
  intro x hx
  obtain ⟨km, kw⟩ := kk (hp_cp h a0 (ix sp) a (ix dp) (ix n)) x hx
  refine ⟨km, fun g p l e R s m args below meth c w0 C H locs ls hH hS h0 hlv => ?_⟩
  have C' := C
  obtain ⟨c1, c2, c3, c4, c5, hts, c7, c8, hK, c10, c11⟩ := C
  have nn : ∀ z : Int32, ¬ z < 0 → z.toInt = (z.toNatClampNeg : Int) := by
    intro z hz
    have hz0 : (0 : Int) ≤ z.toInt := by
      have := Int32.not_lt.mp hz
      simpa using Int32.le_iff_toInt_le.mp this
    show z.toInt = ((z.toInt.toNat : Nat) : Int)
    omega
  have hc0 : H[a0]? = some (vp_cell (gA g 20) (hp_l h a0, .inl (hp_I h a0))) := by
    rw [(hH.arr ht0 (by decide) (by decide)).2, av_int ht0 (by decide)]; rfl
  obtain ⟨hba, hc1⟩ := hH.arr ht1 (by decide) (by decide)
  have hc1 : H[a]? = some (vp_cell (gA g 20) (hp_l h a, .inl (hp_I h a))) := by
    rw [hc1, av_int ht1 (by decide)]; rfl
  intro T hT X
  obtain ⟨-, k0, hk0, cm0, hkk0⟩ := (hK.2.1 20 (by decide) (by decide)).1 (hp_l h a0) (fun j => .int (hp_I h a0 j))
  obtain ⟨-, k1, hk1, cm1, hkk1⟩ := (hK.2.1 20 (by decide) (by decide)).1 (hp_l h a) (fun j => .int (hp_I h a j))
  obtain ⟨vm', X', step⟩ := X.arraycopy c1 c5 (hts _ hl.1) (hts _ hl.2.1) (hts _ hl.2.2.1) (hts _ hl.2.2.2) (src := a0) (dst := a) (cs := vp_cell (gA g 20) (hp_l h a0, .inl (hp_I h a0))) (cd := vp_cell (gA g 20) (hp_l h a, .inl (hp_I h a))) (srcPos := sp) (destPos := dp) (n := n) (by rw [hT]; exact hc0) (by rw [hT]; exact hc1)
    (fun _ h => by cases h) (fun _ h => by cases h) (fun h => by cases h) (fun h => by cases h) hk0 hk1 hkk0 hkk1 (by simp [ka_y, refKind]) h1 h2 h3
    (by rw [nn sp h1, nn n h3]; show ¬ _ > ((arrV (gA g 20) (hp_l h a0) (fun j => .int (hp_I h a0 j))).slots.size : Int); rw [arrV_size]; omega)
    (by rw [nn dp h2, nn n h3]; show ¬ _ > ((arrV (gA g 20) (hp_l h a) (fun j => .int (hp_I h a j))).slots.size : Int); rw [arrV_size]; omega)
    (fun vm₁ _ i hi => by
      have e : (vp_cell (gA g 20) (hp_l h a0, .inl (hp_I h a0))).slots.getD (sp.toNatClampNeg + i) .null = .int (hp_I h a0 (sp.toNatClampNeg + i)) := by
        show (arrV (gA g 20) (hp_l h a0) (fun j => .int (hp_I h a0 j))).slots.getD _ _ = _
        rw [Array.getD_eq_getD_getElem?, arrV_read _ _ (by omega)]
        rfl
      refine ⟨?_, ?_⟩
      · rw [e]; rfl
      · rw [e]; exact trivial)
    (g := F0 m pc ls (.int n :: .int dp :: .ref a :: .int sp :: .ref a0 :: st)) rfl (by rw [c3]; exact hlv.1) (rest := st) rfl (by rw [c2]; exact dd) (Nat.le_trans hd c11.1) (by have := c11.2.1; show 2 * 0 + _ + _ ≤ _; omega)
  have e1 : copied (vp_cell (gA g 20) (hp_l h a0, .inl (hp_I h a0))) (vp_cell (gA g 20) (hp_l h a, .inl (hp_I h a))) sp dp n = vp_cell (gA g 20) (hp_l h a, .inl (va_cpy (hp_I h a0) (hp_I h a) sp.toNatClampNeg dp.toNatClampNeg n.toNatClampNeg)) := va_copied (fun z => .int z) _ _ _ _ h4
  rw [e1] at X' step
  have hl' : a < H.size := (Array.getElem?_eq_some_iff.mp hc1).1
  generalize hcell : vp_cell (gA g 20) (hp_l h a, .inl (va_cpy (hp_I h a0) (hp_I h a) sp.toNatClampNeg dp.toNatClampNeg n.toNatClampNeg)) = cl at X' step
  have hheap : ((T.setVm vm').setCell a cl).heap = H.setIfInBounds a cl := by rw [← hT]; rfl
  have oq : ∀ q : Nat, q ≠ a → (H.setIfInBounds a cl)[q]? = H[q]? := fun q hq => by simp [Array.getElem?_setIfInBounds, Ne.symm hq]
  have hself : (H.setIfInBounds a cl)[a]? = some cl := by simp [Array.getElem?_setIfInBounds, hl']
  have eI : hp_I (hp_cp h a0 (ix sp) a (ix dp) (ix n)) a = va_cpy (hp_I h a0) (hp_I h a) (ix sp) (ix dp) (ix n) := by
    funext j
    show (if a = a then _ else _) = _
    rw [if_pos rfl]
  have hcr : CR g (hp_cp h a0 (ix sp) a (ix dp) (ix n)) a (H.setIfInBounds a cl) := by
    unfold CR
    rw [show hp_t (hp_cp h a0 (ix sp) a (ix dp) (ix n)) a = 20 from ht1, if_neg (by decide), hself, ← hcell, av_int (h := hp_cp h a0 (ix sp) a (ix dp) (ix n)) (t := 20) ht1 (by decide), eI]
    rfl
  have hHR := hH.upd (h' := hp_cp h a0 (ix sp) a (ix dp) (ix n)) a (Or.inr (by rw [ht1]; decide)) (by simp) oq rfl rfl rfl rfl (fun b hb => by
    funext j
    show (if b = a then _ else _) = _
    rw [if_neg hb]) (fun _ _ => rfl) (fun _ _ => rfl) hcr
  obtain ⟨t, a1, b1⟩ := kw g p l e R s m args below meth c w0 C' (H.setIfInBounds a cl) _ ls hHR ⟨by simp; exact hS.1, fun q g1 g2 => by
      rw [oq q (fun e => g2 (by rw [e]; exact hba))]
      exact hS.2.1 q g1 g2, fun q hq => by
      rcases List.mem_append.mp hq with h | h
      · exact hS.2.2 q h
      · obtain ⟨z, -, hz⟩ := List.mem_map.mp h
        rw [← hz]
        exact hba⟩ h0 hlv _ hheap X'
  exact ⟨t, step t a1, b1⟩
-- calls by their answers
theorem g_callVi {J : MI} {d' i t b n : Nat} {As rest : List Value} {q : Option (Int32 × Hp)} {K : Int32 → Hp → Option (ρ × Hp)} (hJ : MJv J n) (hl : Cond.methodLink (mi_y I).cls i (mi_y J) ∈ TS) (ht : kc_N t = (mi_y J).cls ∧ 0 < t ∧ t < 14) (hd : d' + 1 ≤ d) (hn : As.length = n) (hst : st = As.reverse ++ .ref b :: rest) (hc : (rest.map fun v => v.category).sum ≤ 8) (dd : decode (mi_c I) pc = .ok (.invokevirtual i, 3)) (hM : GM rvI J d' (.ref b :: As) h q) (kk : ∀ v h1, G rv I d (pc + 3) lv (.int v :: rest) h1 (K v h1)) : G rv I d pc lv st h (cV t h b q K) := g_callV hJ hl ht hd hn hst hc dd hM kk
theorem g_callVl {J : MI} {d' i t b n : Nat} {As rest : List Value} {q : Option (Int64 × Hp)} {K : Int64 → Hp → Option (ρ × Hp)} (hJ : MJv J n) (hl : Cond.methodLink (mi_y I).cls i (mi_y J) ∈ TS) (ht : kc_N t = (mi_y J).cls ∧ 0 < t ∧ t < 14) (hd : d' + 1 ≤ d) (hn : As.length = n) (hst : st = As.reverse ++ .ref b :: rest) (hc : (rest.map fun v => v.category).sum ≤ 8) (dd : decode (mi_c I) pc = .ok (.invokevirtual i, 3)) (hM : GM rvL J d' (.ref b :: As) h q) (kk : ∀ v h1, G rv I d (pc + 3) lv (.long v :: rest) h1 (K v h1)) : G rv I d pc lv st h (cV t h b q K) := g_callV hJ hl ht hd hn hst hc dd hM kk
theorem g_callVv {J : MI} {d' i t b n : Nat} {As rest : List Value} {q : Option (Unit × Hp)} {K : Unit → Hp → Option (ρ × Hp)} (hJ : MJv J n) (hl : Cond.methodLink (mi_y I).cls i (mi_y J) ∈ TS) (ht : kc_N t = (mi_y J).cls ∧ 0 < t ∧ t < 14) (hd : d' + 1 ≤ d) (hn : As.length = n) (hst : st = As.reverse ++ .ref b :: rest) (hc : (rest.map fun v => v.category).sum ≤ 8) (dd : decode (mi_c I) pc = .ok (.invokevirtual i, 3)) (hM : GM rvV J d' (.ref b :: As) h q) (kk : ∀ v h1, G rv I d (pc + 3) lv rest h1 (K v h1)) : G rv I d pc lv st h (cV t h b q K) := g_callV hJ hl ht hd hn hst hc dd hM kk
theorem g_callVr {J : MI} {d' i t b n : Nat} {As rest : List Value} {q : Option (Nat × Hp)} {K : Nat → Hp → Option (ρ × Hp)} (hJ : MJv J n) (hl : Cond.methodLink (mi_y I).cls i (mi_y J) ∈ TS) (ht : kc_N t = (mi_y J).cls ∧ 0 < t ∧ t < 14) (hd : d' + 1 ≤ d) (hn : As.length = n) (hst : st = As.reverse ++ .ref b :: rest) (hc : (rest.map fun v => v.category).sum ≤ 8) (dd : decode (mi_c I) pc = .ok (.invokevirtual i, 3)) (hM : GM rvR J d' (.ref b :: As) h q) (kk : ∀ v h1, G rv I d (pc + 3) lv (.ref v :: rest) h1 (K v h1)) : G rv I d pc lv st h (cV t h b q K) := g_callV hJ hl ht hd hn hst hc dd hM kk
theorem g_callVSi {J : MI} {d' i b n : Nat} {As rest : List Value} {q : Option (Int32 × Hp)} {K : Int32 → Hp → Option (ρ × Hp)} (hJ : MJv J n) (hl : Cond.methodLink (mi_y I).cls i (mi_y J) ∈ TS) (ht : (mi_y J).cls = "java/lang/String") (hd : d' + 1 ≤ d) (hn : As.length = n) (hst : st = As.reverse ++ .ref b :: rest) (hc : (rest.map fun v => v.category).sum ≤ 8) (dd : decode (mi_c I) pc = .ok (.invokevirtual i, 3)) (hM : GM rvI J d' (.ref b :: As) h q) (kk : ∀ v h1, G rv I d (pc + 3) lv (.int v :: rest) h1 (K v h1)) : G rv I d pc lv st h (cV 14 h b q K) := g_callVS hJ hl ht hd hn hst hc dd hM kk
theorem g_callSi {J : MI} {d' i n : Nat} {As rest : List Value} {q : Option (Int32 × Hp)} {K : Int32 → Hp → Option (ρ × Hp)} (hJ : MJs J n) (hl : Cond.methodLink (mi_y I).cls i (mi_y J) ∈ TS) (hd : d' + 1 ≤ d) (hn : As.length = n) (hst : st = As.reverse ++ rest) (hc : (rest.map fun v => v.category).sum ≤ 8) (dd : decode (mi_c I) pc = .ok (.invokestatic i, 3)) (hM : GM rvI J d' As h q) (kk : ∀ v h1, G rv I d (pc + 3) lv (.int v :: rest) h1 (K v h1)) : G rv I d pc lv st h (bd q K) := g_callS hJ hl hd hn hst hc dd hM kk
theorem g_callSl {J : MI} {d' i n : Nat} {As rest : List Value} {q : Option (Int64 × Hp)} {K : Int64 → Hp → Option (ρ × Hp)} (hJ : MJs J n) (hl : Cond.methodLink (mi_y I).cls i (mi_y J) ∈ TS) (hd : d' + 1 ≤ d) (hn : As.length = n) (hst : st = As.reverse ++ rest) (hc : (rest.map fun v => v.category).sum ≤ 8) (dd : decode (mi_c I) pc = .ok (.invokestatic i, 3)) (hM : GM rvL J d' As h q) (kk : ∀ v h1, G rv I d (pc + 3) lv (.long v :: rest) h1 (K v h1)) : G rv I d pc lv st h (bd q K) := g_callS hJ hl hd hn hst hc dd hM kk
theorem g_callSv {J : MI} {d' i n : Nat} {As rest : List Value} {q : Option (Unit × Hp)} {K : Unit → Hp → Option (ρ × Hp)} (hJ : MJs J n) (hl : Cond.methodLink (mi_y I).cls i (mi_y J) ∈ TS) (hd : d' + 1 ≤ d) (hn : As.length = n) (hst : st = As.reverse ++ rest) (hc : (rest.map fun v => v.category).sum ≤ 8) (dd : decode (mi_c I) pc = .ok (.invokestatic i, 3)) (hM : GM rvV J d' As h q) (kk : ∀ v h1, G rv I d (pc + 3) lv rest h1 (K v h1)) : G rv I d pc lv st h (bd q K) := g_callS hJ hl hd hn hst hc dd hM kk
end GRD
