/-! L1: the abstract heap, the judgements G and GM -/
/-- tag of a cell; its length; its ints; its longs; its references; the heap's size; the slots made so far; where the String constants are -/
abbrev Hp : Type := (Nat → Nat) × (Nat → Nat) × (Nat → Nat → Int32) × (Nat → Nat → Int64) × (Nat → Nat → Option Nat) × Nat × Nat × (Nat → Nat)
def hp_t (h : Hp) : Nat → Nat := h.1
def hp_l (h : Hp) : Nat → Nat := h.2.1
def hp_I (h : Hp) : Nat → Nat → Int32 := h.2.2.1
def hp_L (h : Hp) : Nat → Nat → Int64 := h.2.2.2.1
def hp_R (h : Hp) : Nat → Nat → Option Nat := h.2.2.2.2.1
def hp_n (h : Hp) : Nat := h.2.2.2.2.2.1
def hp_s (h : Hp) : Nat := h.2.2.2.2.2.2.1
def hp_k (h : Hp) : Nat → Nat := h.2.2.2.2.2.2.2
def up2 {α : Type} (f : Nat → Nat → α) (a k : Nat) (v : α) : Nat → Nat → α := fun b j => if b = a ∧ j = k then v else f b j
def hp_sI (h : Hp) (a k : Nat) (v : Int32) : Hp := (hp_t h, hp_l h, up2 (hp_I h) a k v, hp_L h, hp_R h, hp_n h, hp_s h, hp_k h)
def hp_sL (h : Hp) (a k : Nat) (v : Int64) : Hp := (hp_t h, hp_l h, hp_I h, up2 (hp_L h) a k v, hp_R h, hp_n h, hp_s h, hp_k h)
def hp_sR (h : Hp) (a k : Nat) (v : Option Nat) : Hp := (hp_t h, hp_l h, hp_I h, hp_L h, up2 (hp_R h) a k v, hp_n h, hp_s h, hp_k h)
/-- a new cell of tag t, length n, w slots -/
def hp_nw (h : Hp) (t n w : Nat) : Hp := (fun b => if b = hp_n h then t else hp_t h b, fun b => if b = hp_n h then n else hp_l h b, fun b j => if b = hp_n h then 0 else hp_I h b j, fun b j => if b = hp_n h then 0 else hp_L h b j, fun b j => if b = hp_n h then none else hp_R h b j, hp_n h + 1, hp_s h + w, hp_k h)
/-! classes by tags 1 to 13; arrays by tags 20 to 26; String constants 14, their bytes 27 -/
def kc_N : Nat → String
  | 1 => RX0 | 2 => RX1 | 3 => RX2 | 4 => RX3 | 5 => RX4 | 6 => RX5 | 7 => RX6 | 8 => RX7 | 9 => RX8 | 10 => RX9 | 11 => RX10 | 12 => RX11 | _ => RX12
def kc_T : Nat → u_T
  | 1 => TX0 | 2 => TX1 | 3 => TX2 | 4 => TX3 | 5 => TX4 | 6 => TX5 | 7 => TX6 | 8 => TX7 | 9 => TX8 | 10 => TX9 | 11 => TX10 | 12 => TX11 | _ => TX12
def kc_n : Nat → Nat
  | 1 => 5 | 2 => 5 | 3 => 10 | 4 => 9 | 5 => 3 | 6 => 11 | 7 => 5 | 8 => 9 | 9 => 4 | 10 => 3 | 11 => 9 | 12 => 17 | _ => 35
def kc_y : Nat → Nat → FieldType
  | 1 => tyX0 | 2 => tyX1 | 3 => tyX2 | 4 => tyX3 | 5 => tyX4 | 6 => tyX5 | 7 => tyX6 | 8 => tyX7 | 9 => tyX8 | 10 => tyX9 | 11 => tyX10 | 12 => tyX11 | _ => tyX12
/-- 0: an int; 1: a long; 2: a reference -/
def kc_k (ty : FieldType) : Nat := match ty with
  | .long => 1
  | .object _ => 2
  | .array _ => 2
  | _ => 0
def ka_y : Nat → FieldType
  | 20 => .int | 21 => .byte | 22 => .boolean | 23 => .long | 24 => .object RX2 | 25 => .object RX8 | _ => .object RX9
/-- the words that every method is given -/
def TS : List Cond := lw_tbl.filter goodWord
theorem ts_of {w : Cond} (i : Nat) (h : lw_tbl[i]? = some w ∧ goodWord w = true) : w ∈ TS := List.mem_filter.mpr ⟨List.mem_of_getElem? h.1, h.2⟩
theorem ts_in {w : Cond} (h : w ∈ TS) : w ∈ lw_tbl := (List.mem_filter.mp h).1
theorem ts_good : GoodIn TS TS := fun w h => ⟨h, good_of_word (List.mem_filter.mp h).2⟩
theorem kc_lays : ∀ t, 0 < t → t < 14 → ∀ w ∈ u_ws (kc_N t) (kc_T t) (kc_n t), w ∈ TS := by
  have h : ∀ t, t < 13 → ∀ w ∈ u_ws (kc_N (t + 1)) (kc_T (t + 1)) (kc_n (t + 1)), w ∈ lw_tbl ∧ goodWord w = true := by decide +kernel
  intro t h0 h1 w hw
  obtain ⟨u, rfl⟩ : ∃ u, t = u + 1 := ⟨t - 1, by omega⟩
  exact List.mem_filter.mpr (h u (by omega) w hw)
theorem kc_tyok : ∀ t, 0 < t → t < 14 → ∀ k, k < kc_n t → parseFieldDescriptor (kc_T t k).2.2.1 = some (kc_y t k) := by
  have h : ∀ t, t < 13 → ∀ k, k < kc_n (t + 1) → parseFieldDescriptor (kc_T (t + 1) k).2.2.1 = some (kc_y (t + 1) k) := by decide +kernel
  intro t h0 h1
  obtain ⟨u, rfl⟩ : ∃ u, t = u + 1 := ⟨t - 1, by omega⟩
  exact h u (by omega)
theorem kc_nm : ∀ t, 0 < t → t < 14 → ∀ a, a < kc_n t → ∀ b, b < kc_n t → a ≠ b → (kc_T t a).2.1 ≠ (kc_T t b).2.1 := by
  have h : ∀ t, t < 13 → ∀ a, a < kc_n (t + 1) → ∀ b, b < kc_n (t + 1) → a ≠ b → (kc_T (t + 1) a).2.1 ≠ (kc_T (t + 1) b).2.1 := by decide +kernel
  intro t h0 h1
  obtain ⟨u, rfl⟩ : ∃ u, t = u + 1 := ⟨t - 1, by omega⟩
  exact h u (by omega)
/-! String constants -/
/-- four places where a constant is loaded: class, entry, which of the three texts -/
def ks_o : Nat → String | 0 => RX5 | 1 => RX5 | _ => RX12
def ks_x : Nat → Nat | 0 => 97 | 1 => 89 | 2 => 82 | _ => 120
def ks_s : Nat → Nat | 0 => 0 | 1 => 1 | 2 => 2 | _ => 1
def ks_t : Nat → String
  | 0 => "house fact doing bond knows comes may kind needs age but if then else end twin known theirs or and not "
  | 1 => ";:+-*()[]=<>"
  | _ => " house fact kind doing needs age but bond knows comes may if then else end twin known theirs and or not "
def ks_b (i : Nat) : List Int32 := (ks_t i).toList.map fun c => Int32.ofNat c.toNat
def ks_bs : List (List Int32) := [ks_b 0, ks_b 1, ks_b 2]
def ks_ls : List Nat := [(ks_b 0).length, (ks_b 1).length, (ks_b 2).length]
/-! nest mates -/
def kn_w : List (String × Nat × MethodName × String) := [(RX11, 19, yX2_init, RX11), (RX5, 21, yX3_init, RX11), (RX11, 35, yX8_init, RX11), (RX11, 45, yX4_init, RX11), (RX10, 11, yX9_init, RX11), (RX11, 101, yX9_init, RX11)]
/-- what a run fixes: the first address that is ours; the classes' numbers; where fields lie; the array classes' numbers; the String constants, their bytes -/
abbrev Gl : Type := Nat × (Nat → ClassId) × (Nat → Nat → Nat) × (Nat → ClassId) × (Nat → Nat) × (Nat → Nat) × Nat × Nat × (Nat → Int32)
def gB (g : Gl) : Nat := g.1
def gC (g : Gl) : Nat → ClassId := g.2.1
def gS (g : Gl) : Nat → Nat → Nat := g.2.2.1
def gA (g : Gl) : Nat → ClassId := g.2.2.2.1
def gK (g : Gl) : Nat → Nat := g.2.2.2.2.1
def gV (g : Gl) : Nat → Nat := g.2.2.2.2.2.1
/-- the script: where it is, its length, its ints -/
def gX (g : Gl) : Nat := g.2.2.2.2.2.2.1
def gXn (g : Gl) : Nat := g.2.2.2.2.2.2.2.1
def gXf (g : Gl) : Nat → Int32 := g.2.2.2.2.2.2.2.2
/-- the cells that may be written -/
def gF (g : Gl) : Nat → Prop := fun q => gB g ≤ q
def KK (g : Gl) (U : State) : Prop :=
  (∀ t, 0 < t → t < 14 → u_Kn U (kc_N t) (kc_T t) (kc_n t) (gC g t) (gS g t)) ∧
  (∀ t, 20 ≤ t → t < 27 → ArrOfT U (gA g t) (ka_y t) ∧ va_RA U (gA g t) (ka_y t)) ∧
  (∀ q ∈ kn_w, va_Nw (.methodLinkNest q.1 q.2.1 q.2.2.1 q.2.2.2) U) ∧
  (∀ C ∈ [RX2, RX8, RX9], va_AO C U) ∧
  (∀ i, i < 4 → vk_R (ks_o i) (ks_x i) (ks_t (ks_s i)) (gK g (ks_s i)) U) ∧
  vk_S 3 ks_ls ks_bs (gK g) (gV g) (gF g) U U.heap ∧ (va_Z "java/lang/String" "COMPACT_STRINGS" "Z" (.int 1) (gF g) U U.heap ∧ va_Zq "jdk/internal/util/Preconditions" "SIOOBE_FORMATTER" "Ljava/util/function/BiFunction;" (gF g) U U.heap) ∧ va_T .int (gX g) (gXn g) (fun j => .int (gXf g j)) (gF g) U U.heap
theorem KK.move {g : Gl} {s U : State} (hW : s.WarmedH U.vm) (hq : ∀ a : Nat, a < s.heap.size → ¬ gF g a → U.heap[a]? = s.heap[a]?) (h : KK g s) : KK g U := by
  obtain ⟨h1, h2, h3, h4, h5, h6, h7, h8⟩ := h
  exact ⟨fun t a b => u_Kn_moved hW.alike (h1 t a b), fun t a b => ⟨arrOfT_moved hW.alike (h2 t a b).1, (h2 t a b).2.moved hW.alike⟩, fun q hq => va_Nw.warmM hW (h3 q hq), fun C hC => (h4 C hC).moved hW.alike, fun i hi => (h5 i hi).warm hW, (h6.moved hW.alike).kept hq, ⟨(h7.1.moved hW.alike).kept hq, (h7.2.moved hW.alike).kept hq⟩, (h8.moved hW.alike).kept hq⟩
theorem KK.same {g : Gl} {s U : State} (hv : s.vm = U.vm) (hh : U.heap = s.heap) (h : KK g s) : KK g U := by
  have hA : s.vm.Alike U.vm := by rw [← hv]; exact Vm.Alike.refl _
  obtain ⟨h1, h2, h3, h4, h5, h6, h7, h8⟩ := h
  refine ⟨fun t a b => u_Kn_moved hA (h1 t a b), fun t a b => ⟨arrOfT_moved hA (h2 t a b).1, (h2 t a b).2.moved hA⟩, fun q hq => va_Nw.same rfl hv (h3 q hq), fun C hC => (h4 C hC).moved hA, fun i hi => (h5 i hi).same hv.symm, ?_, ?_, ?_⟩
  · rw [hh]; exact h6.moved hA
  · rw [hh]; exact ⟨h7.1.moved hA, h7.2.moved hA⟩
  · rw [hh]; exact h8.moved hA
/-! a cell of the heap as the machine has it -/
def hp_fv (h : Hp) (a k : Nat) : Value := match kc_k (kc_y (hp_t h a) k) with
  | 0 => .int (hp_I h a k)
  | 1 => .long (hp_L h a k)
  | _ => va_rf (hp_R h a k)
def hp_av (h : Hp) (a j : Nat) : Value := if hp_t h a < 23 then .int (hp_I h a j) else if hp_t h a = 23 then .long (hp_L h a j) else va_rf (hp_R h a j)
def CR (g : Gl) (h : Hp) (a : Nat) (H : Heap) : Prop :=
  if hp_t h a < 14 then t_OB a (gC g (hp_t h a)) (kc_n (hp_t h a)) (gS g (hp_t h a)) H (hp_fv h a)
  else H[a]? = some (arrV (gA g (hp_t h a)) (hp_l h a) (hp_av h a))
def hp_ok (t : Nat) : Prop := (0 < t ∧ t < 14) ∨ (20 ≤ t ∧ t < 27)
def HR (g : Gl) (h : Hp) (H : Heap) : Prop := hp_n h = H.size ∧ (∀ i, i < 3 → hp_k h i = gK g i) ∧ (∀ a, hp_ok (hp_t h a) → gB g ≤ a ∧ CR g h a H) ∧
  (∀ a, hp_t h a = 14 → ∃ i, i < 3 ∧ a = gK g i ∧ hp_R h a 0 = some (gV g i) ∧ hp_I h a 1 = 0) ∧
  (∀ a, hp_t h a = 27 → ∃ i, i < 3 ∧ a = gV g i ∧ hp_l h a = ks_ls.getD i 0 ∧ ∀ j, j < hp_l h a → hp_I h a j = (ks_bs.getD i []).getD j 0) ∧
  (∀ a, hp_t h a = 28 → a = gX g ∧ hp_l h a = gXn g ∧ ∀ j, j < hp_l h a → hp_I h a j = gXf g j)
/-- a method: its name, bytes, locals, answer -/
abbrev MI : Type := MethodName × ByteArray × Nat × Option FieldType
def mi_y (I : MI) : MethodName := I.1
def mi_c (I : MI) : ByteArray := I.2.1
def mi_n (I : MI) : Nat := I.2.2.1
def mi_r (I : MI) : Option FieldType := I.2.2.2
def mi_w (I : MI) : List Cond := Cond.code (mi_y I) (mi_c I) (mi_n I) (mi_r I) :: TS
/-- the room of a method: d frames, n cells, w slots -/
def rmOf (d n w : Nat) : Room := { frames := d, cells := n, slots := w, locals := 60 * d }
def Cx (g : Gl) (I : MI) (d : Nat) (p : Program) (R : Room) (s : State) (m : MethodId) (args : Array Value) (meth : Method) (c : Code) (n w w0 : Nat) : Prop :=
  p.tables.exec = Jvm.exec ∧ c.code = mi_c I ∧ c.maxLocals = mi_n I ∧ meth.sig.returnType = mi_r I ∧ s.vm.findClass (mi_y I).cls = some m.cls ∧ (∀ w ∈ TS, w.before args s = true) ∧ meth.locks = false ∧ meth.name = (mi_y I).name ∧ KK g s ∧ gB g ≤ s.heap.size ∧ (d ≤ R.frames ∧ 60 * d ≤ R.locals ∧ n - s.heap.size ≤ R.cells ∧ w - w0 ≤ R.slots)
/-- a method's end -/
def Qx (g : Gl) (v : Option Value) (h : Hp) : Array Value → State → Outcome → State → Prop := fun _ st oc t => oc = .returned v ∧ HR g h t.heap ∧ va_F (gF g) st t
def G {ρ : Type} (rv : ρ → Option Value) (I : MI) (d : Nat) (pc : Nat) (lv : List (Nat × Value)) (st : List Value) (h : Hp) (o : Option (ρ × Hp)) : Prop :=
  ∀ x, o = some x → (hp_n h ≤ hp_n x.2 ∧ hp_s h ≤ hp_s x.2) ∧ ∀ (g : Gl) (p : Program) (l : Launch) (e : Env) (R : Room) (s : State) (m : MethodId) (args : Array Value) (below : List Frame) (meth : Method) (c : Code) (w0 : Nat), Cx g I d p R s m args meth c (hp_n x.2) (hp_s x.2) w0 →
    ∀ (H : Heap) (locs : List Loc) (ls : Array Slot), HR g h H → va_S (gF g) s.heap H locs → w0 ≤ hp_s h → lv_has ls (mi_n I) lv →
      W p l e R s m args below meth c H locs (hp_n h - s.heap.size) (hp_s h - w0) (MQ below (Qx g (rv x.1) x.2) args s (hp_n x.2 - s.heap.size) (hp_s x.2 - w0) (gF g)) (F0 m pc ls st)
def GM {ρ : Type} (rv : ρ → Option Value) (I : MI) (d : Nat) (as : List Value) (h : Hp) (o : Option (ρ × Hp)) : Prop :=
  ∀ x, o = some x → (hp_n h ≤ hp_n x.2 ∧ hp_s h ≤ hp_s x.2) ∧ ∀ (l : Launch) (g : Gl), Met l (mi_y I) (mi_w I) (rmOf d (hp_n x.2 - hp_n h) (hp_s x.2 - hp_s h)) (va_Pc as (fun U => HR g h U.heap ∧ KK g U ∧ gB g ≤ U.heap.size)) (Qx g (rv x.1) x.2) (hp_n x.2 - hp_n h) (hp_s x.2 - hp_s h) (gF g)
def rvI (v : Int32) : Option Value := some (.int v)
def rvL (v : Int64) : Option Value := some (.long v)
def rvV (_ : Unit) : Option Value := none
def rvR (b : Nat) : Option Value := some (.ref b)
/-- the words of the Java text -/
def gd {α : Type} (q : Prop) [Decidable q] (k : Option α) : Option α := if q then k else none
def bd {ρ σ : Type} (o : Option (ρ × Hp)) (k : ρ → Hp → Option (σ × Hp)) : Option (σ × Hp) := match o with
  | some x => k x.1 x.2
  | none => none
def lt {α β : Type} (v : α) (k : α → β) : β := k v
abbrev inb (i : Int32) (n : Nat) : Prop := ¬ (i < 0 ∨ n ≤ i.toNatClampNeg)
abbrev ix (i : Int32) : Nat := i.toNatClampNeg
set_option maxHeartbeats 1000000 in
theorem GM_of {ρ : Type} {rv : ρ → Option Value} {I : MI} {d : Nat} {as : List Value} {lv : List (Nat × Value)} {h : Hp} {o : Option (ρ × Hp)} (hp : plainFor (mi_y I) = true) (hl : (lg_sl as).length ≤ mi_n I) (ha : lv_args 0 as = lv) (k : G rv I d 0 lv [] h o) : GM rv I d as h o := by
  intro x hx
  obtain ⟨hm, k⟩ := k x hx
  refine ⟨hm, fun l g => ?_⟩
  refine va_MetF (cc := mi_c I) (maxL := mi_n I) (ret := mi_r I) hp rfl ?_
  intro p e s m args below meth c s₁ B hml hv
  obtain ⟨rfl, hH, hK, hb⟩ := hv
  have hts := atoms_spec (ws := mi_w I) B.pre
  have hn : hp_n h = s.heap.size := hH.1
  have hl0 := lv_entry as (n := mi_n I) hl
  rw [lg_entry_eq]
  generalize (lg_sl as ++ List.replicate (mi_n I - (lg_sl as).length) Slot.unset).toArray = ls at hl0 ⊢
  rw [ha] at hl0
  have w := k g p l e (rmOf d (hp_n x.2 - s.heap.size) (hp_s x.2 - hp_s h)) s m as.toArray below meth c (hp_s h) ⟨B.exec, B.bytes, hml, B.returns, findClass_of_methodNamed B.named, fun w hw => hts w (List.mem_cons_of_mem _ hw), B.notSynchronized, (name_of_methodNamed B.named B.method).1, hK, hb, ⟨Nat.le_refl _, Nat.le_refl _, Nat.le_refl _, Nat.le_refl _⟩⟩ s.heap [] ls hH va_S.rf (Nat.le_refl _) hl0
  rw [← hn, Nat.sub_self, Nat.sub_self] at w
  exact w
