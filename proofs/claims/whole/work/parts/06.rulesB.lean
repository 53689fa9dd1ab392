/-! L1: rules of the heap -/
def FL (own : String) (i t k : Nat) (ty : FieldType) : Prop := Cond.fieldLink own i (kc_T t k).1 (kc_T t k).2.1 (kc_T t k).2.2.1 ∈ TS ∧ k < kc_n t ∧ 0 < t ∧ t < 14 ∧ kc_y t k = ty
/-! the words of the text: a field read, a field written, an array's place read, written, its length; new cells -/
def gI {α : Type} (t : Nat) (h : Hp) (a k : Nat) (K : Int32 → Option α) : Option α := gd (hp_t h a = t) (K (hp_I h a k))
def gL {α : Type} (t : Nat) (h : Hp) (a k : Nat) (K : Int64 → Option α) : Option α := gd (hp_t h a = t) (K (hp_L h a k))
def gR {α : Type} (t : Nat) (h : Hp) (a k : Nat) (K : Nat → Option α) : Option α := gd (hp_t h a = t) ((hp_R h a k).bind K)
def pI {α : Type} (t : Nat) (h : Hp) (a k : Nat) (v : Int32) (K : Hp → Option α) : Option α := gd (hp_t h a = t) (K (hp_sI h a k v))
def pZ {α : Type} (t : Nat) (h : Hp) (a k : Nat) (v : Int32) (K : Hp → Option α) : Option α := gd (hp_t h a = t ∧ (v = 0 ∨ v = 1)) (K (hp_sI h a k v))
def pR {α : Type} (t : Nat) (h : Hp) (a k : Nat) (v : Nat) (K : Hp → Option α) : Option α := gd (hp_t h a = t) (K (hp_sR h a k (some v)))
def aI {α : Type} (t : Nat) (h : Hp) (a : Nat) (i : Int32) (K : Int32 → Option α) : Option α := gd (hp_t h a = t ∧ inb i (hp_l h a)) (K (hp_I h a (ix i)))
def aL {α : Type} (h : Hp) (a : Nat) (i : Int32) (K : Int64 → Option α) : Option α := gd (hp_t h a = 23 ∧ inb i (hp_l h a)) (K (hp_L h a (ix i)))
def aR {α : Type} (t : Nat) (h : Hp) (a : Nat) (i : Int32) (K : Nat → Option α) : Option α := gd (hp_t h a = t ∧ inb i (hp_l h a)) ((hp_R h a (ix i)).bind K)
def oc {α : Type} (r : Option Nat) (kn : Option α) (ks : Nat → Option α) : Option α := match r with
  | none => kn
  | some b => ks b
def aO {α : Type} (t : Nat) (h : Hp) (a : Nat) (i : Int32) (kn : Option α) (ks : Nat → Option α) : Option α := gd (hp_t h a = t ∧ inb i (hp_l h a)) (oc (hp_R h a (ix i)) kn ks)
def wI {α : Type} (h : Hp) (a : Nat) (i v : Int32) (K : Hp → Option α) : Option α := gd (hp_t h a = 20 ∧ inb i (hp_l h a)) (K (hp_sI h a (ix i) v))
def wB {α : Type} (h : Hp) (a : Nat) (i v : Int32) (K : Hp → Option α) : Option α := gd (hp_t h a = 21 ∧ inb i (hp_l h a)) (K (hp_sI h a (ix i) (vp_nar .byte v)))
def wZ {α : Type} (h : Hp) (a : Nat) (i v : Int32) (K : Hp → Option α) : Option α := gd (hp_t h a = 22 ∧ inb i (hp_l h a)) (K (hp_sI h a (ix i) (vp_nar .boolean v)))
def wL {α : Type} (h : Hp) (a : Nat) (i : Int32) (v : Int64) (K : Hp → Option α) : Option α := gd (hp_t h a = 23 ∧ inb i (hp_l h a)) (K (hp_sL h a (ix i) v))
/-- the tag of what an array of references holds -/
def ka_c : Nat → Nat | 24 => 3 | 25 => 9 | _ => 10
def wR {α : Type} (t : Nat) (h : Hp) (a : Nat) (i : Int32) (v : Nat) (K : Hp → Option α) : Option α := gd (hp_t h a = t ∧ inb i (hp_l h a) ∧ hp_t h v = ka_c t) (K (hp_sR h a (ix i) (some v)))
def al {α : Type} (t : Nat) (h : Hp) (a : Nat) (K : Int32 → Option α) : Option α := gd (hp_t h a = t) (K (nI (hp_l h a)))
def nO {α : Type} (t : Nat) (h : Hp) (K : Nat → Hp → Option α) : Option α := K (hp_n h) (hp_nw h t 0 (kc_n t))
def nA {α : Type} (t : Nat) (h : Hp) (n : Int32) (K : Nat → Hp → Option α) : Option α := gd (¬ n < 0 ∧ ix n ≤ 1000000) (K (hp_n h) (hp_nw h t (ix n) (ix n)))
theorem HR.cell {g : Gl} {h : Hp} {H : Heap} {a t : Nat} (hH : HR g h H) (ht : hp_t h a = t) (h0 : 0 < t) (h1 : t < 14) : gB g ≤ a ∧ t_OB a (gC g t) (kc_n t) (gS g t) H (hp_fv h a) := by
  obtain ⟨hb, hc⟩ := hH.2.2.1 a (Or.inl ⟨by omega, by omega⟩)
  refine ⟨hb, ?_⟩
  unfold CR at hc
  rw [if_pos (by omega), ht] at hc
  exact hc
theorem HR.arr {g : Gl} {h : Hp} {H : Heap} {a t : Nat} (hH : HR g h H) (ht : hp_t h a = t) (h0 : 20 ≤ t) (h1 : t < 27) : gB g ≤ a ∧ H[a]? = some (arrV (gA g t) (hp_l h a) (hp_av h a)) := by
  obtain ⟨hb, hc⟩ := hH.2.2.1 a (Or.inr ⟨by omega, by omega⟩)
  refine ⟨hb, ?_⟩
  unfold CR at hc
  rw [if_neg (by omega), ht] at hc
  exact hc
theorem CR.kept {g : Gl} {h h' : Hp} {H H' : Heap} {b : Nat} (hc : CR g h b H) (e : H'[b]? = H[b]?) (ht : hp_t h' b = hp_t h b) (hl : hp_l h' b = hp_l h b) (hI : hp_I h' b = hp_I h b) (hL : hp_L h' b = hp_L h b) (hR : hp_R h' b = hp_R h b) : CR g h' b H' := by
  have e1 : hp_fv h' b = hp_fv h b := by funext k; simp only [hp_fv, ht, hI, hL, hR]
  have e2 : hp_av h' b = hp_av h b := by funext k; simp only [hp_av, ht, hI, hL, hR]
  unfold CR at hc ⊢
  rw [ht, hl, e1, e2]
  by_cases q : hp_t h b < 14
  · rw [if_pos q] at hc ⊢
    exact hc.kept e
  · rw [if_neg q] at hc ⊢
    rw [e]; exact hc
theorem HR.upd {g : Gl} {h h' : Hp} {H H' : Heap} (hH : HR g h H) (a : Nat) (ha : hp_ok (hp_t h a)) (e1 : H'.size = H.size) (e2 : ∀ q, q ≠ a → H'[q]? = H[q]?) (ht : hp_t h' = hp_t h) (hl : hp_l h' = hp_l h) (hn : hp_n h' = hp_n h) (hk : hp_k h' = hp_k h) (hI : ∀ b, b ≠ a → hp_I h' b = hp_I h b) (hL : ∀ b, b ≠ a → hp_L h' b = hp_L h b) (hR : ∀ b, b ≠ a → hp_R h' b = hp_R h b) (hc : CR g h' a H') : HR g h' H' := by
  obtain ⟨q1, q2, q3, q4, q5, q6⟩ := hH
  refine ⟨by rw [hn, q1, e1], fun i hi => by rw [hk]; exact q2 i hi, fun b hb => ?_, fun b hb => ?_, fun b hb => ?_, fun b hb => ?_⟩
  · rw [ht] at hb
    by_cases z : b = a
    · subst z; exact ⟨(q3 b hb).1, hc⟩
    · exact ⟨(q3 b hb).1, (q3 b hb).2.kept (e2 b z) (by rw [ht]) (by rw [hl]) (hI b z) (hL b z) (hR b z)⟩
  · rw [ht] at hb
    have z : b ≠ a := fun z => by subst z; unfold hp_ok at ha; omega
    rw [hI b z, hR b z]
    exact q4 b hb
  · rw [ht] at hb
    have z : b ≠ a := fun z => by subst z; unfold hp_ok at ha; omega
    rw [hl, hI b z]
    exact q5 b hb
  · rw [ht] at hb
    have z : b ≠ a := fun z => by subst z; unfold hp_ok at ha; omega
    rw [hl, hI b z]
    exact q6 b hb
theorem up2_ne {α : Type} {f : Nat → Nat → α} {a k b : Nat} {v : α} (hb : b ≠ a) : up2 f a k v b = f b := by
  funext j; simp [up2, hb]
theorem up2_at {α : Type} {f : Nat → Nat → α} {a k : Nat} {v : α} : up2 f a k v a = fun j => if j = k then v else f a j := by
  funext j; simp [up2]
theorem fv_int {h : Hp} {a t k : Nat} {ty : FieldType} (ht : hp_t h a = t) (hy : kc_y t k = ty) (hk : kc_k ty = 0) : hp_fv h a k = .int (hp_I h a k) := by
  unfold hp_fv; rw [ht, hy, hk]; try rfl
theorem fv_long {h : Hp} {a t k : Nat} {ty : FieldType} (ht : hp_t h a = t) (hy : kc_y t k = ty) (hk : kc_k ty = 1) : hp_fv h a k = .long (hp_L h a k) := by
  unfold hp_fv; rw [ht, hy, hk]; try rfl
theorem fv_ref {h : Hp} {a t k : Nat} {ty : FieldType} (ht : hp_t h a = t) (hy : kc_y t k = ty) (hk : kc_k ty = 2) : hp_fv h a k = va_rf (hp_R h a k) := by
  unfold hp_fv; rw [ht, hy, hk]; try rfl
section GRB
variable {ρ : Type} {rv : ρ → Option Value} {I : MI} {d pc pc' tgt : Nat} {lv lv' : List (Nat × Value)} {st st' : List Value} {h h' : Hp} {o o1 o2 : Option (ρ × Hp)}
theorem G_get {i t k a : Nat} {ty : FieldType} (F : FL (mi_y I).cls i t k ty) (dd : decode (mi_c I) pc = .ok (.getfield i, 3)) (ht : hp_t h a = t) (kk : G rv I d (pc + 3) lv (hp_fv h a k :: st) h o) : G rv I d pc lv (.ref a :: st) h o := by
  intro x hx
  refine ⟨(kk x hx).1, fun g p l e R s m args below meth c w0 C H locs ls hH hS h0 hl => ?_⟩
  have w := (kk x hx).2 g p l e R s m args below meth c w0 C H locs ls hH hS h0 hl
  obtain ⟨f1, f2, f3, f4, f5⟩ := F
  obtain ⟨-, cell, q1, q2, q3, q4⟩ := hH.cell ht f3 f4
  obtain ⟨c1, c2, c3, c4, c5, hts, c7, c8, hK, c10, c11⟩ := C
  obtain ⟨hSl, hfc, kC, hkC, hkind⟩ := hK.1 t f3 f4
  obtain ⟨cf, kf, fi, f, hi, hsl⟩ := hSl k f2
  exact W.getf c1 c2 c5 (hts _ f1) hi (u_facts hfc hkC (u_lays hts (kc_lays t f3 f4) f2) hi).1 q1 (by rw [q3]; exact fun h => by cases h) (v := hp_fv h a k) (by rw [hsl]; exact q4 k f2) rfl rfl dd w
theorem g_getI {i t k a : Nat} {ty : FieldType} {K : Int32 → Option (ρ × Hp)} (F : FL (mi_y I).cls i t k ty) (hk : kc_k ty = 0) (dd : decode (mi_c I) pc = .ok (.getfield i, 3)) (kk : ∀ v, G rv I d (pc + 3) lv (.int v :: st) h (K v)) : G rv I d pc lv (.ref a :: st) h (gI t h a k K) :=
  G_gd fun ht => G_get F dd ht (by rw [fv_int ht F.2.2.2.2 hk]; exact kk _)
theorem g_getL {i t k a : Nat} {ty : FieldType} {K : Int64 → Option (ρ × Hp)} (F : FL (mi_y I).cls i t k ty) (hk : kc_k ty = 1) (dd : decode (mi_c I) pc = .ok (.getfield i, 3)) (kk : ∀ v, G rv I d (pc + 3) lv (.long v :: st) h (K v)) : G rv I d pc lv (.ref a :: st) h (gL t h a k K) :=
  G_gd fun ht => G_get F dd ht (by rw [fv_long ht F.2.2.2.2 hk]; exact kk _)
theorem g_getR {i t k a : Nat} {ty : FieldType} {K : Nat → Option (ρ × Hp)} (F : FL (mi_y I).cls i t k ty) (hk : kc_k ty = 2) (dd : decode (mi_c I) pc = .ok (.getfield i, 3)) (kk : ∀ v, G rv I d (pc + 3) lv (.ref v :: st) h (K v)) : G rv I d pc lv (.ref a :: st) h (gR t h a k K) :=
  G_gd fun ht => G_rb fun b hb => G_get F dd ht (by rw [fv_ref ht F.2.2.2.2 hk, hb]; exact kk b)
/-- the slots of a class are apart -/
theorem kc_apart {g : Gl} {s : State} {args : Array Value} (hts : ∀ w ∈ TS, w.before args s = true) (hK : KK g s) {t : Nat} (h0 : 0 < t) (h1 : t < 14) : ∀ x y, x < kc_n t → y < kc_n t → x ≠ y → gS g t x ≠ gS g t y := by
  intro x y hx hy hne
  obtain ⟨hS, -⟩ := hK.1 t h0 h1
  obtain ⟨_, _, _, fa, hia, ea⟩ := hS x hx
  obtain ⟨_, _, _, fb, hib, eb⟩ := hS y hy
  rw [← ea, ← eb]
  refine u_apart (u_lays hts (kc_lays t h0 h1) hx) (u_lays hts (kc_lays t h0 h1) hy) hia hib ?_
  rw [(State.fieldFound?_type hia (kc_tyok t h0 h1 x hx)).1, (State.fieldFound?_type hib (kc_tyok t h0 h1 y hy)).1]
  exact kc_nm t h0 h1 x hx y hy hne
theorem G_put {i t k a : Nat} {ty : FieldType} {v : Value} (F : FL (mi_y I).cls i t k ty) (hfin : (kc_T t k).2.2.2 = false ∨ ((mi_y I).name = "<init>" ∧ (kc_T t k).1 = (mi_y I).cls ∧ (kc_T t k).2.2.2 = true)) (hn : narrow ty v = v) (hfit : fits ty v = true) (dd : decode (mi_c I) pc = .ok (.putfield i, 3)) (ht : hp_t h a = t)
    (e1 : hp_t h' = hp_t h) (e2 : hp_l h' = hp_l h) (e3 : hp_n h' = hp_n h) (e4 : hp_k h' = hp_k h) (e5 : hp_s h' = hp_s h) (hI : ∀ b, b ≠ a → hp_I h' b = hp_I h b) (hL : ∀ b, b ≠ a → hp_L h' b = hp_L h b) (hR : ∀ b, b ≠ a → hp_R h' b = hp_R h b) (hv : hp_fv h' a = updV (hp_fv h a) k v)
    (kk : G rv I d (pc + 3) lv st h' o) : G rv I d pc lv (v :: .ref a :: st) h o := by
  intro x hx
  obtain ⟨km, kw⟩ := kk x hx
  rw [e3, e5] at km
  refine ⟨km, fun g p l e R s m args below meth c w0 C H locs ls hH hS h0 hl => ?_⟩
  obtain ⟨f1, f2, f3, f4, f5⟩ := F
  obtain ⟨hba, cell, q1, q2, q3, q4⟩ := hH.cell ht f3 f4
  have C' := C
  obtain ⟨c1, c2, c3, c4, c5, hts, c7, c8, hK, c10, c11⟩ := C
  have hap := kc_apart hts hK f3 f4
  obtain ⟨hSl, hfc, kC, hkC, hkind⟩ := hK.1 t f3 f4
  obtain ⟨cf, kf, fi, f, hi, hsl⟩ := hSl k f2
  have hlay := hts _ (kc_lays t f3 f4 _ (u_in_lay f2))
  have hst := (u_facts hfc hkC (u_lays hts (kc_lays t f3 f4) f2) hi).1
  have hd : parseFieldDescriptor (kc_T t k).2.2.1 = some ty := by rw [← f5]; exact kc_tyok t f3 f4 k f2
  have fin : ∀ H' : Heap, H'[a]? = some (cell.setSlot f.slot v) → H'.size = H.size → (∀ q, q ≠ a → H'[q]? = H[q]?) → W p l e R s m args below meth c H' (locs ++ [⟨a, f.slot⟩]) (hp_n h - s.heap.size) (hp_s h - w0) (MQ below (Qx g (rv x.1) x.2) args s (hp_n x.2 - s.heap.size) (hp_s x.2 - w0) (gF g)) (F0 m (pc + 3) ls st) := by
    intro H' r1 r2 r3
    rw [hsl] at r1
    have w := kw g p l e R s m args below meth c w0 C' H' (locs ++ [⟨a, f.slot⟩]) ls (hH.upd a (Or.inl ⟨by omega, by omega⟩) r2 r3 e1 e2 e3 e4 hI hL hR (by
      unfold CR
      rw [e1, ht, if_pos (by omega), hv]
      exact ⟨_, r1, q2, q3, t_set q4 hap f2 v⟩)) (hS.put r2 r3 hba) (by rw [e5]; exact h0) hl
    rw [e3, e5] at w
    exact w
  rcases hfin with hfin | ⟨hin, hdecl, hfin⟩
  · unfold u_lay at hlay
    rw [if_neg (by rw [hfin]; decide)] at hlay
    exact W.putK c1 c2 (f := f) ⟨c5, hts _ f1, ⟨_, _, _, hi⟩, hst⟩ (by rw [q2]; exact u_store hfc hkC hkind hlay hi hd hn hfit) q1 q3 (by rw [hsl]; exact k2_hasslot (q4 k f2)) rfl rfl dd fin
  · unfold u_lay at hlay
    rw [if_pos hfin] at hlay
    have hcf : m.cls = cf := by
      obtain ⟨_, _, c', _, _, _, -, -, hf', -, -, -, hown2, -⟩ := Cond.laysFinal_spec hlay
      have e1 : c' = cf := by have := hi.symm.trans hf'; simp at this; exact this.1.symm
      rw [hdecl] at hown2
      rw [← e1]; exact Option.some.inj (c5.symm.trans hown2)
    have h6 := u_fits hfc hkC hkind (Or.inr hlay) hi hd hn hfit
    exact W.putFinK c1 c2 c5 (hts _ f1) hi hst hcf (by rw [c8]; exact hin) (by rw [q2]; exact h6) q1 q3 (by rw [hsl]; exact k2_hasslot (q4 k f2)) rfl rfl dd fin
theorem fv_sI {h : Hp} {a t k : Nat} {ty : FieldType} {v : Int32} (ht : hp_t h a = t) (hy : kc_y t k = ty) (hk : kc_k ty = 0) : hp_fv (hp_sI h a k v) a = updV (hp_fv h a) k (.int v) := by
  funext j
  by_cases q : j = k
  · subst q
    rw [fv_int (h := hp_sI h a j v) (t := t) ht hy hk]
    simp [updV, hp_sI, hp_I, up2]
  · simp [updV, q, hp_fv, hp_sI, hp_I, hp_L, hp_R, hp_t, up2]
theorem fv_sR {h : Hp} {a t k : Nat} {ty : FieldType} {v : Option Nat} (ht : hp_t h a = t) (hy : kc_y t k = ty) (hk : kc_k ty = 2) : hp_fv (hp_sR h a k v) a = updV (hp_fv h a) k (va_rf v) := by
  funext j
  by_cases q : j = k
  · subst q
    rw [fv_ref (h := hp_sR h a j v) (t := t) ht hy hk]
    simp [updV, hp_sR, hp_R, up2]
  · simp [updV, q, hp_fv, hp_sR, hp_I, hp_L, hp_R, hp_t, up2]
theorem g_putI {i t k a : Nat} {v : Int32} {K : Hp → Option (ρ × Hp)} (F : FL (mi_y I).cls i t k .int) (hfin : (kc_T t k).2.2.2 = false ∨ ((mi_y I).name = "<init>" ∧ (kc_T t k).1 = (mi_y I).cls ∧ (kc_T t k).2.2.2 = true)) (dd : decode (mi_c I) pc = .ok (.putfield i, 3)) (kk : ∀ h1, G rv I d (pc + 3) lv st h1 (K h1)) : G rv I d pc lv (.int v :: .ref a :: st) h (pI t h a k v K) :=
  G_gd fun ht => G_put F hfin rfl rfl dd ht (h' := hp_sI h a k v) rfl rfl rfl rfl rfl (fun b hb => up2_ne hb) (fun _ _ => rfl) (fun _ _ => rfl) (fv_sI ht F.2.2.2.2 rfl) (kk _)
theorem g_putZ {i t k a : Nat} {v : Int32} {K : Hp → Option (ρ × Hp)} (F : FL (mi_y I).cls i t k .boolean) (hfin : (kc_T t k).2.2.2 = false ∨ ((mi_y I).name = "<init>" ∧ (kc_T t k).1 = (mi_y I).cls ∧ (kc_T t k).2.2.2 = true)) (dd : decode (mi_c I) pc = .ok (.putfield i, 3)) (kk : ∀ h1, G rv I d (pc + 3) lv st h1 (K h1)) : G rv I d pc lv (.int v :: .ref a :: st) h (pZ t h a k v K) :=
  G_gd fun ht => G_put F hfin (by rcases ht.2 with q | q <;> subst q <;> rfl) (by rcases ht.2 with q | q <;> subst q <;> rfl) dd ht.1 (h' := hp_sI h a k v) rfl rfl rfl rfl rfl (fun b hb => up2_ne hb) (fun _ _ => rfl) (fun _ _ => rfl) (fv_sI ht.1 F.2.2.2.2 rfl) (kk _)
theorem g_putR {i t k a v : Nat} {ty : FieldType} {K : Hp → Option (ρ × Hp)} (F : FL (mi_y I).cls i t k ty) (hk : kc_k ty = 2) (hfin : (kc_T t k).2.2.2 = false ∨ ((mi_y I).name = "<init>" ∧ (kc_T t k).1 = (mi_y I).cls ∧ (kc_T t k).2.2.2 = true)) (dd : decode (mi_c I) pc = .ok (.putfield i, 3)) (kk : ∀ h1, G rv I d (pc + 3) lv st h1 (K h1)) : G rv I d pc lv (.ref v :: .ref a :: st) h (pR t h a k v K) :=
  G_gd fun ht => G_put F hfin (by cases ty <;> first | rfl | (simp [kc_k] at hk)) (by cases ty <;> first | rfl | (simp [kc_k] at hk)) dd ht (h' := hp_sR h a k (some v)) rfl rfl rfl rfl rfl (fun _ _ => rfl) (fun _ _ => rfl) (fun b hb => up2_ne hb) (fv_sR ht F.2.2.2.2 hk) (kk _)
-- arrays
theorem av_int {h : Hp} {a t : Nat} (ht : hp_t h a = t) (h1 : t < 23) : hp_av h a = fun j => .int (hp_I h a j) := by
  funext j; unfold hp_av; rw [ht, if_pos h1]
theorem av_long {h : Hp} {a : Nat} (ht : hp_t h a = 23) : hp_av h a = fun j => .long (hp_L h a j) := by
  funext j; unfold hp_av; rw [ht, if_neg (by decide), if_pos rfl]
theorem av_ref {h : Hp} {a t : Nat} (ht : hp_t h a = t) (h1 : 24 ≤ t) : hp_av h a = fun j => va_rf (hp_R h a j) := by
  funext j; unfold hp_av; rw [ht, if_neg (by omega), if_neg (by omega)]
theorem G_ld {a t : Nat} {i : Int32} {v : Value} (h0 : 20 ≤ t) (h1 : t < 27) (ht : hp_t h a = t) (hin : inb i (hp_l h a)) (hv : hp_av h a (ix i) = v)
    (f : ∀ (p : Program) (l : Launch) (e : Env) (R : Room) (s : State) (m : MethodId) (args : Array Value) (below : List Frame) (meth : Method) (c : Code) (H : Heap) (locs : List Loc) (cells slots : Nat) (Q : State → Prop) (ls : Array Slot) (cell : Cell), p.tables.exec = Jvm.exec → c.code = mi_c I → H[a]? = some cell → s.isArrayOf cell (ka_y t) → cell.vm ≠ .unknown → ¬ (i < 0 ∨ cell.slots.size ≤ i.toNatClampNeg) → cell.slots[i.toNatClampNeg]? = some v → W p l e R s m args below meth c H locs cells slots Q (F0 m pc' ls (v :: st)) → W p l e R s m args below meth c H locs cells slots Q (F0 m pc ls (.int i :: .ref a :: st)))
    (kk : G rv I d pc' lv (v :: st) h o) : G rv I d pc lv (.int i :: .ref a :: st) h o := by
  intro x hx
  refine ⟨(kk x hx).1, fun g p l e R s m args below meth c w0 C H locs ls hH hS h0' hl => ?_⟩
  have w := (kk x hx).2 g p l e R s m args below meth c w0 C H locs ls hH hS h0' hl
  obtain ⟨c1, c2, c3, c4, c5, hts, c7, c8, hK, c10, c11⟩ := C
  obtain ⟨-, hc⟩ := hH.arr ht h0 h1
  have hlt : i.toNatClampNeg < hp_l h a := Nat.not_le.mp fun q => hin (Or.inr q)
  exact f p l e R s m args below meth c H locs _ _ _ ls _ c1 c2 hc ((hK.2.1 t h0 h1).1 _ _) (fun q => by cases q) (by rw [arrV_size]; exact hin) (by rw [arrV_read _ _ hlt, hv]) w
theorem g_iald {a : Nat} {i : Int32} {K : Int32 → Option (ρ × Hp)} (dd : decode (mi_c I) pc = .ok (.iaload, 1)) (kk : ∀ v, G rv I d (pc + 1) lv (.int v :: st) h (K v)) : G rv I d pc lv (.int i :: .ref a :: st) h (aI 20 h a i K) :=
  G_gd fun ht => G_ld (by decide) (by decide) ht.1 ht.2 (by rw [av_int ht.1 (by decide)]) (fun _ _ _ _ _ _ _ _ _ _ _ _ _ _ _ _ _ hx hb h1 h2 h3 h4 h5 w => W.iald hx hb h1 h2 h3 h4 h5 rfl rfl dd w) (kk _)
theorem g_bald {a : Nat} {i : Int32} {K : Int32 → Option (ρ × Hp)} (dd : decode (mi_c I) pc = .ok (.baload, 1)) (kk : ∀ v, G rv I d (pc + 1) lv (.int v :: st) h (K v)) : G rv I d pc lv (.int i :: .ref a :: st) h (aI 21 h a i K) :=
  G_gd fun ht => G_ld (by decide) (by decide) ht.1 ht.2 (by rw [av_int ht.1 (by decide)]) (fun _ _ _ _ _ _ _ _ _ _ _ _ _ _ _ _ _ hx hb h1 h2 h3 h4 h5 w => W.bald hx hb h1 h2 h3 h4 h5 rfl rfl dd w) (kk _)
theorem g_zald {a : Nat} {i : Int32} {K : Int32 → Option (ρ × Hp)} (dd : decode (mi_c I) pc = .ok (.baload, 1)) (kk : ∀ v, G rv I d (pc + 1) lv (.int v :: st) h (K v)) : G rv I d pc lv (.int i :: .ref a :: st) h (aI 22 h a i K) :=
  G_gd fun ht => G_ld (by decide) (by decide) ht.1 ht.2 (by rw [av_int ht.1 (by decide)]) (fun _ _ _ _ _ _ _ _ _ _ _ _ _ _ _ _ _ hx hb h1 h2 h3 h4 h5 w => W.zald hx hb h1 h2 h3 h4 h5 rfl rfl dd w) (kk _)
theorem g_lald {a : Nat} {i : Int32} {K : Int64 → Option (ρ × Hp)} (dd : decode (mi_c I) pc = .ok (.laload, 1)) (kk : ∀ v, G rv I d (pc + 1) lv (.long v :: st) h (K v)) : G rv I d pc lv (.int i :: .ref a :: st) h (aL h a i K) :=
  G_gd fun ht => G_ld (by decide) (by decide) ht.1 ht.2 (by rw [av_long ht.1]) (fun _ _ _ _ _ _ _ _ _ _ _ _ _ _ _ _ _ hx hb h1 h2 h3 h4 h5 w => W.lald hx hb h1 h2 h3 h4 h5 rfl rfl dd w) (kk _)
theorem ka_ref {t : Nat} (h0 : 24 ≤ t) (h1 : t < 27) : (ka_y t).isReference = true := by
  rcases (show t = 24 ∨ t = 25 ∨ t = 26 by omega) with rfl | rfl | rfl <;> rfl
theorem g_aald {a t : Nat} {i : Int32} {K : Nat → Option (ρ × Hp)} (h0 : 24 ≤ t) (h1 : t < 27) (dd : decode (mi_c I) pc = .ok (.aaload, 1)) (kk : ∀ v, G rv I d (pc + 1) lv (.ref v :: st) h (K v)) : G rv I d pc lv (.int i :: .ref a :: st) h (aR t h a i K) :=
  G_gd fun ht => G_rb fun b hb => G_ld (by omega) h1 ht.1 ht.2 (v := .ref b) (by rw [av_ref ht.1 h0]; show va_rf _ = _; rw [hb]; rfl) (fun _ _ _ _ _ _ _ _ _ _ _ _ _ _ _ _ _ hx hb h1' h2 h3 h4 h5 w => W.aald hx hb h1' h2 (ka_ref h0 h1) h3 h4 h5 rfl rfl dd w) (kk b)
theorem g_aaldO {a t : Nat} {i : Int32} {kn : Option (ρ × Hp)} {ks : Nat → Option (ρ × Hp)} (h0 : 24 ≤ t) (h1 : t < 27) (dd : decode (mi_c I) pc = .ok (.aaload, 1)) (k0 : G rv I d (pc + 1) lv (.null :: st) h kn) (kk : ∀ v, G rv I d (pc + 1) lv (.ref v :: st) h (ks v)) : G rv I d pc lv (.int i :: .ref a :: st) h (aO t h a i kn ks) :=
  G_gd fun ht => by
    cases hb : hp_R h a (ix i) with
    | none => exact G_ld (by omega) h1 ht.1 ht.2 (v := .null) (by rw [av_ref ht.1 h0]; show va_rf _ = _; rw [hb]; rfl) (fun _ _ _ _ _ _ _ _ _ _ _ _ _ _ _ _ _ hx hb h1' h2 h3 h4 h5 w => W.aald hx hb h1' h2 (ka_ref h0 h1) h3 h4 h5 rfl rfl dd w) k0
    | some b => exact G_ld (by omega) h1 ht.1 ht.2 (v := .ref b) (by rw [av_ref ht.1 h0]; show va_rf _ = _; rw [hb]; rfl) (fun _ _ _ _ _ _ _ _ _ _ _ _ _ _ _ _ _ hx hb h1' h2 h3 h4 h5 w => W.aald hx hb h1' h2 (ka_ref h0 h1) h3 h4 h5 rfl rfl dd w) (kk b)
theorem g_alen {a t : Nat} {K : Int32 → Option (ρ × Hp)} (h0 : 20 ≤ t) (h1 : t < 27) (dd : decode (mi_c I) pc = .ok (.arraylength, 1)) (kk : ∀ v, G rv I d (pc + 1) lv (.int v :: st) h (K v)) : G rv I d pc lv (.ref a :: st) h (al t h a K) :=
  G_gd fun ht => by
    intro x hx
    refine ⟨(kk _ x hx).1, fun g p l e R s m args below meth c w0 C H locs ls hH hS h0' hl => ?_⟩
    have w := (kk _ x hx).2 g p l e R s m args below meth c w0 C H locs ls hH hS h0' hl
    obtain ⟨c1, c2, c3, c4, c5, hts, c7, c8, hK, c10, c11⟩ := C
    obtain ⟨-, hc⟩ := hH.arr ht h0 h1
    exact W.alen c1 c2 hc ((hK.2.1 t h0 h1).1 _ _) (by rw [arrV_size]; rfl) rfl rfl dd w
/-- a store into an array -/
theorem G_st {a t : Nat} {i : Int32} {v w' : Value} (h0 : 20 ≤ t) (h1 : t < 27) (ht : hp_t h a = t) (hin : inb i (hp_l h a))
    (e1 : hp_t h' = hp_t h) (e2 : hp_l h' = hp_l h) (e3 : hp_n h' = hp_n h) (e4 : hp_k h' = hp_k h) (e5 : hp_s h' = hp_s h) (hI : ∀ b, b ≠ a → hp_I h' b = hp_I h b) (hL : ∀ b, b ≠ a → hp_L h' b = hp_L h b) (hR : ∀ b, b ≠ a → hp_R h' b = hp_R h b) (hv : hp_av h' a = updV (hp_av h a) (ix i) w')
    (f : ∀ (g : Gl) (p : Program) (l : Launch) (e : Env) (R : Room) (s : State) (m : MethodId) (args : Array Value) (below : List Frame) (meth : Method) (c : Code) (H : Heap) (locs : List Loc) (cells slots : Nat) (Q : State → Prop) (ls : Array Slot), p.tables.exec = Jvm.exec → c.code = mi_c I → KK g s → HR g h H → (∀ H' : Heap, H'[a]? = some ((arrV (gA g t) (hp_l h a) (hp_av h a)).setSlot i.toNatClampNeg w') → H'.size = H.size → (∀ q, q ≠ a → H'[q]? = H[q]?) → W p l e R s m args below meth c H' (locs ++ [⟨a, i.toNatClampNeg⟩]) cells slots Q (F0 m (pc + 1) ls st)) → W p l e R s m args below meth c H locs cells slots Q (F0 m pc ls (v :: .int i :: .ref a :: st)))
    (kk : G rv I d (pc + 1) lv st h' o) : G rv I d pc lv (v :: .int i :: .ref a :: st) h o := by
  intro x hx
  obtain ⟨km, kw⟩ := kk x hx
  rw [e3, e5] at km
  refine ⟨km, fun g p l e R s m args below meth c w0 C H locs ls hH hS h0' hl => ?_⟩
  obtain ⟨hba, hc⟩ := hH.arr ht h0 h1
  refine f g p l e R s m args below meth c H locs _ _ _ ls C.1 C.2.1 C.2.2.2.2.2.2.2.2.1 hH (fun H' r1 r2 r3 => ?_)
  have w := kw g p l e R s m args below meth c w0 C H' (locs ++ [⟨a, i.toNatClampNeg⟩]) ls (hH.upd a (Or.inr ⟨by omega, by omega⟩) r2 r3 e1 e2 e3 e4 hI hL hR (by
    unfold CR
    rw [e1, e2, ht, if_neg (by omega), hv, r1, arrV_store])) (hS.put r2 r3 hba) (by rw [e5]; exact h0') hl
  rw [e3, e5] at w
  exact w
theorem av_sI {h : Hp} {a k : Nat} {v : Int32} (ht : hp_t h a < 23) : hp_av (hp_sI h a k v) a = updV (hp_av h a) k (.int v) := by
  rw [av_int (h := hp_sI h a k v) (t := hp_t h a) rfl ht, av_int rfl ht]
  funext j
  by_cases q : j = k
  · subst q; simp [updV, hp_sI, hp_I, up2]
  · simp [updV, q, hp_sI, hp_I, up2]
theorem av_sL {h : Hp} {a k : Nat} {v : Int64} (ht : hp_t h a = 23) : hp_av (hp_sL h a k v) a = updV (hp_av h a) k (.long v) := by
  rw [av_long (h := hp_sL h a k v) ht, av_long ht]
  funext j
  by_cases q : j = k
  · subst q; simp [updV, hp_sL, hp_L, up2]
  · simp [updV, q, hp_sL, hp_L, up2]
theorem av_sR {h : Hp} {a k : Nat} {v : Option Nat} (ht : 24 ≤ hp_t h a) : hp_av (hp_sR h a k v) a = updV (hp_av h a) k (va_rf v) := by
  rw [av_ref (h := hp_sR h a k v) (t := hp_t h a) rfl ht, av_ref rfl ht]
  funext j
  by_cases q : j = k
  · subst q; simp [updV, hp_sR, hp_R, up2]
  · simp [updV, q, hp_sR, hp_R, up2]
theorem inb_arr {i : Int32} {n : Nat} {cA : ClassId} {f : Nat → Value} (hin : inb i n) : ¬ (i < 0 ∨ (arrV cA n f).slots.size ≤ i.toNatClampNeg) := by rw [arrV_size]; exact hin
theorem g_iast {a : Nat} {i v : Int32} {K : Hp → Option (ρ × Hp)} (dd : decode (mi_c I) pc = .ok (.iastore, 1)) (kk : ∀ h1, G rv I d (pc + 1) lv st h1 (K h1)) : G rv I d pc lv (.int v :: .int i :: .ref a :: st) h (wI h a i v K) :=
  G_gd fun ht => G_st (by decide) (by decide) ht.1 ht.2 (h' := hp_sI h a (ix i) v) rfl rfl rfl rfl rfl (fun b hb => up2_ne hb) (fun _ _ => rfl) (fun _ _ => rfl) (av_sI (by rw [ht.1]; decide)) (fun _ _ _ _ _ _ _ _ _ _ _ _ _ _ _ _ _ hx hb hK hH w => W.iast hx hb (hH.arr ht.1 (by decide) (by decide)).2 ((hK.2.1 20 (by decide) (by decide)).1 _ _) (fun q => by cases q) (inb_arr ht.2) rfl rfl dd w) (kk _)
theorem g_bast {a : Nat} {i v : Int32} {K : Hp → Option (ρ × Hp)} (dd : decode (mi_c I) pc = .ok (.bastore, 1)) (kk : ∀ h1, G rv I d (pc + 1) lv st h1 (K h1)) : G rv I d pc lv (.int v :: .int i :: .ref a :: st) h (wB h a i v K) :=
  G_gd fun ht => G_st (by decide) (by decide) ht.1 ht.2 (h' := hp_sI h a (ix i) (vp_nar .byte v)) rfl rfl rfl rfl rfl (fun b hb => up2_ne hb) (fun _ _ => rfl) (fun _ _ => rfl) (av_sI (by rw [ht.1]; decide)) (fun _ _ _ _ _ _ _ _ _ _ _ _ _ _ _ _ _ hx hb hK hH w => W.bast hx hb (hH.arr ht.1 (by decide) (by decide)).2 ((hK.2.1 21 (by decide) (by decide)).1 _ _) (fun q => by cases q) (inb_arr ht.2) rfl rfl dd w) (kk _)
theorem g_zast {a : Nat} {i v : Int32} {K : Hp → Option (ρ × Hp)} (dd : decode (mi_c I) pc = .ok (.bastore, 1)) (kk : ∀ h1, G rv I d (pc + 1) lv st h1 (K h1)) : G rv I d pc lv (.int v :: .int i :: .ref a :: st) h (wZ h a i v K) :=
  G_gd fun ht => G_st (by decide) (by decide) ht.1 ht.2 (h' := hp_sI h a (ix i) (vp_nar .boolean v)) rfl rfl rfl rfl rfl (fun b hb => up2_ne hb) (fun _ _ => rfl) (fun _ _ => rfl) (av_sI (by rw [ht.1]; decide)) (fun _ _ _ _ _ _ _ _ _ _ _ _ _ _ _ _ _ hx hb hK hH w => W.zast hx hb (hH.arr ht.1 (by decide) (by decide)).2 ((hK.2.1 22 (by decide) (by decide)).1 _ _) (fun q => by cases q) (inb_arr ht.2) rfl rfl dd w) (kk _)
theorem g_last {a : Nat} {i : Int32} {v : Int64} {K : Hp → Option (ρ × Hp)} (dd : decode (mi_c I) pc = .ok (.lastore, 1)) (kk : ∀ h1, G rv I d (pc + 1) lv st h1 (K h1)) : G rv I d pc lv (.long v :: .int i :: .ref a :: st) h (wL h a i v K) :=
  G_gd fun ht => G_st (by decide) (by decide) ht.1 ht.2 (h' := hp_sL h a (ix i) v) rfl rfl rfl rfl rfl (fun _ _ => rfl) (fun b hb => up2_ne hb) (fun _ _ => rfl) (av_sL ht.1) (fun _ _ _ _ _ _ _ _ _ _ _ _ _ _ _ _ _ hx hb hK hH w => W.last hx hb (hH.arr ht.1 (by decide) (by decide)).2 ((hK.2.1 23 (by decide) (by decide)).1 _ _) (fun q => by cases q) (inb_arr ht.2) rfl rfl dd w) (kk _)
theorem ka_obj {t : Nat} (h0 : 24 ≤ t) (h1 : t < 27) : ka_y t = .object (kc_N (ka_c t)) ∧ 0 < ka_c t ∧ ka_c t < 14 := by
  rcases (show t = 24 ∨ t = 25 ∨ t = 26 by omega) with rfl | rfl | rfl <;> exact ⟨rfl, by decide, by decide⟩
theorem g_aast {a t v : Nat} {i : Int32} {K : Hp → Option (ρ × Hp)} (h0 : 24 ≤ t) (h1 : t < 27) (dd : decode (mi_c I) pc = .ok (.aastore, 1)) (kk : ∀ h1, G rv I d (pc + 1) lv st h1 (K h1)) : G rv I d pc lv (.ref v :: .int i :: .ref a :: st) h (wR t h a i v K) :=
  G_gd fun ht => G_st (w' := .ref v) (by omega) h1 ht.1 ht.2.1 (h' := hp_sR h a (ix i) (some v)) rfl rfl rfl rfl rfl (fun _ _ => rfl) (fun _ _ => rfl) (fun b hb => up2_ne hb) (av_sR (by rw [ht.1]; exact h0)) (fun g p l e R s m args below meth c H locs cells slots Q ls hx hb hK hH w => by
    obtain ⟨ey, t0, t1⟩ := ka_obj h0 h1
    obtain ⟨-, cellV, g1, g2, g3, -⟩ := hH.cell ht.2.2 t0 t1
    have hcls := (hK.1 (ka_c t) t0 t1).2
    have hra := (hK.2.1 t (by omega) h1).2
    rw [ey] at hra
    obtain ⟨kA, comp, k1, k2, k3, -⟩ := hra
    have hcomp : comp = gC g (ka_c t) := Option.some.inj (k3.symm.trans hcls.1)
    subst hcomp
    obtain ⟨kC, hkC, -⟩ := hcls.2
    have hin := ht.2.1
    exact W.aast hx hb (hH.arr ht.1 (by omega) h1).2 (fun q h => by cases h) (fun h => by cases h) k1 k2 rfl hkC ⟨fun q => hin (Or.inl q), by rw [arrV_size]; exact Nat.not_le.mp fun q => hin (Or.inr q)⟩ g1 (fun q h => by rw [g3] at h; cases h) (by rw [g2]; exact hkC) (by rw [g2]; exact va_assign hcls) rfl rfl dd w) (kk _)
end GRB
