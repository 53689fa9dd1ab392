/-! L3: what both laws of a text mean -/
def lwv (W : Nat → Int) (l : List Nat) : Int := match ev W l [] with
  | some [v] => v
  | _ => 0
def Wd (t f kd k1 k2 b : Nat) : Nat → Int := fun j => match j with
  | 0 => t | 1 => f | 2 => kd | 3 => k1 | 4 => k2 | 5 => b | _ => 0
theorem Wd_b {t f kd k1 k2 b : Nat} (h : t < 1000 ∧ f < 1000 ∧ kd < 1000 ∧ k1 < 1000 ∧ k2 < 1000 ∧ b < 1000) : WB (Wd t f kd k1 k2 b) := by
  obtain ⟨h1, h2, h3, h4, h5, h6⟩ := h
  intro j
  match j with
  | 0 => show -1000000 ≤ (t : Int) ∧ (t : Int) ≤ 1000000; omega
  | 1 => show -1000000 ≤ (f : Int) ∧ (f : Int) ≤ 1000000; omega
  | 2 => show -1000000 ≤ (kd : Int) ∧ (kd : Int) ≤ 1000000; omega
  | 3 => show -1000000 ≤ (k1 : Int) ∧ (k1 : Int) ≤ 1000000; omega
  | 4 => show -1000000 ≤ (k2 : Int) ∧ (k2 : Int) ≤ 1000000; omega
  | 5 => show -1000000 ≤ (b : Int) ∧ (b : Int) ≤ 1000000; omega
  | _ + 6 => show -1000000 ≤ (0 : Int) ∧ (0 : Int) ≤ 1000000; omega
theorem Wd_z {t f kd k1 k2 b : Nat} (h : t < 1000 ∧ f < 1000 ∧ kd < 1000 ∧ k1 < 1000 ∧ k2 < 1000 ∧ b < 1000) {j : Nat} (hj : j < 6) : zI (Wd t f kd k1 k2 b j) = wd t f (nI kd) k1 k2 b j := by
  obtain ⟨h1, h2, h3, h4, h5, h6⟩ := h
  match j with
  | 0 => exact zI_n h1
  | 1 => exact zI_n h2
  | 2 => exact zI_n h3
  | 3 => exact zI_n h4
  | 4 => exact zI_n h5
  | 5 => exact zI_n h6
  | _ + 6 => omega
/-- a law's codes: none, or such as push one number -/
def LK (may : Nat) (l : List Nat) : Prop := l = [] ∨ (Sem may 36 (may = 1) l ∧ Val l)
theorem LK.v {may : Nat} {l : List Nat} (k : LK may l) (h : l ≠ []) {W : Nat → Int} (wb : WB W) : ev W l [] = some [lwv W l] ∧ BD (lwv W l) ∧ (may = 1 → lwv W l = 0 ∨ lwv W l = 1) ∧ ∀ W', WB W' → (∀ j, (may = 1 ∧ j = 5) ∨ W' j = W j) → lwv W' l = lwv W l := by
  rcases k with k | ⟨k, -⟩
  · exact absurd k h
  have one : ∀ W0 v, ev W0 l [] = some [v] → lwv W0 l = v := fun W0 v e => by
    unfold lwv
    rw [e]
  obtain ⟨v, v1, -, v3, v4⟩ := k W W [] wb wb (fun j => Or.inr rfl) (by decide)
  have e := one W v v1
  refine ⟨by rw [e]; exact v1, by rw [e]; exact v3, fun z => by rw [e]; exact v4 z, fun W' wb' hw => ?_⟩
  obtain ⟨u, u1, u2, -, -⟩ := k W W' [] wb wb' hw (by decide)
  rw [one W' u u2, one W u u1]
/-- what comes by a telling, of kinds and both laws -/
def hmc (ks : Nat → Nat) (lc lm : List Nat) (b t f k1 k2 : Nat) : Option Nat := if lm = [] ∨ lwv (Wd t f (ks f) k1 k2 b) lm = 1 then some (if lc = [] then 2 else clc (zI (lwv (Wd t f (ks f) k1 k2 b) lc))) else none
theorem hmc_lt {ks : Nat → Nat} {lc lm : List Nat} {b t f k1 k2 v : Nat} (h : hmc ks lc lm b t f k1 k2 = some v) : v < 4 := by
  unfold hmc at h
  by_cases z : lm = [] ∨ lwv (Wd t f (ks f) k1 k2 b) lm = 1
  · rw [if_pos z] at h
    injection h with h
    rw [← h]
    by_cases y : lc = []
    · rw [if_pos y]; decide
    · rw [if_neg y]; exact clc_lt _
  · rw [if_neg z] at h; injection h
/-- a block holds a law -/
def BLw (A : Nat → Int32) (law fr : Nat) (l : List Nat) : Prop := (l = [] → A (3 + law) = 0) ∧ (l ≠ [] → A (3 + law) ≠ 0 ∧ A (5 + law) = nI fr ∧ A (7 + law) = nI l.length ∧ fr + l.length ≤ 900 ∧ ∀ j, j < l.length → A (144 + fr + j) = nI (l.getD j 0))
theorem FQ.ci5 {m : Nat} {h h' : Hp} (f : FQ (m + 5) h h') : CI m [5] h h' := ⟨f.1, ⟨f.2.1, fun j _ => by rw [f.2.2 m (by omega)]⟩, fun y hy => f.2.2 y (hy 5 (by decide))⟩
theorem LV_of {A : Nat → Int32} {law fr : Nat} {l : List Nat} (hl : law < 2) (hB : BLw A law fr l) (ne : l ≠ []) (vl : Val l) {W : Nat → Int} (wb : WB W) {V : Nat → Int32} (hV : ∀ j, j < 6 → V j = zI (W j)) {v : Int} (e : ev W l [] = some [v]) : LV A law V (zI v) := by
  intro F h m hF S hA hw
  obtain ⟨-, b2, b3, b4, b5⟩ : True ∧ _ := ⟨trivial, (hB.2 ne).2⟩
  obtain ⟨h', e1, f1⟩ := rk_law F hF (h := h) (m := m) (law := law) (fr := fr) (l := l) wb hl b4 S (by rw [hA _ (by omega)]; exact b3) (by rw [hA _ (by omega)]; exact b2) (fun j hj => by rw [hA _ (by omega)]; exact b5 j hj) vl (fun j hj => by rw [hw j hj]; exact hV j hj) e
  exact ⟨h', e1, f1.ci5⟩
theorem LC_of {A : Nat → Int32} {H : HM} {ks : Nat → Nat} {lc lm : List Nat} {fc fm : Nat} (f4 : hm_f H ≤ 4) (hk : ∀ f, f < 4 → A (9 + f) = nI (ks f) ∧ ks f < 10) (bc : BLw A 0 fc lc) (bm : BLw A 1 fm lm) (kc : LK 0 lc) (km : LK 1 lm) (hc : hm_c H = hmc ks lc lm) : LC A H := by
  intro b t f k1 k2 h1 h2 h3 h4 h5
  have kf := hk f (by omega)
  have sm : t < 1000 ∧ f < 1000 ∧ ks f < 1000 ∧ k1 < 1000 ∧ k2 < 1000 ∧ b < 1000 := ⟨by omega, by omega, by omega, by omega, by omega, by omega⟩
  have wb := Wd_b sm
  rw [hc, kf.1]
  refine ⟨zI (lwv (Wd t f (ks f) k1 k2 b) lm), zI (lwv (Wd t f (ks f) k1 k2 b) lc), fun q => ?_, fun q => ?_, ?_⟩
  · have ne : lm ≠ [] := fun z => q (bm.1 z)
    rcases id km with z | ⟨-, vl⟩
    · exact absurd z ne
    · exact LV_of (by decide) bm ne vl wb (fun j hj => (Wd_z sm hj).symm) (km.v ne wb).1
  · have ne : lc ≠ [] := fun z => q (bc.1 z)
    rcases id kc with z | ⟨-, vl⟩
    · exact absurd z ne
    · exact LV_of (by decide) bc ne vl wb (fun j hj => (Wd_z sm hj).symm) (kc.v ne wb).1
  · unfold hmc
    have e3 : (if A 3 = 0 then 2 else clc (zI (lwv (Wd t f (ks f) k1 k2 b) lc))) = (if lc = [] then 2 else clc (zI (lwv (Wd t f (ks f) k1 k2 b) lc))) := by
      by_cases z : lc = []
      · rw [if_pos z, if_pos (bc.1 z)]
      · rw [if_neg z, if_neg (bc.2 z).1]
    rw [e3]
    by_cases z : lm = []
    · rw [if_pos (Or.inl z), if_pos (Or.inl (bm.1 z))]
    · have bd := (km.v z wb).2.1
      have iff1 : zI (lwv (Wd t f (ks f) k1 k2 b) lm) = 1 ↔ lwv (Wd t f (ks f) k1 k2 b) lm = 1 := zI_e (b := 1) bd ⟨by decide, by decide⟩
      by_cases y : lwv (Wd t f (ks f) k1 k2 b) lm = 1
      · rw [if_pos (Or.inr y), if_pos (Or.inr (iff1.mpr y))]
      · rw [if_neg (fun w => w.elim z y), if_neg (fun w => w.elim (bm.2 z).1 (fun u => y (iff1.mp u)))]
theorem HMn_of {H : HM} {ks : Nat → Nat} {lc lm : List Nat} (f4 : hm_f H ≤ 4) (hk : ∀ f, f < 4 → ks f < 10) (km : LK 1 lm) (hc : hm_c H = hmc ks lc lm) : HMn H := by
  intro b b' t f k1 k2 h1 h1' h2 h3 h4 h5
  have kf := hk f (by omega)
  have wb := Wd_b (t := t) (f := f) (kd := ks f) (k1 := k1) (k2 := k2) (b := b) ⟨by omega, by omega, by omega, by omega, by omega, by omega⟩
  have wb' := Wd_b (t := t) (f := f) (kd := ks f) (k1 := k1) (k2 := k2) (b := b') ⟨by omega, by omega, by omega, by omega, by omega, by omega⟩
  rw [hc]
  unfold hmc
  intro q
  by_cases z : lm = []
  · rw [if_pos (Or.inl z)] at q; injection q
  · have e := (km.v z wb).2.2.2 _ wb' (fun j => by
      match j with
      | 0 => exact Or.inr rfl
      | 1 => exact Or.inr rfl
      | 2 => exact Or.inr rfl
      | 3 => exact Or.inr rfl
      | 4 => exact Or.inr rfl
      | 5 => exact Or.inl ⟨rfl, rfl⟩
      | _ + 6 => exact Or.inr rfl)
    rw [e]
    by_cases y : lwv (Wd t f (ks f) k1 k2 b) lm = 1
    · rw [if_pos (Or.inr y)] at q; injection q
    · rw [if_neg (fun w => w.elim z y)]
