/-! L3, the two readers: walks -/
section walks
variable {F x m n may : Nat} {tp : Nat → Nat}
/-- the class's walk from σ to σ' -/
def CW (x n may : Nat) (tp : Nat → Nat) (f : Hp → Option (Unit × Hp)) (σ σ' : PS) : Prop := ∀ h0 h, hp_I h0 (x + 9) 10 = nI may → CC x n tp h0 h σ → ∃ h', f h = some ((), h') ∧ CC x n tp h0 h' σ'
def MW (m n may : Nat) (tp : Nat → Nat) (f : Hp → Option (Unit × Hp)) (σ σ' : PS) : Prop := ∀ g0 g, hp_I g0 m 15 = nI may → MM m n tp g0 g σ → ∃ g', f g = some ((), g') ∧ MM m n tp g0 g' σ'
theorem CW.fin (σ : PS) : CW x n may tp (fun h => some ((), h)) σ σ := fun _ h _ c => ⟨h, rfl, c⟩
theorem MW.fin (σ : PS) : MW m n may tp (fun h => some ((), h)) σ σ := fun _ h _ c => ⟨h, rfl, c⟩
theorem CW.seq {f k : Hp → Option (Unit × Hp)} {σ σ1 σ2 : PS} (a : CW x n may tp f σ σ1) (b : CW x n may tp k σ1 σ2) : CW x n may tp (fun h => cV 6 h (x + 9) (f h) fun _ h' => k h') σ σ2 := fun h0 h hm c => by
  obtain ⟨h1, e1, c1⟩ := a h0 h hm c
  show ∃ h', (cV 6 h (x + 9) (f h) fun _ h' => k h') = _ ∧ _
  rw [cV_n c.tg e1]
  exact b h0 h1 hm c1
theorem MW.seq {f k : Hp → Option (Unit × Hp)} {σ σ1 σ2 : PS} (a : MW m n may tp f σ σ1) (b : MW m n may tp k σ1 σ2) : MW m n may tp (fun h => cV 13 h m (f h) fun _ h' => k h') σ σ2 := fun h0 h hm c => by
  obtain ⟨h1, e1, c1⟩ := a h0 h hm c
  show ∃ h', (cV 13 h m (f h) fun _ h' => k h') = _ ∧ _
  rw [cV_n c.tg e1]
  exact b h0 h1 hm c1
theorem CW.adv (hF : 2000 ≤ F) {A : Nat} {ls : List Nat} (pk : Pok n tp (.inl (A, ls))) : CW x n may tp (fun h => f_X5_advance F (x + 9) h) (.inl (A, ls)) (nx tp n A ls) := fun _ _ _ c => C_adv F hF c pk
theorem MW.adv (hF : 2000 ≤ F) {A : Nat} {ls : List Nat} (pk : Pok n tp (.inl (A, ls))) : MW m n may tp (fun h => f_X12_next F m h) (.inl (A, ls)) (nx tp n A ls) := fun _ _ _ c => M_adv F hF c pk
theorem CW.fail (k : Nat) {lit : Int32} (hl : nI k = lit) {σ : PS} (pk : Pok n tp σ) : CW x n may tp (fun h => f_X5_fail F (x + 9) lit h) σ (flt k σ) := fun _ _ _ c => by rw [← hl]; exact C_fail F c pk
theorem MW.fail (k : Nat) {lit : Int32} (hl : nI k = lit) (hk : 0 < k ∧ k < 5) {σ : PS} (pk : Pok n tp σ) : MW m n may tp (fun h => f_X12_fails F m lit h) σ (flt k σ) := fun _ _ _ c => by rw [← hl]; exact M_fail F hk c pk
theorem CW.take (hF : 2000 ≤ F) (K : Nat) {lit : Int32} (hl : ctk K = lit) (hK : kok K = true ∧ K ≠ 25) {σ : PS} (pk : Pok n tp σ) : CW x n may tp (fun h => f_X5_take F (x + 9) lit h) σ (tkn tp n K σ) := fun _ _ _ c => by rw [← hl]; exact C_take F hF hK c pk
theorem MW.take (hF : 2000 ≤ F) (K : Nat) {lit : Int32} (hl : nI K = lit) (hK : kok K = true ∧ K ≠ 25) {σ σ' : PS} (pk : Pok n tp σ) {k : Hp → Option (Unit × Hp)} (b : MW m n may tp k (tkn tp n K σ) σ') : MW m n may tp (fun h => cV 13 h m (f_X12_eats F m lit h) fun v h2 => if v = 0 then (cV 13 h2 m (f_X12_fails F m 2 h2) fun _ h5 => k h5) else k h2) σ σ' := fun g0 g hm c => by
  obtain ⟨g1, c1, e1⟩ := M_take F hF hK c pk
  rw [← hl]
  obtain ⟨g2, e2, c2⟩ := b g0 g1 hm c1
  exact ⟨g2, by rw [← e2]; exact e1 k, c2⟩
theorem CW.yes (K : Nat) {lit : Int32} (hl : ctk K = lit) (hK : kok K = true) {σ σ' : PS} (z : kin tp n σ = K) {a b : Hp → Option (Unit × Hp)} (w : CW x n may tp a σ σ') : CW x n may tp (fun h => gI 6 h (x + 9) 6 fun v => if v = lit then a h else b h) σ σ' := fun h0 h hm c => by
  obtain ⟨h', e, c'⟩ := w h0 h hm c
  refine ⟨h', ?_, c'⟩
  show (gI 6 h (x + 9) 6 fun v => if v = lit then a h else b h) = _
  rw [gI_n c.tg, ← hl, if_pos ((C_is c hK).mpr z)]
  exact e
theorem CW.no (K : Nat) {lit : Int32} (hl : ctk K = lit) (hK : kok K = true) {σ σ' : PS} (z : kin tp n σ ≠ K) {a b : Hp → Option (Unit × Hp)} (w : CW x n may tp b σ σ') : CW x n may tp (fun h => gI 6 h (x + 9) 6 fun v => if v = lit then a h else b h) σ σ' := fun h0 h hm c => by
  obtain ⟨h', e, c'⟩ := w h0 h hm c
  refine ⟨h', ?_, c'⟩
  show (gI 6 h (x + 9) 6 fun v => if v = lit then a h else b h) = _
  rw [gI_n c.tg, ← hl, if_neg (fun y => z ((C_is c hK).mp y))]
  exact e
theorem MW.yes (K : Nat) {lit : Int32} (hl : nI K = lit) (hK : kok K = true ∧ K ≠ 25) {σ σ' : PS} (pk : Pok n tp σ) (z : kin tp n σ = K) {a b : Hp → Option (Unit × Hp)} (w : MW m n may tp a σ σ') : MW m n may tp (fun h => cV 13 h m (f_X12_is F m lit h) fun v h2 => if v = 0 then b h2 else a h2) σ σ' := fun h0 h hm c => by
  obtain ⟨h', e, c'⟩ := w h0 h hm c
  refine ⟨h', ?_, c'⟩
  show (cV 13 h m (f_X12_is F m lit h) fun v h2 => if v = 0 then b h2 else a h2) = _
  rw [← hl, cV_n c.tg (M_is F hK c pk), if_pos z, if_neg (show ¬ (1 : Int32) = 0 by decide)]
  exact e
theorem MW.no (K : Nat) {lit : Int32} (hl : nI K = lit) (hK : kok K = true ∧ K ≠ 25) {σ σ' : PS} (pk : Pok n tp σ) (z : kin tp n σ ≠ K) {a b : Hp → Option (Unit × Hp)} (w : MW m n may tp b σ σ') : MW m n may tp (fun h => cV 13 h m (f_X12_is F m lit h) fun v h2 => if v = 0 then b h2 else a h2) σ σ' := fun h0 h hm c => by
  obtain ⟨h', e, c'⟩ := w h0 h hm c
  refine ⟨h', ?_, c'⟩
  show (cV 13 h m (f_X12_is F m lit h) fun v h2 => if v = 0 then b h2 else a h2) = _
  rw [← hl, cV_n c.tg (M_is F hK c pk), if_neg z, if_pos rfl]
  exact e
theorem MW.eat (hF : 2000 ≤ F) (K : Nat) {lit : Int32} (hl : nI K = lit) (hK : kok K = true ∧ K ≠ 25) {σ σ' : PS} (pk : Pok n tp σ) (z : kin tp n σ = K) {a b : Hp → Option (Unit × Hp)} (w : MW m n may tp a (tkn tp n K σ) σ') : MW m n may tp (fun h => cV 13 h m (f_X12_eats F m lit h) fun v h2 => if v = 0 then b h2 else a h2) σ σ' := fun h0 h hm c => by
  rcases M_eats F hF hK c pk with ⟨-, g1, e1, c1⟩ | ⟨y, -⟩
  · obtain ⟨h', e, c'⟩ := w h0 g1 hm c1
    refine ⟨h', ?_, c'⟩
    show (cV 13 h m (f_X12_eats F m lit h) fun v h2 => if v = 0 then b h2 else a h2) = _
    rw [← hl, cV_n c.tg e1, if_neg (show ¬ (1 : Int32) = 0 by decide)]
    exact e
  · exact absurd z y
theorem MW.eatn (hF : 2000 ≤ F) (K : Nat) {lit : Int32} (hl : nI K = lit) (hK : kok K = true ∧ K ≠ 25) {σ σ' : PS} (pk : Pok n tp σ) (z : kin tp n σ ≠ K) {a b : Hp → Option (Unit × Hp)} (w : MW m n may tp b σ σ') : MW m n may tp (fun h => cV 13 h m (f_X12_eats F m lit h) fun v h2 => if v = 0 then b h2 else a h2) σ σ' := fun h0 h hm c => by
  rcases M_eats F hF hK c pk with ⟨y, -⟩ | ⟨-, e1⟩
  · exact absurd y z
  · obtain ⟨h', e, c'⟩ := w h0 h hm c
    refine ⟨h', ?_, c'⟩
    show (cV 13 h m (f_X12_eats F m lit h) fun v h2 => if v = 0 then b h2 else a h2) = _
    rw [← hl, cV_n c.tg e1, if_pos rfl]
    exact e
theorem CW.add (r : Nat) {lit : Int32} (hl : nI (ccd r) = lit) {σ σ' : PS} (hc : cnt σ < 900) {k : Hp → Option (Unit × Hp)} (b : CW x n may tp k (addp r σ) σ') : CW x n may tp (fun h => gR 6 h (x + 9) 9 fun v => cV 4 h v (f_X3_add F v lit h) fun _ h' => k h') σ σ' := fun h0 h hm c => by
  obtain ⟨h1, e1, c1⟩ := C_add F (r := r) c hc
  obtain ⟨h', e, c'⟩ := b h0 h1 hm c1
  refine ⟨h', ?_, c'⟩
  show (gR 6 h (x + 9) 9 fun v => cV 4 h v (f_X3_add F v lit h) fun _ h' => k h') = _
  rw [c.1.g 6 9 9 11 (by decide), ← hl, cV_n (c.1.t 11 4 (by decide)) e1]
  exact e
theorem MW.codes (r : Nat) {lit : Int32} (hl : nI r = lit) {σ : PS} (pk : Pok n tp σ) (hc : cnt σ < 900) : MW m n may tp (fun h => f_X12_codes F m lit h) σ (addp r σ) := fun _ _ _ c => by rw [← hl]; exact M_codes F c pk hc
/-- opening: d is below six -/
theorem CW.opens (hF : 2000 ≤ F) {A d : Nat} {ls : List Nat} (hd : d < 6) (pk : Pok n tp (.inl (A, ls))) {σ' : PS} {a b : Hp → Option (Unit × Hp)} (w : CW x n may tp b (nx tp n A ls) σ') : CW x n may tp (fun h => cV 6 h (x + 9) (f_X5_opens F (x + 9) (nI d) h) fun v h' => if v = 0 then a h' else b h') (.inl (A, ls)) σ' := fun h0 h hm c => by
  obtain ⟨h1, e1, c1⟩ := C_opens F hF (show d ≤ 6 by omega) c pk
  rw [if_pos hd] at e1 c1
  obtain ⟨h', e, c'⟩ := w h0 h1 hm c1
  refine ⟨h', ?_, c'⟩
  show (cV 6 h (x + 9) (f_X5_opens F (x + 9) (nI d) h) fun v h' => if v = 0 then a h' else b h') = _
  rw [cV_n c.tg e1, if_neg (show ¬ (1 : Int32) = 0 by decide)]
  exact e
theorem CW.shut (hF : 2000 ≤ F) {A : Nat} {ls : List Nat} (pk : Pok n tp (.inl (A, ls))) {b : Hp → Option (Unit × Hp)} : CW x n may tp (fun h => cV 6 h (x + 9) (f_X5_opens F (x + 9) (nI 6) h) fun v h' => if v = 0 then some ((), h') else b h') (.inl (A, ls)) (.inr (4, A, ls.length)) := fun h0 h hm c => by
  obtain ⟨h1, e1, c1⟩ := C_opens F hF (show 6 ≤ 6 by omega) c pk
  rw [if_neg (by decide)] at e1 c1
  refine ⟨h1, ?_, c1⟩
  show (cV 6 h (x + 9) (f_X5_opens F (x + 9) (nI 6) h) fun v h' => if v = 0 then some ((), h') else b h') = _
  rw [cV_n c.tg e1, if_pos rfl]
theorem MW.opens (hF : 2000 ≤ F) {A d : Nat} {ls : List Nat} (hd : d < 6) (pk : Pok n tp (.inl (A, ls))) {σ' : PS} {a b : Hp → Option (Unit × Hp)} (w : MW m n may tp b (nx tp n A ls) σ') : MW m n may tp (fun h => cV 13 h m (f_X12_goesIn F m (nI d) h) fun v h' => if v = 0 then a h' else b h') (.inl (A, ls)) σ' := fun h0 h hm c => by
  obtain ⟨h1, e1, c1⟩ := M_goesIn F hF (show d ≤ 6 by omega) c pk
  rw [if_pos hd] at e1 c1
  obtain ⟨h', e, c'⟩ := w h0 h1 hm c1
  refine ⟨h', ?_, c'⟩
  show (cV 13 h m (f_X12_goesIn F m (nI d) h) fun v h' => if v = 0 then a h' else b h') = _
  rw [cV_n c.tg e1, if_neg (show ¬ (1 : Int32) = 0 by decide)]
  exact e
theorem MW.shut (hF : 2000 ≤ F) {A : Nat} {ls : List Nat} (pk : Pok n tp (.inl (A, ls))) {b : Hp → Option (Unit × Hp)} : MW m n may tp (fun h => cV 13 h m (f_X12_goesIn F m (nI 6) h) fun v h' => if v = 0 then some ((), h') else b h') (.inl (A, ls)) (.inr (4, A, ls.length)) := fun h0 h hm c => by
  obtain ⟨h1, e1, c1⟩ := M_goesIn F hF (show 6 ≤ 6 by omega) c pk
  rw [if_neg (by decide)] at e1 c1
  refine ⟨h1, ?_, c1⟩
  show (cV 13 h m (f_X12_goesIn F m (nI 6) h) fun v h' => if v = 0 then some ((), h') else b h') = _
  rw [cV_n c.tg e1, if_pos rfl]
end walks
