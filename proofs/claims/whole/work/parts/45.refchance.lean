/-! L3: chances -/
/-- behind a telling, or where it can't be, the same -/
def tdy (H : HM) (b s t f : Nat) : Nat := match tld H b s t f with
  | none => dy s
  | some u => dy u
def lk (H : HM) (b t d : Nat) : Nat → Nat → Nat
  | 0, s => b2 (dse H s t d)
  | n + 1, s => if hm_f H = 0 then lk H b t d n (dy s) else sfr (fun w => sfr (fun f => lk H b t d n (tdy H b s w f)) 0 (hm_f H)) 0 2
theorem tdy_ok {H : HM} (hH : HMok H) {b s t f : Nat} (hs : STok H s) (ht : t < 2) (hf : f < hm_f H) : STok H (tdy H b s t f) := by
  unfold tdy tld
  cases hc : tel H b s t f with
  | none => exact hs.dy
  | some c => exact (tos_ok hs ht hf hH.1 (hH.2.2.2.2.1 _ _ _ _ _ _ hc)).dy
theorem lk_le {H : HM} (hH : HMok H) (b t d : Nat) : ∀ n s, lk H b t d n s ≤ 8 ^ n := by
  have h4 := hH.1
  intro n
  induction n with
  | zero => intro s; show b2 _ ≤ 1; unfold b2; split <;> omega
  | succ n ih =>
    intro s
    unfold lk
    rw [Nat.pow_succ]
    split
    · have := ih (dy s); omega
    · refine Nat.le_trans (sfr_le (g := fun _ => 4 * 8 ^ n) 2 0 (fun w _ _ => ?_)) ?_
      · refine Nat.le_trans (sfr_le (g := fun _ => 8 ^ n) (hm_f H) 0 (fun f _ _ => ih _)) ?_
        rw [sfr_c1]
        exact Nat.mul_le_mul_right _ h4
      · rw [sfr_c1]; omega
theorem rc_likely60 (F : Nat) (hF : 2000 ≤ F) {m : Nat} {H : HM} {s0 b t d n0 : Nat} (Rc : Nat → Nat → Int32 → Int32 → Int32 → Int32 → Hp → Option (Int32 × Hp)) (hRc : ∀ (h : Hp) (s : Nat), RS h m H s0 b → STok H s → ∃ h', Rc 0 m (nI s) (nI t) (nI d) (nI n0) h = some (nI (lk H b t d n0 s), h') ∧ CI m [5, 6] h h') {s w : Nat} (hs : STok H s) (hw : w < 2) (K : Nat → Int32 → Int32 → Int32 → Int32 → Int32 → Int32 → Hp → Option (Int32 × Hp)) : ∀ q k n (h : Hp) (a : Nat), RS h m H s0 b → k + q = hm_f H → q < n → ∃ h', f_X12_likelyFrom_60 F Rc K n m (nI s) (nI t) (nI d) (nI (n0 + 1)) (nI a) (nI w) (nI k) h = K m (nI s) (nI t) (nI d) (nI (n0 + 1)) (nI (a + sfr (fun f => lk H b t d n0 (tdy H b s w f)) k q)) (nI (w + 1)) h' ∧ CI m [5, 6] h h' := by
  intro q
  induction q with
  | zero =>
    intro k n h a rs hk hn
    obtain ⟨n, rfl⟩ : ∃ j, n = j + 1 := ⟨n - 1, by omega⟩
    have f4 := rs.f4
    show ∃ h', f_X12_likelyFrom_60_b F Rc K (f_X12_likelyFrom_60 F Rc K n) m _ _ _ _ _ _ (nI k) h = _ ∧ _
    unfold f_X12_likelyFrom_60_b
    rw [rs.1.g 1 1 (by decide) rfl, rs.1.a 1 1 (show (1 : Int32) = nI 1 from rfl) (by decide) (by decide), rs.fc, if_pos (nI_le (by omega) (by omega)), nI_1]
    exact ⟨h, rfl, CI.rf _ _ _⟩
  | succ q ih =>
    intro k n h a rs hk hn
    obtain ⟨n, rfl⟩ : ∃ j, n = j + 1 := ⟨n - 1, by omega⟩
    have f4 := rs.f4
    have hkf : k < hm_f H := by omega
    have tail : ∀ (h1 : Hp) (u : Nat), RS h1 m H s0 b → STok H u → dy u = tdy H b s w k → ∃ h', f_X12_likelyFrom_99 F Rc K (f_X12_likelyFrom_60 F Rc K n) m (nI s) (nI t) (nI d) (nI (n0 + 1)) (nI w) (nI k) (nI u) m (nI a) h1 = K m (nI s) (nI t) (nI d) (nI (n0 + 1)) (nI (a + (lk H b t d n0 (tdy H b s w k) + sfr (fun f => lk H b t d n0 (tdy H b s w f)) (k + 1) q))) (nI (w + 1)) h' ∧ CI m [5, 6] h1 h' := by
      intro h1 u r1 hu e
      unfold f_X12_likelyFrom_99
      obtain ⟨h2, e2, c2⟩ := hRc h1 (dy u) r1 hu.dy
      rw [bd_n (rc_dayTo F (by omega) hu.1 h1), show nI (n0 + 1) - 1 = nI n0 from (pk_sub (a := n0 + 1) (b := 1) (by omega)).trans (by congr 1), cV_n r1.1.1 e2, lt_e, nI_add, nI_1, e]
      obtain ⟨h', e', c'⟩ := ih (k + 1) n h2 (a + lk H b t d n0 (tdy H b s w k)) (r1.ci c2 (by decide)) (by omega) (by omega)
      refine ⟨h', ?_, c2.tr c'⟩
      rw [e', Nat.add_assoc]
    obtain ⟨h2, e2, c2⟩ := rc_mayTell F hF rs.1 rs.2.1 rs.2.2.1 rs.2.2.2.1 rs.2.2.2.2.2 hs hw hkf
    have r2 := rs.ci c2 (by decide)
    show ∃ h', f_X12_likelyFrom_60_b F Rc K (f_X12_likelyFrom_60 F Rc K n) m _ _ _ _ _ _ (nI k) h = _ ∧ _
    unfold f_X12_likelyFrom_60_b
    rw [rs.1.g 1 1 (by decide) rfl, rs.1.a 1 1 (show (1 : Int32) = nI 1 from rfl) (by decide) (by decide), rs.fc, if_neg (nI_ge (by omega) (by omega)), cV_n rs.1.1 e2]
    cases ht : tel H b s w k with
    | none =>
      rw [if_pos (bsm0 rfl)]
      obtain ⟨h', e, c⟩ := tail h2 s r2 hs (by unfold tdy tld; rw [ht]; rfl)
      exact ⟨h', e, c2.tr c⟩
    | some c =>
      obtain ⟨h3, e3, c3⟩ := rc_toldTo F hF r2.1 r2.2.1 r2.2.2.1 r2.2.2.2.1 r2.2.2.2.2.2 hs hw hkf ht
      rw [if_neg (bsm1 rfl), cV_n r2.1.1 e3]
      obtain ⟨h', e, c'⟩ := tail h3 (tos s w k c) (r2.ci c3 (by decide)) (tos_ok hs hw hkf f4 (rs.2.1.2.2.2.2.1 _ _ _ _ _ _ ht)) (by unfold tdy tld; rw [ht]; rfl)
      exact ⟨h', e, (c2.tr c3).tr c'⟩
theorem rc_likely_r (F : Nat) (hF : 2000 ≤ F) {m : Nat} {H : HM} {s0 b t d : Nat} (ht : t < 2) (hd : d < 6) : ∀ n D (h : Hp) (s : Nat), n < D → RS h m H s0 b → STok H s → n < 100 → ∃ h', f_grp_X12_likelyFrom F D 0 m (nI s) (nI t) (nI d) (nI n) h = some (nI (lk H b t d n s), h') ∧ CI m [5, 6] h h' := by
  intro n
  induction n with
  | zero =>
    intro D h s hD rs hs _
    obtain ⟨D, rfl⟩ : ∃ j, D = j + 1 := ⟨D - 1, by omega⟩
    show ∃ h', f_X12_likelyFrom_w F (f_grp_X12_likelyFrom F D) m (nI s) (nI t) (nI d) (nI 0) h = _ ∧ _
    unfold f_X12_likelyFrom_w
    rw [if_pos (show nI 0 = 0 from rfl), cV_n rs.1.1 (rc_doesIn F (by omega) rs.1 rs.2.1 rs.2.2.1 hs.1 ht hd)]
    refine ⟨h, ?_, CI.rf _ _ _⟩
    show _ = some (nI (b2 (dse H s t d)), h)
    cases dse H s t d <;> rfl
  | succ n ih =>
    intro D h s hD rs hs hn
    obtain ⟨D, rfl⟩ : ∃ j, D = j + 1 := ⟨D - 1, by omega⟩
    have f4 := rs.f4
    have hRc : ∀ (h : Hp) (s : Nat), RS h m H s0 b → STok H s → ∃ h', f_grp_X12_likelyFrom F D 0 m (nI s) (nI t) (nI d) (nI n) h = some (nI (lk H b t d n s), h') ∧ CI m [5, 6] h h' := fun h s r hs => ih D h s (by omega) r hs (by omega)
    show ∃ h', f_X12_likelyFrom_w F (f_grp_X12_likelyFrom F D) m (nI s) (nI t) (nI d) (nI (n + 1)) h = some (nI (if hm_f H = 0 then lk H b t d n (dy s) else sfr (fun w => sfr (fun f => lk H b t d n (tdy H b s w f)) 0 (hm_f H)) 0 2), h') ∧ _
    unfold f_X12_likelyFrom_w
    rw [if_neg (nI_ne0 (by omega) (by omega)), rs.1.g 1 1 (by decide) rfl, rs.1.a 1 1 (show (1 : Int32) = nI 1 from rfl) (by decide) (by decide), rs.fc]
    by_cases z : hm_f H = 0
    · obtain ⟨h', e, c⟩ := hRc h (dy s) rs hs.dy
      rw [if_pos (show nI _ = 0 by rw [z]; rfl), if_pos z, bd_n (rc_dayTo F (by omega) hs.1 h), show nI (n + 1) - 1 = nI n from (pk_sub (a := n + 1) (b := 1) (by omega)).trans (by congr 1), cV_n rs.1.1 e]
      exact ⟨h', rfl, c⟩
    · rw [if_neg (nI_ne0 (by omega) (by omega)), if_neg z]
      obtain ⟨F', hF'⟩ : ∃ G, F = G + 1 + 1 + 1 := ⟨F - 3, by omega⟩
      have st : ∀ G (w a : Nat) (h : Hp), RS h m H s0 b → w < 2 → ∃ h', f_X12_likelyFrom_51 F (f_grp_X12_likelyFrom F D) (G + 1) m (nI s) (nI t) (nI d) (nI (n + 1)) (nI a) (nI w) h = f_X12_likelyFrom_51 F (f_grp_X12_likelyFrom F D) G m (nI s) (nI t) (nI d) (nI (n + 1)) (nI (a + sfr (fun f => lk H b t d n (tdy H b s w f)) 0 (hm_f H))) (nI (w + 1)) h' ∧ CI m [5, 6] h h' := by
        intro G w a h r hw
        obtain ⟨h', e, c⟩ := rc_likely60 F hF (f_grp_X12_likelyFrom F D) hRc hs hw (f_X12_likelyFrom_51 F (f_grp_X12_likelyFrom F D) G) (hm_f H) 0 F h a r (by omega) (by omega)
        refine ⟨h', ?_, c⟩
        show f_X12_likelyFrom_51_b F _ _ m _ _ _ _ _ _ h = _
        unfold f_X12_likelyFrom_51_b
        rw [if_neg (show ¬ (2 : Int32) ≤ nI w from i_ge (a := 2) (by omega) (by decide))]
        exact e
      rw [show f_X12_likelyFrom_51 F (f_grp_X12_likelyFrom F D) F m (nI s) (nI t) (nI d) (nI (n + 1)) 0 0 h = f_X12_likelyFrom_51 F (f_grp_X12_likelyFrom F D) (F' + 1 + 1 + 1) m (nI s) (nI t) (nI d) (nI (n + 1)) (nI 0) (nI 0) h by rw [← hF']; rfl]
      obtain ⟨h1, e1, c1⟩ := st (F' + 1 + 1) 0 0 h rs (by omega)
      obtain ⟨h2, e2, c2⟩ := st (F' + 1) 1 (0 + sfr (fun f => lk H b t d n (tdy H b s 0 f)) 0 (hm_f H)) h1 (rs.ci c1 (by decide)) (by omega)
      rw [e1, e2]
      refine ⟨h2, ?_, c1.tr c2⟩
      show f_X12_likelyFrom_51_b F _ _ m _ _ _ _ _ (nI 2) h2 = _
      unfold f_X12_likelyFrom_51_b
      rw [if_pos (show (2 : Int32) ≤ nI 2 by decide)]
      have e2s : sfr (fun w => sfr (fun f => lk H b t d n (tdy H b s w f)) 0 (hm_f H)) 0 2 = 0 + sfr (fun f => lk H b t d n (tdy H b s 0 f)) 0 (hm_f H) + sfr (fun f => lk H b t d n (tdy H b s 1 f)) 0 (hm_f H) := by
        show sfr (fun f => lk H b t d n (tdy H b s 0 f)) 0 (hm_f H) + (sfr (fun f => lk H b t d n (tdy H b s 1 f)) 0 (hm_f H) + 0) = _
        omega
      rw [e2s]
theorem rc_likelyFrom (F : Nat) (hF : 2000 ≤ F) {m : Nat} {H : HM} {s b t d n : Nat} {h : Hp} (rs : RS h m H s b) (ht : t < 2) (hd : d < 6) (hn : n ≤ 4) : ∃ h', f_X12_likelyFrom F m (nI s) (nI t) (nI d) (nI n) h = some (nI (lk H b t d n s), h') ∧ CI m [5, 6] h h' := by
  unfold f_X12_likelyFrom
  exact rc_likely_r F hF ht hd n 8 h s (by omega) rs rs.2.2.2.2.1 (by omega)
theorem rc_common_r (F : Nat) (h : Hp) : ∀ j x y D, y < 2 ^ j → x < 2 ^ 31 → j ≤ 30 → 2 * j + 2 ≤ D → f_grp_X12_common F D 0 (nI x) (nI y) h = some (nI (Nat.gcd x y), h) := by
  have zero : ∀ x D, 1 ≤ D → f_grp_X12_common F D 0 (nI x) (nI 0) h = some (nI (Nat.gcd x 0), h) := by
    intro x D hD
    obtain ⟨D, rfl⟩ : ∃ j, D = j + 1 := ⟨D - 1, by omega⟩
    show f_X12_common_w F (f_grp_X12_common F D) (nI x) (nI 0) h = _
    unfold f_X12_common_w
    rw [if_pos (show nI 0 = 0 from rfl), Nat.gcd_zero_right]
  have step : ∀ x y D, 0 < y → y < 2 ^ 31 → x < 2 ^ 31 → f_grp_X12_common F D 0 (nI y) (nI (x % y)) h = some (nI (Nat.gcd y (x % y)), h) → f_grp_X12_common F (D + 1) 0 (nI x) (nI y) h = some (nI (Nat.gcd x y), h) := by
    intro x y D h1 h2 h3 h4
    show f_X12_common_w F (f_grp_X12_common F D) (nI x) (nI y) h = _
    unfold f_X12_common_w
    rw [if_neg (nI_ne0 h1 h2), gd_t (nI_ne0 h1 h2), pk_rem h3 h1 h2, bd_n h4]
    rw [Nat.gcd_comm y (x % y), ← Nat.gcd_rec, Nat.gcd_comm]
  intro j
  induction j with
  | zero =>
    intro x y D hy hx _ hD
    have : y = 0 := by simp at hy; exact hy
    subst this
    exact zero x D (by omega)
  | succ j ih =>
    intro x y D hy hx hj hD
    have hp : 2 ^ (j + 1) ≤ 2 ^ 30 := Nat.pow_le_pow_right (by decide) hj
    have hps : 2 ^ (j + 1) = 2 * 2 ^ j := by rw [Nat.pow_succ]; omega
    by_cases z : y = 0
    · subst z; exact zero x D (by omega)
    · obtain ⟨D, rfl⟩ : ∃ j, D = j + 1 + 1 := ⟨D - 2, by omega⟩
      refine step x y (D + 1) (by omega) (by omega) hx ?_
      have hr := Nat.mod_lt x (show 0 < y by omega)
      by_cases z2 : x % y = 0
      · rw [z2]; exact zero y (D + 1) (by omega)
      · refine step y (x % y) D (by omega) (by omega) (by omega) ?_
        refine ih (x % y) (y % (x % y)) D ?_ (by omega) (by omega) (by omega)
        have h1 := Nat.mod_lt y (show 0 < x % y by omega)
        have h2 := Nat.div_add_mod y (x % y)
        have h3 : 1 ≤ y / (x % y) := (Nat.le_div_iff_mul_le (by omega)).mpr (by omega)
        have h4 : x % y ≤ (x % y) * (y / (x % y)) := Nat.le_mul_of_pos_right _ (by omega)
        omega
theorem rc_common (F : Nat) {x y : Nat} (hy : y < 2 ^ 30) (hx : x < 2 ^ 31) (h : Hp) : f_X12_common F (nI x) (nI y) h = some (nI (Nat.gcd x y), h) := by
  unfold f_X12_common
  exact rc_common_r F h 30 x y 64 hy hx (Nat.le_refl _) (by decide)
def whl (H : HM) (n : Nat) : Nat := if hm_f H = 0 then 1 else (2 * hm_f H) ^ n
theorem whl_le {H : HM} (hH : HMok H) {n : Nat} (hn : n ≤ 4) : 0 < whl H n ∧ whl H n ≤ 4096 := by
  have := hH.1
  unfold whl
  split
  · exact ⟨by decide, by decide⟩
  · refine ⟨Nat.pow_pos (by omega), ?_⟩
    exact Nat.le_trans (Nat.pow_le_pow_left (show 2 * hm_f H ≤ 8 by omega) n) (Nat.le_trans (Nat.pow_le_pow_right (by decide) hn) (by decide))
def sp_chance (H : HM) (s b : Nat) (x y z w : Int32) : Int32 := match vi x 2 with
  | none => -2
  | some t => match vi y (hm_d H) with
    | none => -2
    | some d => match vi w 2 with
      | none => -2
      | some a => match vb z 0 4 with
        | none => -3
        | some n => nI ((if a = 0 then lk H b t d n s else whl H n) / Nat.gcd (lk H b t d n s) (whl H n))
theorem rc_chance88 (F : Nat) (hF : 2000 ≤ F) {m : Nat} {H : HM} {s b t d n a : Nat} {h : Hp} (rs : RS h m H s b) (ht : t < 2) (hd : d < 6) (hn : n ≤ 4) (ha : a < 2) : ∃ h', f_X12_chance_88 F m (nI t) (nI d) (nI n) (nI a) (nI (whl H n)) h = some (nI ((if a = 0 then lk H b t d n s else whl H n) / Nat.gcd (lk H b t d n s) (whl H n)), h') ∧ CI m [5, 6] h h' := by
  obtain ⟨h1, e1, c1⟩ := rc_likelyFrom F hF rs ht hd hn
  have w := whl_le rs.2.1 hn
  have l := Nat.le_trans (lk_le rs.2.1 b t d n s) (Nat.le_trans (Nat.pow_le_pow_right (by decide) hn) (by decide : 8 ^ 4 ≤ 4096))
  have g1 : 0 < Nat.gcd (lk H b t d n s) (whl H n) := Nat.gcd_pos_of_pos_right _ w.1
  have g2 : Nat.gcd (lk H b t d n s) (whl H n) ≤ whl H n := Nat.gcd_le_right _ w.1
  unfold f_X12_chance_88 f_X12_chance_113
  rw [cV_n rs.1.1 (rs.stand F (by omega)), cV_n rs.1.1 e1, bd_n (rc_common F (by omega) (by omega) h1), bd_n (rc_common F (by omega) (by omega) h1), gd_t (nI_ne0 g1 (by omega)), gd_t (nI_ne0 g1 (by omega)), pk_div (by omega) g1 (by omega), pk_div (by omega) g1 (by omega)]
  refine ⟨h1, ?_, c1⟩
  by_cases z : a = 0
  · rw [if_pos (show nI a = 0 by rw [z]; rfl), if_pos z]
  · rw [if_neg (nI_ne0 (by omega) (by omega)), if_neg z]
theorem rc_chance54 (F : Nat) (hF : 2000 ≤ F) {m : Nat} {H : HM} {s b t d N a : Nat} {h : Hp} (rs : RS h m H s b) (ht : t < 2) (hd : d < 6) (hN : N ≤ 4) (ha : a < 2) : ∀ q k n, k + q = N → q < n → ∃ h', f_X12_chance_54 F n m (nI t) (nI d) (nI N) (nI a) (nI (whl H k)) (nI k) h = some (nI ((if a = 0 then lk H b t d N s else whl H N) / Nat.gcd (lk H b t d N s) (whl H N)), h') ∧ CI m [5, 6] h h' := by
  have f4 := rs.f4
  intro q
  induction q with
  | zero =>
    intro k n hk hn
    obtain ⟨n, rfl⟩ : ∃ j, n = j + 1 := ⟨n - 1, by omega⟩
    show ∃ h', f_X12_chance_54_b F (f_X12_chance_54 F n) m _ _ _ _ _ (nI k) h = _ ∧ _
    unfold f_X12_chance_54_b
    rw [if_pos (nI_le (by omega) (by omega)), show k = N by omega]
    exact rc_chance88 F hF rs ht hd hN ha
  | succ q ih =>
    intro k n hk hn
    obtain ⟨n, rfl⟩ : ∃ j, n = j + 1 := ⟨n - 1, by omega⟩
    show ∃ h', f_X12_chance_54_b F (f_X12_chance_54 F n) m _ _ _ _ _ (nI k) h = _ ∧ _
    unfold f_X12_chance_54_b
    rw [if_neg (nI_ge (by omega) (by omega)), rs.1.g 1 1 (by decide) rfl, rs.1.a 1 1 (show (1 : Int32) = nI 1 from rfl) (by decide) (by decide), rs.fc]
    by_cases z : hm_f H = 0
    · rw [if_pos (show nI _ ≤ 0 by rw [z]; decide), show whl H k = whl H N by unfold whl; rw [if_pos z, if_pos z]]
      exact rc_chance88 F hF rs ht hd hN ha
    · rw [if_neg (nI_nle (by omega) (by omega)), rs.1.g 1 1 (by decide) rfl, rs.1.a 1 1 (show (1 : Int32) = nI 1 from rfl) (by decide) (by decide), rs.fc, lt_e, two_k, pk_mul, nI_1, show whl H k * (2 * hm_f H) = whl H (k + 1) by unfold whl; rw [if_neg z, if_neg z, Nat.pow_succ]]
      exact ih (k + 1) n (by omega) (by omega)
theorem rc_chance (F : Nat) (hF : 2000 ≤ F) {m : Nat} {H : HM} {s b : Nat} {h : Hp} (r : RS h m H s b) (x y z w : Int32) : ∃ h', f_X12_chance F m x y z w h = some (sp_chance H s b x y z w, h') ∧ CI m [0, 5, 6] h h' := by
  have r1 := r.f 0 0
  have h6 := r.d6
  have c0 : CI m [0, 5, 6] h (hp_sI h m 0 0) := (CI.f0).mono (by decide)
  unfold f_X12_chance sp_chance
  rw [pI_n r.1.1, bd_n (rc_isTwin F x _)]
  cases hx : vi x 2 with
  | none => rw [if_pos (bsm0 rfl)]; exact ⟨_, rfl, c0⟩
  | some t =>
    obtain ⟨t1, t2⟩ := vi_some hx
    rw [if_neg (bsm1 rfl), cV_n r1.1.1 (rc_isDoing F r1.1 (by omega) r1.dc y)]
    dsimp only
    cases hy : vi y (hm_d H) with
    | none => rw [if_pos (bsm0 rfl)]; exact ⟨_, rfl, c0⟩
    | some d =>
      obtain ⟨d1, d2⟩ := vi_some hy
      rw [if_neg (bsm1 rfl), bd_n (rc_isTwin F w _)]
      dsimp only
      cases hw : vi w 2 with
      | none => rw [if_pos (bsm0 rfl)]; exact ⟨_, rfl, c0⟩
      | some a =>
        obtain ⟨a1, a2⟩ := vi_some hw
        rw [if_neg (bsm1 rfl), bd_n (show f_X12_within F z.toInt64 0 4 _ = _ from rc_wb F z (a := 0) (c := 4) (by decide) (by decide) _)]
        dsimp only
        cases hz : vb z 0 4 with
        | none => rw [if_pos (bsm0 rfl)]; exact ⟨_, rfl, c0⟩
        | some n =>
          obtain ⟨-, n2, n3, -⟩ := vb_some hz
          obtain ⟨h', e, c⟩ := rc_chance54 F hF r1 t1 (show d < 6 by omega) n2 a1 n 0 F (by omega) (by omega)
          rw [show whl H 0 = 1 by unfold whl; split <;> rfl] at e
          rw [if_neg (bsm1 rfl), t2, d2, a2, n3]
          exact ⟨h', e, c0.tr (c.mono (by decide))⟩
def lko (H : HM) (s b t n : Nat) : Nat → Nat → Option (Nat × Nat) → Option (Nat × Nat)
  | _, 0, o => o
  | k, q + 1, o => lko H s b t n (k + 1) q (match o with
    | none => some (k, lk H b t k n s)
    | some p => if p.2 < lk H b t k n s then some (k, lk H b t k n s) else some p)
theorem rc_likeliest_r (F : Nat) (hF : 2000 ≤ F) {m : Nat} {H : HM} {s b t N : Nat} (ht : t < 2) (hN : N ≤ 4) : ∀ q k n (h : Hp) (o : Option (Nat × Nat)), RS h m H s b → k + q = hm_d H → q < n → (∀ p, o = some p → p.1 < 6 ∧ p.2 ≤ 4096) → ∃ h', f_X12_likeliest_39 F n m (nI t) (nI N) (oN (o.map Prod.fst)) (oN (o.map Prod.snd)) (nI k) h = some (oN ((lko H s b t N k q o).map Prod.fst), h') ∧ CI m [5, 6] h h' := by
  intro q
  induction q with
  | zero =>
    intro k n h o rs hk hn ho
    obtain ⟨n, rfl⟩ : ∃ j, n = j + 1 := ⟨n - 1, by omega⟩
    have d6 := rs.d6
    show ∃ h', f_X12_likeliest_39_b F (f_X12_likeliest_39 F n) m _ _ _ _ (nI k) h = _ ∧ _
    unfold f_X12_likeliest_39_b
    rw [rs.1.g 1 1 (by decide) rfl, rs.1.a 1 2 (show (2 : Int32) = nI 2 from rfl) (by decide) (by decide), rs.dc, if_pos (nI_le (by omega) (by omega))]
    exact ⟨h, rfl, CI.rf _ _ _⟩
  | succ q ih =>
    intro k n h o rs hk hn ho
    obtain ⟨n, rfl⟩ : ∃ j, n = j + 1 := ⟨n - 1, by omega⟩
    have d6 := rs.d6
    have hk6 : k < 6 := by omega
    obtain ⟨h1, e1, c1⟩ := rc_likelyFrom F hF rs ht hk6 hN
    have r1 := rs.ci c1 (by decide)
    have l := Nat.le_trans (lk_le rs.2.1 b t k N s) (Nat.le_trans (Nat.pow_le_pow_right (by decide) hN) (by decide : 8 ^ 4 ≤ 4096))
    show ∃ h', f_X12_likeliest_39_b F (f_X12_likeliest_39 F n) m _ _ _ _ (nI k) h = _ ∧ _
    unfold f_X12_likeliest_39_b f_X12_likeliest_81
    rw [rs.1.g 1 1 (by decide) rfl, rs.1.a 1 2 (show (2 : Int32) = nI 2 from rfl) (by decide) (by decide), rs.dc, if_neg (nI_ge (by omega) (by omega)), cV_n rs.1.1 (rs.stand F (by omega)), cV_n rs.1.1 e1, nI_1]
    have yes := ih (k + 1) n h1 (some (k, lk H b t k N s)) r1 (by omega) (by omega) (fun p hp => by obtain rfl := Option.some.inj hp; exact ⟨hk6, l⟩)
    cases o with
    | none =>
      rw [if_pos (show oN (Option.map Prod.snd (none : Option (Nat × Nat))) < nI (lk H b t k N s) from Int32.lt_iff_toInt_lt.mpr (by rw [nI_toInt (by omega)]; show (-1 : Int) < _; omega))]
      obtain ⟨h', e, c⟩ := yes
      exact ⟨h', e, c1.tr c⟩
    | some p =>
      have hp := ho p rfl
      show ∃ h', _ = some (oN ((lko H s b t N (k + 1) q (if p.2 < lk H b t k N s then some (k, lk H b t k N s) else some p)).map Prod.fst), h') ∧ _
      by_cases z : p.2 < lk H b t k N s
      · rw [if_pos (show oN (Option.map Prod.snd (some p)) < nI (lk H b t k N s) from nI_lt z (by omega)), if_pos z]
        obtain ⟨h', e, c⟩ := yes
        exact ⟨h', e, c1.tr c⟩
      · rw [if_neg (show ¬ oN (Option.map Prod.snd (some p)) < nI (lk H b t k N s) from fun y => z ((nI_ltI (by omega) (by omega)).mp y)), if_neg z]
        obtain ⟨h', e, c⟩ := ih (k + 1) n h1 (some p) r1 (by omega) (by omega) ho
        exact ⟨h', e, c1.tr c⟩
def sp_likeliest (H : HM) (s b : Nat) (x y : Int32) : Int32 := match vi x 2 with
  | none => -2
  | some t => match vb y 0 4 with
    | none => -3
    | some n => oN ((lko H s b t n 0 (hm_d H) none).map Prod.fst)
theorem rc_likeliest (F : Nat) (hF : 2000 ≤ F) {m : Nat} {H : HM} {s b : Nat} {h : Hp} (r : RS h m H s b) (x y : Int32) : ∃ h', f_X12_likeliest F m x y h = some (sp_likeliest H s b x y, h') ∧ CI m [0, 5, 6] h h' := by
  have r1 := r.f 0 0
  have h6 := r.d6
  have c0 : CI m [0, 5, 6] h (hp_sI h m 0 0) := (CI.f0).mono (by decide)
  unfold f_X12_likeliest sp_likeliest
  rw [pI_n r.1.1, bd_n (rc_isTwin F x _)]
  cases hx : vi x 2 with
  | none => rw [if_pos (bsm0 rfl)]; exact ⟨_, rfl, c0⟩
  | some t =>
    obtain ⟨t1, t2⟩ := vi_some hx
    rw [if_neg (bsm1 rfl), bd_n (show f_X12_within F y.toInt64 0 4 _ = _ from rc_wb F y (a := 0) (c := 4) (by decide) (by decide) _)]
    dsimp only
    cases hy : vb y 0 4 with
    | none => rw [if_pos (bsm0 rfl)]; exact ⟨_, rfl, c0⟩
    | some n =>
      obtain ⟨-, n2, n3, -⟩ := vb_some hy
      obtain ⟨h', e, c⟩ := rc_likeliest_r F hF t1 n2 (hm_d H) 0 F _ none r1 (by omega) (by omega) (fun p hp => by cases hp)
      rw [if_neg (bsm1 rfl), t2, n3]
      exact ⟨h', e, c0.tr (c.mono (by decide))⟩
