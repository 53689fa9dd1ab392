/-! L5: what the constructors make -/
abbrev Opn : Type := Sum (Nat × Nat × Nat) (Sum (Nat × Nat × Nat) (Nat × Nat × Int32))
abbrev yA (t n w : Nat) : Opn := .inl (t, n, w)
abbrev yR (c f d : Nat) : Opn := .inr (.inl (c, f, d))
abbrev yI (c f : Nat) (v : Int32) : Opn := .inr (.inr (c, f, v))
def yp1 (x : Nat) : Opn → Hp → Hp
  | .inl (t, n, w), h => hp_nw h t n w
  | .inr (.inl (c, f, d)), h => hp_sR h (x + c) f (some (x + d))
  | .inr (.inr (c, f, v)), h => hp_sI h (x + c) f v
/-- the last one is done last -/
def ypr (x : Nat) (h0 : Hp) : List Opn → Hp
  | [] => h0
  | o :: l => yp1 x o (ypr x h0 l)
def ycn : List Opn → Nat
  | [] => 0
  | .inl _ :: l => ycn l + 1
  | .inr _ :: l => ycn l
def ysl : List Opn → Nat
  | [] => 0
  | .inl q :: l => ysl l + q.2.2
  | .inr _ :: l => ysl l
def ytg (k : Nat) : List Opn → Nat
  | [] => 0
  | .inl q :: l => if k = ycn l then q.1 else ytg k l
  | .inr _ :: l => ytg k l
def yln (k : Nat) : List Opn → Nat
  | [] => 0
  | .inl q :: l => if k = ycn l then q.2.1 else yln k l
  | .inr _ :: l => yln k l
def yrf (k f : Nat) : List Opn → Option Nat
  | [] => none
  | .inl _ :: l => if k = ycn l then none else yrf k f l
  | .inr (.inl q) :: l => if k = q.1 ∧ f = q.2.1 then some q.2.2 else yrf k f l
  | .inr (.inr _) :: l => yrf k f l
def yin (k j : Nat) : List Opn → Int32
  | [] => 0
  | .inl _ :: l => if k = ycn l then 0 else yin k j l
  | .inr (.inl _) :: l => yin k j l
  | .inr (.inr q) :: l => if k = q.1 ∧ j = q.2.1 then q.2.2 else yin k j l
theorem yp_ok {x : Nat} {h0 : Hp} (hx : hp_n h0 = x) : ∀ l, (hp_n (ypr x h0 l) = x + ycn l ∧ hp_s (ypr x h0 l) = hp_s h0 + ysl l) ∧ (∀ k, k < ycn l → hp_t (ypr x h0 l) (x + k) = ytg k l ∧ hp_l (ypr x h0 l) (x + k) = yln k l ∧ (∀ f, hp_R (ypr x h0 l) (x + k) f = (yrf k f l).map fun d => x + d) ∧ ∀ j, hp_I (ypr x h0 l) (x + k) j = yin k j l) ∧ FW (fun _ => False) h0 (ypr x h0 l) := by
  intro l
  induction l with
  | nil => exact ⟨⟨hx, rfl⟩, fun k hk => absurd hk (Nat.not_lt_zero k), FW.rf _ _⟩
  | cons o l ih =>
    obtain ⟨⟨n1, s1⟩, c1, w1⟩ := ih
    match o with
    | .inl (t, n, w) =>
      refine ⟨⟨?_, ?_⟩, fun k hk => ⟨?_, ?_, fun f => ?_, fun j => ?_⟩, ?_⟩
      · show hp_n (hp_nw (ypr x h0 l) t n w) = x + (ycn l + 1)
        rw [nw_n, n1]; omega
      · show hp_s (hp_nw (ypr x h0 l) t n w) = hp_s h0 + (ysl l + w)
        rw [nw_s, s1]; omega
      · show hp_t (hp_nw (ypr x h0 l) t n w) (x + k) = if k = ycn l then t else ytg k l
        have hk : k < ycn l + 1 := hk
        rw [nw_t, n1]
        by_cases z : k = ycn l
        · rw [if_pos z, if_pos (by omega)]
        · rw [if_neg z, if_neg (by omega)]; exact (c1 k (by omega)).1
      · show hp_l (hp_nw (ypr x h0 l) t n w) (x + k) = if k = ycn l then n else yln k l
        have hk : k < ycn l + 1 := hk
        rw [nw_l, n1]
        by_cases z : k = ycn l
        · rw [if_pos z, if_pos (by omega)]
        · rw [if_neg z, if_neg (by omega)]; exact (c1 k (by omega)).2.1
      · show hp_R (hp_nw (ypr x h0 l) t n w) (x + k) f = (if k = ycn l then none else yrf k f l).map fun d => x + d
        have hk : k < ycn l + 1 := hk
        rw [nw_R, n1]
        by_cases z : k = ycn l
        · rw [if_pos z, if_pos (by omega)]; rfl
        · rw [if_neg z, if_neg (by omega)]; exact (c1 k (by omega)).2.2.1 f
      · show hp_I (hp_nw (ypr x h0 l) t n w) (x + k) j = if k = ycn l then 0 else yin k j l
        have hk : k < ycn l + 1 := hk
        rw [nw_I, n1]
        by_cases z : k = ycn l
        · rw [if_pos z, if_pos (by omega)]
        · rw [if_neg z, if_neg (by omega)]; exact (c1 k (by omega)).2.2.2 j
      · exact w1.tr (W' := fun _ => False) FW.nw (fun _ _ z => z)
    | .inr (.inl (c, f, d)) =>
      refine ⟨⟨n1, s1⟩, fun k hk => ⟨(c1 k hk).1, (c1 k hk).2.1, fun f' => ?_, (c1 k hk).2.2.2⟩, ?_⟩
      · show (if x + k = x + c ∧ f' = f then some (x + d) else hp_R (ypr x h0 l) (x + k) f') = (if k = c ∧ f' = f then some d else yrf k f' l).map fun d => x + d
        by_cases z : k = c ∧ f' = f
        · rw [if_pos z, if_pos ⟨by omega, z.2⟩]; rfl
        · rw [if_neg z, if_neg (fun y => z ⟨by omega, y.2⟩)]; exact (c1 k hk).2.2.1 f'
      · exact w1.tr (W' := fun y => y = x + c) (FW.sR rfl) (fun y hy e => by omega)
    | .inr (.inr (c, f, v)) =>
      refine ⟨⟨n1, s1⟩, fun k hk => ⟨(c1 k hk).1, (c1 k hk).2.1, (c1 k hk).2.2.1, fun j => ?_⟩, ?_⟩
      · show (if x + k = x + c ∧ j = f then v else hp_I (ypr x h0 l) (x + k) j) = if k = c ∧ j = f then v else yin k j l
        by_cases z : k = c ∧ j = f
        · rw [if_pos z, if_pos ⟨by omega, z.2⟩]
        · rw [if_neg z, if_neg (fun y => z ⟨by omega, y.2⟩)]; exact (c1 k hk).2.2.2 j
      · exact w1.tr (W' := fun y => y = x + c) (FW.sI rfl) (fun y hy e => by omega)
section steps
variable {x : Nat} {h0 : Hp} {l : List Opn} {α : Type}
theorem xnA (hx : hp_n h0 = x) (t n c : Nat) {i : Int32} (hi : i = nI n) (hn : n ≤ 1000000) (hc : ycn l = c) (K : Nat → Hp → Option α) : nA t (ypr x h0 l) i K = K (x + c) (ypr x h0 (yA t n n :: l)) := by
  rw [nA_n hi hn, (yp_ok hx l).1.1, hc]; rfl
theorem xnO (hx : hp_n h0 = x) (t c w : Nat) (hc : ycn l = c) (hw : kc_n t = w) (K : Nat → Hp → Option α) : nO t (ypr x h0 l) K = K (x + c) (ypr x h0 (yA t 0 w :: l)) := by
  unfold nO
  rw [(yp_ok hx l).1.1, hc, hw]; rfl
theorem xpR (hx : hp_n h0 = x) (t c f d : Nat) {a b : Nat} (ha : a = x + c) (hb : b = x + d) (hc : c < ycn l ∧ ytg c l = t) (K : Hp → Option α) : pR t (ypr x h0 l) a f b K = K (ypr x h0 (yR c f d :: l)) := by
  subst ha hb
  rw [pR_n (by rw [((yp_ok hx l).2.1 c hc.1).1]; exact hc.2)]; rfl
theorem xpI (hx : hp_n h0 = x) (t c f : Nat) (v : Int32) {a : Nat} (ha : a = x + c) (hc : c < ycn l ∧ ytg c l = t) (K : Hp → Option α) : pI t (ypr x h0 l) a f v K = K (ypr x h0 (yI c f v :: l)) := by
  subst ha
  rw [pI_n (by rw [((yp_ok hx l).2.1 c hc.1).1]; exact hc.2)]; rfl
theorem xgR (hx : hp_n h0 = x) (t c f d : Nat) {a : Nat} (ha : a = x + c) (hc : c < ycn l ∧ ytg c l = t) (hr : yrf c f l = some d) (K : Nat → Option α) : gR t (ypr x h0 l) a f K = K (x + d) := by
  subst ha
  exact gR_n (by rw [((yp_ok hx l).2.1 c hc.1).1]; exact hc.2) (by rw [((yp_ok hx l).2.1 c hc.1).2.2.1, hr]; rfl) K
theorem xal (hx : hp_n h0 = x) (t c n : Nat) {a : Nat} (ha : a = x + c) (hc : c < ycn l ∧ ytg c l = t) (hn : yln c l = n) (K : Int32 → Option α) : al t (ypr x h0 l) a K = K (nI n) := by
  subst ha
  exact al_n (by rw [((yp_ok hx l).2.1 c hc.1).1]; exact hc.2) (by rw [((yp_ok hx l).2.1 c hc.1).2.1]; exact hn) K
theorem xwR (hx : hp_n h0 = x) (t c j d n : Nat) {a b : Nat} {i : Int32} (ha : a = x + c) (hb : b = x + d) (hi : i = nI j) (hc : c < ycn l ∧ ytg c l = t) (hn : yln c l = n ∧ j < n ∧ n < 2 ^ 31) (hd : d < ycn l ∧ ytg d l = ka_c t) (K : Hp → Option α) : wR t (ypr x h0 l) a i b K = K (ypr x h0 (yR c j d :: l)) := by
  subst ha hb hi
  have q := (yp_ok hx l).2.1 c hc.1
  have q2 := (yp_ok hx l).2.1 d hd.1
  unfold wR
  rw [gd_t ⟨by rw [q.1]; exact hc.2, by rw [q.2.1, hn.1]; exact inb_n hn.2.1 hn.2.2, by rw [q2.1]; exact hd.2⟩, ix_n (by omega)]; rfl
theorem xwI (hx : hp_n h0 = x) (c j n : Nat) (v : Int32) {a : Nat} {i : Int32} (ha : a = x + c) (hi : i = nI j) (hc : c < ycn l ∧ ytg c l = 20) (hn : yln c l = n ∧ j < n ∧ n < 2 ^ 31) (K : Hp → Option α) : wI (ypr x h0 l) a i v K = K (ypr x h0 (yI c j v :: l)) := by
  subst ha
  have q := (yp_ok hx l).2.1 c hc.1
  rw [wI_n (by rw [q.1]; exact hc.2) (by rw [q.2.1]; exact hn.1) hi hn.2.1 hn.2.2]; rfl
end steps
theorem pl_r2 (F : Nat) {q : Nat} : ∀ r k n (h : Hp), hp_t h q = 20 → hp_l h q = 3132 → k + r = 1044 → r < n → ∃ h', f_X12_plain_2 F n q (nI k) h = some ((), h') ∧ FQ q h h' ∧ ∀ j, hp_I h' q j = if k ≤ j ∧ j < 1044 then 0 else hp_I h q j := by
  intro r
  induction r with
  | zero =>
    intro k n h t l hk hn
    obtain ⟨n, rfl⟩ : ∃ j, n = j + 1 := ⟨n - 1, by omega⟩
    obtain rfl : k = 1044 := by omega
    refine ⟨h, ?_, FQ.rf _ _, fun j => by rw [if_neg (by omega)]⟩
    show f_X12_plain_2_b F (f_X12_plain_2 F n) q (nI 1044) h = _
    unfold f_X12_plain_2_b
    rw [if_pos (show (1044 : Int32) ≤ nI 1044 by decide)]
  | succ r ih =>
    intro k n h t l hk hn
    obtain ⟨n, rfl⟩ : ∃ j, n = j + 1 := ⟨n - 1, by omega⟩
    obtain ⟨h', e, f, v⟩ := ih (k + 1) n (hp_sI h q k 0) (by rw [hp_t_sI]; exact t) (by rw [hp_l_sI]; exact l) (by omega) (by omega)
    refine ⟨h', ?_, FQ.sI.tr f, fun j => ?_⟩
    · show f_X12_plain_2_b F (f_X12_plain_2 F n) q (nI k) h = _
      unfold f_X12_plain_2_b
      rw [if_neg (show ¬ (1044 : Int32) ≤ nI k from i_ge (show k < 1044 by omega) (by decide)), wI_n t l rfl (show k < 3132 by omega) (by decide), nI_1]
      exact e
    · rw [v j, sI_at]
      by_cases z : k + 1 ≤ j ∧ j < 1044
      · rw [if_pos z, if_pos (by omega)]
      · rw [if_neg z]
        by_cases y : j = k
        · rw [if_pos y, if_pos (by omega)]
        · rw [if_neg y, if_neg (by omega)]
def yLx : List Opn := [yR 22 1 47, yA 9 0 4, yR 22 0 46, yA 9 0 4, yR 20 3 44, yR 44 2 45, yA 23 40 40, yI 44 0 (-1), yA 10 0 3, yR 20 2 42, yR 42 2 43, yA 23 40 40, yI 42 0 (-1), yA 10 0 3, yR 20 1 40, yR 40 2 41, yA 23 40 40, yI 40 0 (-1), yA 10 0 3, yR 20 0 38, yR 38 2 39, yA 23 40 40, yI 38 0 (-1), yA 10 0 3, yR 2 0 3, yR 0 16 35, yR 35 4 3, yR 35 6 36, yR 36 2 37, yA 23 40 40, yI 36 0 (-1), yA 10 0 3, yA 11 0 9, yR 0 15 33, yR 33 2 3, yR 33 1 34, yA 20 6 6, yA 1 0 5, yR 0 14 31, yR 31 1 3, yR 31 0 32, yA 20 1 1, yA 2 0 5, yR 0 13 29, yR 29 1 3, yR 29 0 30, yA 23 1 1, yA 7 0 5, yR 0 12 26, yR 26 4 3, yR 26 1 28, yA 20 1 1, yR 26 0 27, yA 20 1 1, yA 8 0 9, yR 0 11 23, yR 23 4 3, yR 23 1 25, yA 20 1 1, yR 23 0 24, yA 20 1 1, yA 8 0 9, yR 0 10 22, yA 25 2 2, yR 0 9 21, yA 24 2 2, yR 0 8 20, yA 26 4 4, yR 0 7 17, yR 17 2 19, yA 20 10 10, yR 17 1 18, yA 20 10 10, yA 5 0 3, yR 0 6 16, yA 9 0 4, yR 0 5 15, yA 9 0 4, yR 0 4 9, yR 9 8 3, yR 9 9 11, yR 11 7 14, yA 20 100 100, yR 11 6 13, yA 20 6 6, yR 11 0 12, yA 20 900 900, yA 4 0 9, yR 9 2 10, yA 21 0 0, yI 9 1 (-1), yA 6 0 11, yR 0 3 3, yR 3 9 8, yA 20 2000 2000, yR 3 8 7, yA 20 256 256, yR 3 7 6, yA 20 6 6, yR 3 6 5, yA 20 24 24, yR 3 5 4, yA 20 4 4, yA 3 0 10, yR 0 2 2, yA 24 4 4, yR 0 0 1, yA 21 900 900, yA 12 0 17]
def yLm : List Opn := [yR 48 34 65, yA 23 160 160, yR 48 33 64, yA 20 4 4, yR 48 32 63, yI 63 3 (-1), yI 63 2 (-1), yI 63 1 (-1), yI 63 0 (-1), yA 20 4 4, yR 48 31 62, yA 20 65536 65536, yR 48 30 61, yA 20 4 4, yR 48 29 60, yA 23 65536 65536, yR 48 28 59, yA 23 65536 65536, yR 48 23 58, yA 20 65536 65536, yR 48 22 57, yA 20 589824 589824, yR 48 21 56, yA 22 65536 65536, yR 48 18 55, yA 20 9 9, yR 48 17 54, yA 20 6 6, yR 48 16 53, yA 20 900 900, yI 48 14 (-1), yR 48 4 52, yA 20 1044 1044, yR 48 3 51, yA 20 900 900, yR 48 2 50, yA 22 2 2, yR 48 1 49, yA 20 3132 3132, yA 13 0 35, yR 22 1 47, yA 9 0 4, yR 22 0 46, yA 9 0 4, yR 20 3 44, yR 44 2 45, yA 23 40 40, yI 44 0 (-1), yA 10 0 3, yR 20 2 42, yR 42 2 43, yA 23 40 40, yI 42 0 (-1), yA 10 0 3, yR 20 1 40, yR 40 2 41, yA 23 40 40, yI 40 0 (-1), yA 10 0 3, yR 20 0 38, yR 38 2 39, yA 23 40 40, yI 38 0 (-1), yA 10 0 3, yR 2 0 3, yR 0 16 35, yR 35 4 3, yR 35 6 36, yR 36 2 37, yA 23 40 40, yI 36 0 (-1), yA 10 0 3, yA 11 0 9, yR 0 15 33, yR 33 2 3, yR 33 1 34, yA 20 6 6, yA 1 0 5, yR 0 14 31, yR 31 1 3, yR 31 0 32, yA 20 1 1, yA 2 0 5, yR 0 13 29, yR 29 1 3, yR 29 0 30, yA 23 1 1, yA 7 0 5, yR 0 12 26, yR 26 4 3, yR 26 1 28, yA 20 1 1, yR 26 0 27, yA 20 1 1, yA 8 0 9, yR 0 11 23, yR 23 4 3, yR 23 1 25, yA 20 1 1, yR 23 0 24, yA 20 1 1, yA 8 0 9, yR 0 10 22, yA 25 2 2, yR 0 9 21, yA 24 2 2, yR 0 8 20, yA 26 4 4, yR 0 7 17, yR 17 2 19, yA 20 10 10, yR 17 1 18, yA 20 10 10, yA 5 0 3, yR 0 6 16, yA 9 0 4, yR 0 5 15, yA 9 0 4, yR 0 4 9, yR 9 8 3, yR 9 9 11, yR 11 7 14, yA 20 100 100, yR 11 6 13, yA 20 6 6, yR 11 0 12, yA 20 900 900, yA 4 0 9, yR 9 2 10, yA 21 0 0, yI 9 1 (-1), yA 6 0 11, yR 0 3 3, yR 3 9 8, yA 20 2000 2000, yR 3 8 7, yA 20 256 256, yR 3 7 6, yA 20 6 6, yR 3 6 5, yA 20 24 24, yR 3 5 4, yA 20 4 4, yA 3 0 10, yR 0 2 2, yA 24 4 4, yR 0 0 1, yA 21 900 900, yA 12 0 17]
theorem mk_X11 (F : Nat) (hF : 100 ≤ F) {x : Nat} {h0 : Hp} (hx : hp_n h0 = x) : f_X11_init F x (ypr x h0 [yA 12 0 17]) = some ((), ypr x h0 yLx) := by
  obtain ⟨G, hG⟩ : ∃ G, F = G + 1 + 1 + 1 + 1 + 1 := ⟨F - 5, by omega⟩
  have u6 : ∀ n (i : Int32) (g : Hp), f_X11_init_206 F (n + 1) x i g = f_X11_init_206_b F (f_X11_init_206 F n) x i g := fun _ _ _ => rfl
  have u3 : ∀ n (i : Int32) (g : Hp), f_X11_init_236 F (n + 1) x i g = f_X11_init_236_b F (f_X11_init_236 F n) x i g := fun _ _ _ => rfl
  unfold f_X11_init f_X10_init f_X5_init f_X3_init f_X2_init f_X8_init f_X4_init f_X7_init f_X6_init f_X1_init f_X0_init f_X9_init
  rw [xnA hx 21 900 1 (by rfl) (by decide) (by rfl), xpR hx 12 0 0 1 (by rfl) (by rfl) (by decide +kernel), xnA hx 24 4 2 (by rfl) (by decide) (by rfl), xpR hx 12 0 2 2 (by rfl) (by rfl) (by decide +kernel), xnO hx 3 3 10 (by rfl) (by rfl), xnA hx 20 4 4 (by rfl) (by decide) (by rfl)]
  rw [xpR hx 3 3 5 4 (by rfl) (by rfl) (by decide +kernel), xnA hx 20 24 5 (by rfl) (by decide) (by rfl), xpR hx 3 3 6 5 (by rfl) (by rfl) (by decide +kernel), xnA hx 20 6 6 (by rfl) (by decide) (by rfl), xpR hx 3 3 7 6 (by rfl) (by rfl) (by decide +kernel), xnA hx 20 256 7 (by rfl) (by decide) (by rfl)]
  rw [xpR hx 3 3 8 7 (by rfl) (by rfl) (by decide +kernel), xnA hx 20 2000 8 (by rfl) (by decide) (by rfl), xpR hx 3 3 9 8 (by rfl) (by rfl) (by decide +kernel), bd_s, xpR hx 12 0 3 3 (by rfl) (by rfl) (by decide +kernel), xnO hx 6 9 11 (by rfl) (by rfl)]
  rw [xgR hx 12 0 3 3 (by rfl) (by decide +kernel) (by decide +kernel), xpI hx 6 9 1 (-1) (by rfl) (by decide +kernel), xnA hx 21 0 10 (by rfl) (by decide) (by rfl), xpR hx 6 9 2 10 (by rfl) (by rfl) (by decide +kernel), xnO hx 4 11 9 (by rfl) (by rfl), xnA hx 20 900 12 (by rfl) (by decide) (by rfl)]
  rw [xpR hx 4 11 0 12 (by rfl) (by rfl) (by decide +kernel), xnA hx 20 6 13 (by rfl) (by decide) (by rfl), xpR hx 4 11 6 13 (by rfl) (by rfl) (by decide +kernel), xnA hx 20 100 14 (by rfl) (by decide) (by rfl), xpR hx 4 11 7 14 (by rfl) (by rfl) (by decide +kernel), bd_s]
  rw [xpR hx 6 9 9 11 (by rfl) (by rfl) (by decide +kernel), xpR hx 6 9 8 3 (by rfl) (by rfl) (by decide +kernel), bd_s, xpR hx 12 0 4 9 (by rfl) (by rfl) (by decide +kernel), xnO hx 9 15 4 (by rfl) (by rfl), bd_s]
  rw [xpR hx 12 0 5 15 (by rfl) (by rfl) (by decide +kernel), xnO hx 9 16 4 (by rfl) (by rfl), bd_s, xpR hx 12 0 6 16 (by rfl) (by rfl) (by decide +kernel), xnO hx 5 17 3 (by rfl) (by rfl), xnA hx 20 10 18 (by rfl) (by decide) (by rfl)]
  rw [xpR hx 5 17 1 18 (by rfl) (by rfl) (by decide +kernel), xnA hx 20 10 19 (by rfl) (by decide) (by rfl), xpR hx 5 17 2 19 (by rfl) (by rfl) (by decide +kernel), bd_s, xpR hx 12 0 7 17 (by rfl) (by rfl) (by decide +kernel), xnA hx 26 4 20 (by rfl) (by decide) (by rfl)]
  rw [xpR hx 12 0 8 20 (by rfl) (by rfl) (by decide +kernel), xnA hx 24 2 21 (by rfl) (by decide) (by rfl), xpR hx 12 0 9 21 (by rfl) (by rfl) (by decide +kernel), xnA hx 25 2 22 (by rfl) (by decide) (by rfl), xpR hx 12 0 10 22 (by rfl) (by rfl) (by decide +kernel), xnO hx 8 23 9 (by rfl) (by rfl)]
  rw [xgR hx 12 0 3 3 (by rfl) (by decide +kernel) (by decide +kernel), xnA hx 20 1 24 (by rfl) (by decide) (by rfl), xpR hx 8 23 0 24 (by rfl) (by rfl) (by decide +kernel), xnA hx 20 1 25 (by rfl) (by decide) (by rfl), xpR hx 8 23 1 25 (by rfl) (by rfl) (by decide +kernel), xpR hx 8 23 4 3 (by rfl) (by rfl) (by decide +kernel)]
  rw [bd_s, xpR hx 12 0 11 23 (by rfl) (by rfl) (by decide +kernel), xnO hx 8 26 9 (by rfl) (by rfl), xgR hx 12 0 3 3 (by rfl) (by decide +kernel) (by decide +kernel), xnA hx 20 1 27 (by rfl) (by decide) (by rfl), xpR hx 8 26 0 27 (by rfl) (by rfl) (by decide +kernel)]
  rw [xnA hx 20 1 28 (by rfl) (by decide) (by rfl), xpR hx 8 26 1 28 (by rfl) (by rfl) (by decide +kernel), xpR hx 8 26 4 3 (by rfl) (by rfl) (by decide +kernel), bd_s, xpR hx 12 0 12 26 (by rfl) (by rfl) (by decide +kernel), xnO hx 7 29 5 (by rfl) (by rfl)]
  rw [xgR hx 12 0 3 3 (by rfl) (by decide +kernel) (by decide +kernel), xnA hx 23 1 30 (by rfl) (by decide) (by rfl), xpR hx 7 29 0 30 (by rfl) (by rfl) (by decide +kernel), xpR hx 7 29 1 3 (by rfl) (by rfl) (by decide +kernel), bd_s, xpR hx 12 0 13 29 (by rfl) (by rfl) (by decide +kernel)]
  rw [xnO hx 2 31 5 (by rfl) (by rfl), xgR hx 12 0 3 3 (by rfl) (by decide +kernel) (by decide +kernel), xnA hx 20 1 32 (by rfl) (by decide) (by rfl), xpR hx 2 31 0 32 (by rfl) (by rfl) (by decide +kernel), xpR hx 2 31 1 3 (by rfl) (by rfl) (by decide +kernel), bd_s]
  rw [xpR hx 12 0 14 31 (by rfl) (by rfl) (by decide +kernel), xnO hx 1 33 5 (by rfl) (by rfl), xgR hx 12 0 3 3 (by rfl) (by decide +kernel) (by decide +kernel), xnA hx 20 6 34 (by rfl) (by decide) (by rfl), xpR hx 1 33 1 34 (by rfl) (by rfl) (by decide +kernel), xpR hx 1 33 2 3 (by rfl) (by rfl) (by decide +kernel)]
  rw [bd_s, xpR hx 12 0 15 33 (by rfl) (by rfl) (by decide +kernel), xnO hx 11 35 9 (by rfl) (by rfl), xgR hx 12 0 3 3 (by rfl) (by decide +kernel) (by decide +kernel), xnO hx 10 36 3 (by rfl) (by rfl), xpI hx 10 36 0 (-1) (by rfl) (by decide +kernel)]
  rw [xnA hx 23 40 37 (by rfl) (by decide) (by rfl), xpR hx 10 36 2 37 (by rfl) (by rfl) (by decide +kernel), bd_s, xpR hx 11 35 6 36 (by rfl) (by rfl) (by decide +kernel), xpR hx 11 35 4 3 (by rfl) (by rfl) (by decide +kernel), bd_s]
  rw [xpR hx 12 0 16 35 (by rfl) (by rfl) (by decide +kernel), xgR hx 12 0 2 2 (by rfl) (by decide +kernel) (by decide +kernel), xgR hx 12 0 3 3 (by rfl) (by decide +kernel) (by decide +kernel), xwR hx 24 2 0 3 4 (by rfl) (by rfl) (by rfl) (by decide +kernel) (by decide +kernel) (by decide +kernel)]
  rw [show f_X11_init_206 F F = f_X11_init_206 F (G + 1 + 1 + 1 + 1 + 1) by rw [← hG]]
  rw [u6]
  unfold f_X11_init_206_b f_X9_init
  rw [xgR hx 12 0 8 20 (by rfl) (by decide +kernel) (by decide +kernel), xal hx 26 20 4 (by rfl) (by decide +kernel) (by decide +kernel), if_neg (by decide), xgR hx 12 0 8 20 (by rfl) (by decide +kernel) (by decide +kernel), xnO hx 10 38 3 (by rfl) (by rfl), xpI hx 10 38 0 (-1) (by rfl) (by decide +kernel)]
  rw [xnA hx 23 40 39 (by rfl) (by decide) (by rfl), xpR hx 10 38 2 39 (by rfl) (by rfl) (by decide +kernel), bd_s, xwR hx 26 20 0 38 4 (by rfl) (by rfl) (by rfl) (by decide +kernel) (by decide +kernel) (by decide +kernel)]
  rw [u6]
  unfold f_X11_init_206_b f_X9_init
  rw [xgR hx 12 0 8 20 (by rfl) (by decide +kernel) (by decide +kernel), xal hx 26 20 4 (by rfl) (by decide +kernel) (by decide +kernel), if_neg (by decide), xgR hx 12 0 8 20 (by rfl) (by decide +kernel) (by decide +kernel), xnO hx 10 40 3 (by rfl) (by rfl), xpI hx 10 40 0 (-1) (by rfl) (by decide +kernel)]
  rw [xnA hx 23 40 41 (by rfl) (by decide) (by rfl), xpR hx 10 40 2 41 (by rfl) (by rfl) (by decide +kernel), bd_s, xwR hx 26 20 1 40 4 (by rfl) (by rfl) (by rfl) (by decide +kernel) (by decide +kernel) (by decide +kernel)]
  rw [u6]
  unfold f_X11_init_206_b f_X9_init
  rw [xgR hx 12 0 8 20 (by rfl) (by decide +kernel) (by decide +kernel), xal hx 26 20 4 (by rfl) (by decide +kernel) (by decide +kernel), if_neg (by decide), xgR hx 12 0 8 20 (by rfl) (by decide +kernel) (by decide +kernel), xnO hx 10 42 3 (by rfl) (by rfl), xpI hx 10 42 0 (-1) (by rfl) (by decide +kernel)]
  rw [xnA hx 23 40 43 (by rfl) (by decide) (by rfl), xpR hx 10 42 2 43 (by rfl) (by rfl) (by decide +kernel), bd_s, xwR hx 26 20 2 42 4 (by rfl) (by rfl) (by rfl) (by decide +kernel) (by decide +kernel) (by decide +kernel)]
  rw [u6]
  unfold f_X11_init_206_b f_X9_init
  rw [xgR hx 12 0 8 20 (by rfl) (by decide +kernel) (by decide +kernel), xal hx 26 20 4 (by rfl) (by decide +kernel) (by decide +kernel), if_neg (by decide), xgR hx 12 0 8 20 (by rfl) (by decide +kernel) (by decide +kernel), xnO hx 10 44 3 (by rfl) (by rfl), xpI hx 10 44 0 (-1) (by rfl) (by decide +kernel)]
  rw [xnA hx 23 40 45 (by rfl) (by decide) (by rfl), xpR hx 10 44 2 45 (by rfl) (by rfl) (by decide +kernel), bd_s, xwR hx 26 20 3 44 4 (by rfl) (by rfl) (by rfl) (by decide +kernel) (by decide +kernel) (by decide +kernel)]
  rw [u6]
  unfold f_X11_init_206_b f_X9_init
  rw [xgR hx 12 0 8 20 (by rfl) (by decide +kernel) (by decide +kernel), xal hx 26 20 4 (by rfl) (by decide +kernel) (by decide +kernel), if_pos (by decide)]
  rw [show f_X11_init_236 F F = f_X11_init_236 F (G + 1 + 1 + 1 + 1 + 1) by rw [← hG]]
  rw [u3]
  unfold f_X11_init_236_b f_X8_init
  rw [xgR hx 12 0 10 22 (by rfl) (by decide +kernel) (by decide +kernel), xal hx 25 22 2 (by rfl) (by decide +kernel) (by decide +kernel), if_neg (by decide), xgR hx 12 0 10 22 (by rfl) (by decide +kernel) (by decide +kernel), xnO hx 9 46 4 (by rfl) (by rfl), bd_s]
  rw [xwR hx 25 22 0 46 2 (by rfl) (by rfl) (by rfl) (by decide +kernel) (by decide +kernel) (by decide +kernel)]
  rw [u3]
  unfold f_X11_init_236_b f_X8_init
  rw [xgR hx 12 0 10 22 (by rfl) (by decide +kernel) (by decide +kernel), xal hx 25 22 2 (by rfl) (by decide +kernel) (by decide +kernel), if_neg (by decide), xgR hx 12 0 10 22 (by rfl) (by decide +kernel) (by decide +kernel), xnO hx 9 47 4 (by rfl) (by rfl), bd_s]
  rw [xwR hx 25 22 1 47 2 (by rfl) (by rfl) (by rfl) (by decide +kernel) (by decide +kernel) (by decide +kernel)]
  rw [u3]
  unfold f_X11_init_236_b f_X8_init
  rw [xgR hx 12 0 10 22 (by rfl) (by decide +kernel) (by decide +kernel), xal hx 25 22 2 (by rfl) (by decide +kernel) (by decide +kernel), if_pos (by decide)]
  rfl
theorem mk_X12 (F : Nat) (hF : 2000 ≤ F) {x : Nat} {h0 : Hp} (hx : hp_n h0 = x) : ∃ h', f_X12_init F (x + 48) (ypr x h0 (yA 13 0 35 :: yLx)) = some ((), h') ∧ FQ (x + 49) (ypr x h0 yLm) h' ∧ ∀ j, j < 1044 → hp_I h' (x + 49) j = 0 := by
  have q := (yp_ok hx yLm).2.1 49 (by decide +kernel)
  obtain ⟨h', e, f, z⟩ := pl_r2 F (q := x + 49) 1044 0 F (ypr x h0 yLm) (by rw [q.1]; decide +kernel) (by rw [q.2.1]; decide +kernel) (by omega) (by omega)
  refine ⟨h', ?_, f, fun j hj => by rw [z j, if_pos ⟨Nat.zero_le _, hj⟩]⟩
  unfold f_X12_init
  rw [xnA hx 20 3132 49 (by rfl) (by decide) (by rfl), xpR hx 13 48 1 49 (by rfl) (by rfl) (by decide +kernel), xnA hx 22 2 50 (by rfl) (by decide) (by rfl), xpR hx 13 48 2 50 (by rfl) (by rfl) (by decide +kernel), xnA hx 20 900 51 (by rfl) (by decide) (by rfl), xpR hx 13 48 3 51 (by rfl) (by rfl) (by decide +kernel)]
  rw [xnA hx 20 1044 52 (by rfl) (by decide) (by rfl), xpR hx 13 48 4 52 (by rfl) (by rfl) (by decide +kernel), xpI hx 13 48 14 (-1) (by rfl) (by decide +kernel), xnA hx 20 900 53 (by rfl) (by decide) (by rfl), xpR hx 13 48 16 53 (by rfl) (by rfl) (by decide +kernel), xnA hx 20 6 54 (by rfl) (by decide) (by rfl)]
  rw [xpR hx 13 48 17 54 (by rfl) (by rfl) (by decide +kernel), xnA hx 20 9 55 (by rfl) (by decide) (by rfl), xpR hx 13 48 18 55 (by rfl) (by rfl) (by decide +kernel), xnA hx 22 65536 56 (by rfl) (by decide) (by rfl), xpR hx 13 48 21 56 (by rfl) (by rfl) (by decide +kernel), xnA hx 20 589824 57 (by rfl) (by decide) (by rfl)]
  rw [xpR hx 13 48 22 57 (by rfl) (by rfl) (by decide +kernel), xnA hx 20 65536 58 (by rfl) (by decide) (by rfl), xpR hx 13 48 23 58 (by rfl) (by rfl) (by decide +kernel), xnA hx 23 65536 59 (by rfl) (by decide) (by rfl), xpR hx 13 48 28 59 (by rfl) (by rfl) (by decide +kernel), xnA hx 23 65536 60 (by rfl) (by decide) (by rfl)]
  rw [xpR hx 13 48 29 60 (by rfl) (by rfl) (by decide +kernel), xnA hx 20 4 61 (by rfl) (by decide) (by rfl), xpR hx 13 48 30 61 (by rfl) (by rfl) (by decide +kernel), xnA hx 20 65536 62 (by rfl) (by decide) (by rfl), xpR hx 13 48 31 62 (by rfl) (by rfl) (by decide +kernel), xnA hx 20 4 63 (by rfl) (by decide) (by rfl)]
  rw [xwI hx 63 0 4 (-1) (by rfl) (by rfl) (by decide +kernel) (by decide +kernel), xwI hx 63 1 4 (-1) (by rfl) (by rfl) (by decide +kernel) (by decide +kernel), xwI hx 63 2 4 (-1) (by rfl) (by rfl) (by decide +kernel) (by decide +kernel), xwI hx 63 3 4 (-1) (by rfl) (by rfl) (by decide +kernel) (by decide +kernel), xpR hx 13 48 32 63 (by rfl) (by rfl) (by decide +kernel), xnA hx 20 4 64 (by rfl) (by decide) (by rfl)]
  rw [xpR hx 13 48 33 64 (by rfl) (by rfl) (by decide +kernel), xnA hx 23 160 65 (by rfl) (by decide) (by rfl), xpR hx 13 48 34 65 (by rfl) (by rfl) (by decide +kernel), xgR hx 13 48 1 49 (by rfl) (by decide +kernel) (by decide +kernel)]
  have e : f_X12_plain F (x + 49) (ypr x h0 yLm) = some ((), h') := e
  exact bd_n e
