/-! L3: counts, secrets, doings, faults, the tape -/
def sp_count (H : HM) (s b n tap : Nat) (x : Int32) : Int32 := if x = 0 then nI (hm_f H) else if x = 1 then nI (hm_d H) else if x = 2 then nI (kn s 0) else if x = 3 then nI (kn s 1) else if x = 4 then nI b else if x = 5 then nI (pb2 H s) else if x = 6 then nI n else if x = 7 then nI tap else if x = 8 then nI (hm_l H) else -1
theorem rc_count (F : Nat) (hF : 2000 ≤ F) {m : Nat} {h : Hp} {H : HM} {s b n tap : Nat} {ps : Nat → Nat × Nat} (r : RP h m H s b n ps) (ht : hp_I h m 5 = nI tap) (x : Int32) : f_X12_count F m x h = some (sp_count H s b n tap x, hp_sI h m 0 0) := by
  have r1 := r.f 0 0
  have S1 := r1.1.1
  have t1 : hp_I (hp_sI h m 0 0) m 5 = nI tap := by rw [sI_at, if_neg (by decide)]; exact ht
  obtain ⟨b0, b1, b2, b3, b4, b5, b6⟩ := r1.1.2.2.1
  obtain ⟨p1, -⟩ := r1.2.1
  unfold f_X12_count sp_count
  rw [pI_n r.1.1.1, S1.g 1 1 (by decide) rfl, S1.a 1 1 (show (1 : Int32) = nI 1 from rfl) (by decide) (by decide), S1.g 1 1 (by decide) rfl, S1.a 1 2 (show (2 : Int32) = nI 2 from rfl) (by decide) (by decide), S1.g 1 1 (by decide) rfl, S1.a 1 51 (show (51 : Int32) = nI 51 from rfl) (by decide) (by decide), S1.g 1 1 (by decide) rfl, S1.a 1 52 (show (52 : Int32) = nI 52 from rfl) (by decide) (by decide), S1.g 1 1 (by decide) rfl, S1.a 1 0 (show (0 : Int32) = nI 0 from rfl) (by decide) (by decide), gI_n S1.1, cV_n S1.1 (r1.1.stand F (by omega)), cV_n S1.1 (r1.1.stand F (by omega)), cV_n S1.1 (r1.1.stand F (by omega)), bd_n (show f_X12_knownIn F (nI s) 0 _ = _ from rc_knownIn F (by omega) r.1.s16 (t := 0) (by decide) _), bd_n (show f_X12_knownIn F (nI s) 1 _ = _ from rc_knownIn F (by omega) r.1.s16 (t := 1) (by decide) _), cV_n S1.1 (rc_doesBoth F (by omega) S1 r1.1.2.1 r1.1.2.2.1 r.1.s16), b0, b1, b2, b6, p1, t1]
  by_cases q : x = 0
  · rw [if_pos q, if_pos q]
  rw [if_neg q, if_neg q]
  by_cases q : x = 1
  · rw [if_pos q, if_pos q]
  rw [if_neg q, if_neg q]
  by_cases q : x = 2
  · rw [if_pos q, if_pos q]
  rw [if_neg q, if_neg q]
  by_cases q : x = 3
  · rw [if_pos q, if_pos q]
  rw [if_neg q, if_neg q]
  by_cases q : x = 4
  · rw [if_pos q, if_pos q]
  rw [if_neg q, if_neg q]
  by_cases q : x = 5
  · rw [if_pos q, if_pos q]; rfl
  rw [if_neg q, if_neg q]
  by_cases q : x = 6
  · rw [if_pos q, if_pos q]
  rw [if_neg q, if_neg q]
  by_cases q : x = 7
  · rw [if_pos q, if_pos q]
  rw [if_neg q, if_neg q]
  by_cases q : x = 8
  · rw [if_pos q, if_pos q]
  rw [if_neg q, if_neg q]
def sp_fault (fk : Nat) (fp : Int32) (x : Int32) : Int32 := if x = 0 then nI fk else if x = 1 then fp else -1
theorem rc_fault (F : Nat) {m : Nat} {h : Hp} (hS : SR h m) {fk : Nat} {fp : Int32} (h1 : hp_I h m 13 = nI fk) (h2 : hp_I h m 14 = fp) (x : Int32) : f_X12_fault F m x h = some (sp_fault fk fp x, hp_sI h m 0 0) := by
  have S1 := hS.sI m 0 0
  unfold f_X12_fault sp_fault
  rw [pI_n hS.1, gI_n S1.1, gI_n S1.1, sI_at, sI_at, if_neg (show ¬ 13 = 0 by decide), if_neg (show ¬ 14 = 0 by decide), h1, h2]
  by_cases q : x = 0
  · rw [if_pos q, if_pos q]
  rw [if_neg q, if_neg q]
  by_cases q : x = 1
  · rw [if_pos q, if_pos q]
  rw [if_neg q, if_neg q]
/-- a telling of f to t is kept from the other one -/
def scb (H : HM) (b s f : Nat) (t : Nat) : Bool := match tld H b s t f with
  | none => false
  | some u => decide (dg u (4 * (1 - t) + f) = 0)
theorem rc_secret_r (F : Nat) (hF : 2000 ≤ F) {m f : Nat} {H : HM} {s b : Nat} (hf : f < hm_f H) : ∀ r k n (h : Hp), RS h m H s b → k + r = 2 → r < n → ∃ h', f_X12_secret_21 F n m (nI f) (nI (msk (scb H b s f) k)) (nI k) h = some (nI (msk (scb H b s f) 2), h') ∧ CI m [5, 6] h h' := by
  intro r
  induction r with
  | zero =>
    intro k n h rs hk hn
    obtain ⟨n, rfl⟩ : ∃ j, n = j + 1 := ⟨n - 1, by omega⟩
    show ∃ h', f_X12_secret_21_b F (f_X12_secret_21 F n) m (nI f) (nI (msk (scb H b s f) k)) (nI k) h = _ ∧ _
    unfold f_X12_secret_21_b
    rw [if_pos (show (2 : Int32) ≤ nI k from nI_le (a := 2) (by omega) (by omega)), show k = 2 by omega]
    exact ⟨h, rfl, CI.rf _ _ _⟩
  | succ r ih =>
    intro k n h rs hk hn
    obtain ⟨n, rfl⟩ : ∃ j, n = j + 1 := ⟨n - 1, by omega⟩
    show ∃ h', f_X12_secret_21_b F (f_X12_secret_21 F n) m (nI f) (nI (msk (scb H b s f) k)) (nI k) h = _ ∧ _
    unfold f_X12_secret_21_b f_X12_secret_66 f_X12_secret_67
    have hk2 : k < 2 := by omega
    obtain ⟨h2, e2, c2⟩ := rc_mayTell F hF rs.1 rs.2.1 rs.2.2.1 rs.2.2.2.1 rs.2.2.2.2.2 rs.2.2.2.2.1 hk2 hf
    have r2 := rs.ci c2 (by decide)
    rw [if_neg (show ¬ (2 : Int32) ≤ nI k from i_ge (a := 2) (by omega) (by decide)), cV_n rs.1.1 (rs.stand F (by omega)), cV_n rs.1.1 e2]
    have em := or_msk (p := scb H b s f) (n := k) (by omega)
    cases ht : tel H b s k f with
    | none =>
      rw [if_pos (bsm0 rfl), lt_e, nI_1]
      have : scb H b s f k = false := by unfold scb tld; rw [ht]; rfl
      rw [this] at em
      rw [show nI (msk (scb H b s f) k) ||| 0 = nI (msk (scb H b s f) (k + 1)) from em]
      obtain ⟨h', e, c⟩ := ih (k + 1) n h2 r2 (by omega) (by omega)
      exact ⟨h', e, c2.tr c⟩
    | some c =>
      obtain ⟨h3, e3, c3⟩ := rc_toldTo F hF r2.1 r2.2.1 r2.2.2.1 r2.2.2.2.1 r2.2.2.2.2.2 r2.2.2.2.2.1 hk2 hf ht
      have hc4 : c < 4 := rs.2.1.2.2.2.2.1 _ _ _ _ _ _ ht
      have r3 := r2.ci c3 (by decide)
      have h4 := rs.f4
      rw [if_neg (bsm1 rfl), cV_n r2.1.1 (r2.stand F (by omega)), cV_n r2.1.1 e3, one_sub hk2, bd_n (rc_ageIn F (tos_lt hc4) (show 1 - k < 2 by omega) (by omega) h3)]
      obtain ⟨h', e, c'⟩ := ih (k + 1) n h3 r3 (by omega) (by omega)
      have hd := dg_lt (tos s k f c) (4 * (1 - k) + f)
      have es : scb H b s f k = decide (dg (tos s k f c) (4 * (1 - k) + f) = 0) := by unfold scb tld; rw [ht]; rfl
      by_cases q : dg (tos s k f c) (4 * (1 - k) + f) = 0
      · rw [decide_eq_true q] at es
        rw [es] at em
        rw [if_pos (show nI _ = 0 by rw [q]; rfl), lt_e, nI_1, shl1 k (by omega), show nI (msk (scb H b s f) k) ||| nI (2 ^ k) = nI (msk (scb H b s f) (k + 1)) from em]
        exact ⟨h', e, (c2.tr c3).tr c'⟩
      · rw [decide_eq_false q] at es
        rw [es] at em
        rw [if_neg (nI_ne0 (by omega) (by omega)), lt_e, nI_1, show nI (msk (scb H b s f) k) ||| 0 = nI (msk (scb H b s f) (k + 1)) from em]
        exact ⟨h', e, (c2.tr c3).tr c'⟩
def sp_secret (H : HM) (s b : Nat) (x : Int32) : Int32 := match vi x (hm_f H) with
  | none => -2
  | some f => nI (msk (scb H b s f) 2)
theorem rc_secret (F : Nat) (hF : 2000 ≤ F) {m : Nat} {h : Hp} {H : HM} {s b : Nat} (r : RS h m H s b) (x : Int32) : ∃ h', f_X12_secret F m x h = some (sp_secret H s b x, h') ∧ CI m [0, 5, 6] h h' := by
  have r1 := r.f 0 0
  have h4 := r.f4
  have c0 : CI m [0, 5, 6] h (hp_sI h m 0 0) := (CI.f0).mono (by decide)
  unfold f_X12_secret sp_secret
  rw [pI_n r.1.1, cV_n r1.1.1 (rc_isFact F r1.1 (by omega) r1.fc x)]
  cases hx : vi x (hm_f H) with
  | none => rw [if_pos (bsm0 rfl)]; exact ⟨_, rfl, c0⟩
  | some f =>
    obtain ⟨f1, f2⟩ := vi_some hx
    obtain ⟨h', e, c⟩ := rc_secret_r F hF f1 2 0 F _ r1 (by omega) (by omega)
    rw [if_neg (bsm1 rfl), f2]
    exact ⟨h', e, c0.tr (c.mono (by decide))⟩
def ndb (H : HM) (d : Nat) (f : Nat) : Bool := decide (0 < hm_n H d f)
theorem i13 (d f : Nat) : 13 + 4 * nI d + nI f = nI (13 + 4 * d + f) := by rw [show 4 * nI d = nI (4 * d) from pk_mul 4 d, show 13 + nI (4 * d) = nI (13 + 4 * d) from nI_add 13 (4 * d), nI_add]
theorem rc_doing_r (F : Nat) {m : Nat} {h : Hp} {H : HM} {s b : Nat} (rs : RS h m H s b) {d : Nat} (hd : d < 6) : ∀ r k n, k + r = hm_f H → r < n → f_X12_doing_25 F n m (nI d) (nI (msk (ndb H d) k)) (nI k) h = some (nI (msk (ndb H d) (hm_f H)), h) := by
  have h4 := rs.f4
  obtain ⟨b0, b1, b2, b3, b4, b5, b6⟩ := rs.2.2.1
  intro r
  induction r with
  | zero =>
    intro k n hk hn
    obtain ⟨n, rfl⟩ : ∃ j, n = j + 1 := ⟨n - 1, by omega⟩
    show f_X12_doing_25_b F (f_X12_doing_25 F n) m (nI d) (nI (msk (ndb H d) k)) (nI k) h = _
    unfold f_X12_doing_25_b
    rw [rs.1.g 1 1 (by decide) rfl, rs.1.a 1 1 (show (1 : Int32) = nI 1 from rfl) (by decide) (by decide), b1, if_pos (nI_le (by omega) (by omega)), show k = hm_f H by omega]
  | succ r ih =>
    intro k n hk hn
    obtain ⟨n, rfl⟩ : ∃ j, n = j + 1 := ⟨n - 1, by omega⟩
    show f_X12_doing_25_b F (f_X12_doing_25 F n) m (nI d) (nI (msk (ndb H d) k)) (nI k) h = _
    unfold f_X12_doing_25_b f_X12_doing_62
    have hk4 : k < 4 := by omega
    have hn4 := rs.2.1.2.2.1 d k hd hk4
    rw [rs.1.g 1 1 (by decide) rfl, rs.1.a 1 1 (show (1 : Int32) = nI 1 from rfl) (by decide) (by decide), b1, if_neg (nI_ge (by omega) (by omega)), rs.1.g 1 1 (by decide) rfl, rs.1.a 1 (13 + 4 * d + k) (i13 d k) (by decide) (show 13 + 4 * d + k < 3132 by omega), b3 d k hd hk4, lt_e, lt_e, nI_1, shl1 k (by omega)]
    have em := or_msk (p := ndb H d) (n := k) (by omega)
    have ih1 := ih (k + 1) n (by omega) (by omega)
    by_cases q : 0 < hm_n H d k
    · rw [if_pos (show ndb H d k = true from decide_eq_true q)] at em
      rw [if_neg (nI_nle q (by omega)), em, ih1]
    · rw [if_neg (show ¬ ndb H d k = true by rw [show ndb H d k = false from decide_eq_false q]; decide)] at em
      rw [if_pos (show nI _ ≤ 0 by rw [show hm_n H d k = 0 by omega]; decide), em, ih1]
def sp_doing (H : HM) (s : Nat) (x y : Int32) : Int32 := match vi x (hm_d H) with
  | none => -2
  | some d => if y = 0 then nI (msk (ndb H d) (hm_f H)) else if y = 1 then nI (hm_b H d) else if y = 2 then nI (b2 (dse H s 0 d) + 2 * b2 (dse H s 1 d)) else if y < 10 then -2 else match vi (y - 10) (hm_f H) with
    | none => -2
    | some f => nI (hm_n H d f)
theorem rc_doing (F : Nat) (hF : 2000 ≤ F) {m : Nat} {h : Hp} {H : HM} {s b : Nat} (r : RS h m H s b) (x y : Int32) : f_X12_doing F m x y h = some (sp_doing H s x y, hp_sI h m 0 0) := by
  have r1 := r.f 0 0
  have h4 := r.f4
  have h6 := r.d6
  obtain ⟨b0, b1, b2', b3, b4, b5, b6⟩ := r1.2.2.1
  unfold f_X12_doing sp_doing
  rw [pI_n r.1.1, cV_n r1.1.1 (rc_isDoing F r1.1 (by omega) r1.dc x)]
  cases hx : vi x (hm_d H) with
  | none => rw [if_pos (bsm0 rfl)]
  | some d =>
    obtain ⟨d1, d2⟩ := vi_some hx
    have d6 : d < 6 := by omega
    rw [if_neg (bsm1 rfl), d2]
    dsimp only
    by_cases q : y = 0
    · rw [if_pos q, if_pos q]
      exact rc_doing_r F r1 d6 (hm_f H) 0 F (by omega) (by omega)
    rw [if_neg q, if_neg q]
    by_cases q : y = 1
    · rw [if_pos q, if_pos q, r1.1.g 1 1 (by decide) rfl, r1.1.a 1 (37 + d) (show 37 + nI d = nI (37 + d) from nI_add 37 d) (by decide) (show 37 + d < 3132 by omega), b4 d d6]
    rw [if_neg q, if_neg q]
    by_cases q : y = 2
    · rw [if_pos q, if_pos q, cV_n r1.1.1 (r1.stand F (by omega)), cV_n r1.1.1 (show f_X12_doesIn F m (nI s) 0 (nI d) _ = _ from rc_doesIn F (by omega) r1.1 r1.2.1 r1.2.2.1 r1.s16 (t := 0) (by decide) d6)]
      unfold f_X12_doing_110
      rw [cV_n r1.1.1 (r1.stand F (by omega)), cV_n r1.1.1 (show f_X12_doesIn F m (nI s) 1 (nI d) _ = _ from rc_doesIn F (by omega) r1.1 r1.2.1 r1.2.2.1 r1.s16 (t := 1) (by decide) d6), cV_n r1.1.1 (r1.stand F (by omega)), cV_n r1.1.1 (show f_X12_doesIn F m (nI s) 1 (nI d) _ = _ from rc_doesIn F (by omega) r1.1 r1.2.1 r1.2.2.1 r1.s16 (t := 1) (by decide) d6)]
      cases dse H s 0 d <;> cases dse H s 1 d <;> rfl
    rw [if_neg q, if_neg q]
    by_cases q : y < 10
    · rw [if_pos q, if_pos q]
    rw [if_neg q, if_neg q, cV_n r1.1.1 (rc_isFact F r1.1 (by omega) r1.fc (y - 10))]
    cases hy : vi (y - 10) (hm_f H) with
    | none => rw [if_pos (bsm0 rfl)]
    | some f =>
      obtain ⟨f1, f2⟩ := vi_some hy
      have ey : y = nI (f + 10) := by
        have : y = (y - 10) + 10 := (Int32.sub_add_cancel y 10).symm
        rw [this, f2]
        exact nI_add f 10
      have ei : 13 + 4 * nI d + y - 10 = nI (13 + 4 * d + f) := by
        rw [ey, i13]
        exact (pk_sub (a := 13 + 4 * d + (f + 10)) (b := 10) (by omega)).trans (by congr 1)
      rw [if_neg (bsm1 rfl), r1.1.g 1 1 (by decide) rfl, r1.1.a 1 (13 + 4 * d + f) ei (by decide) (show 13 + 4 * d + f < 3132 by omega), b3 d f d6 (by omega)]
/-- the lowest byte -/
def by8 (x : Int32) : Nat := x.toBitVec.toNat % 256
theorem by8_lt (x : Int32) : by8 x < 256 := Nat.mod_lt _ (by decide)
theorem and255 (x : Int32) : x &&& 255 = nI (by8 x) := by
  apply Int32.toBitVec_inj.1
  show x.toBitVec &&& 255#32 = BitVec.ofNat 32 (x.toBitVec.toNat % 256)
  apply BitVec.eq_of_toNat_eq
  rw [BitVec.toNat_and]
  show x.toBitVec.toNat &&& 255 = (BitVec.ofNat 32 (x.toBitVec.toNat % 256)).toNat
  rw [BitVec.toNat_ofNat, show (255 : Nat) = 2 ^ 8 - 1 from rfl, Nat.and_two_pow_sub_one_eq_mod]
  omega
def wb (w : Int32) (k : Nat) : Nat := by8 (w >>> (nI (24 - 8 * k) &&& 31))
def wrd (a b c d e : Int32) (k : Nat) : Int32 := if k < 4 then a else if k < 8 then b else if k < 12 then c else if k < 16 then d else e
def wbt (a b c d e : Int32) (k : Nat) : Nat := wb (wrd a b c d e k) (k % 4)
/-- the tape -/
def RTp (h : Hp) (m tap : Nat) (tp : Nat → Nat) : Prop := hp_I h m 5 = nI tap ∧ tap ≤ 900 ∧ ∀ j, j < tap → hp_I h (m + 3) j = nI (tp j)
theorem fd_sh : ∀ k, k < 20 → (24 - (8 * (nI k - nI k / 4 * 4))) &&& 31 = nI (24 - 8 * (k % 4)) &&& 31 := by decide +kernel
theorem rc_feed77 (F : Nat) (K : Nat → Int32 → Int32 → Int32 → Int32 → Int32 → Int32 → Hp → Option (Int32 × Hp)) {m tap k : Nat} {h : Hp} (hS : SR h m) (hk : k < 20) (h5 : hp_I h m 5 = nI (tap + k)) (ht : tap + 20 ≤ 900) (a b c d e w : Int32) : f_X12_feed_77 F K m a b c d e (nI k) w h = K m a b c d e (nI (k + 1)) (hp_sI (hp_sI h (m + 3) (tap + k) (nI (wb w (k % 4)))) m 5 (nI (tap + (k + 1)))) := by
  unfold f_X12_feed_77
  rw [hS.g 3 3 (by decide) rfl, gI_n hS.1, h5, fd_sh k hk, and255, hS.w 3 (tap + k) rfl (by decide) (show tap + k < 900 by omega)]
  have S2 := hS.sI (m + 3) (tap + k) (nI (by8 (w >>> (nI (24 - 8 * (k % 4)) &&& 31))))
  rw [gI_n S2.1, hp_I_sI, if_neg (by omega), h5, nI_1, nI_1, pI_n S2.1]
  rfl
theorem rc_feed_r (F : Nat) {m tap : Nat} (ht : tap + 20 ≤ 900) (a b c d e : Int32) : ∀ r k n (h : Hp), SR h m → k + r = 20 → r < n → hp_I h m 5 = nI (tap + k) → ∃ h', f_X12_feed_24 F n m a b c d e (nI k) h = some (nI (tap + 20), h') ∧ SH h h' ∧ hp_L h' = hp_L h ∧ (∀ x, x ≠ m → x ≠ m + 3 → hp_I h' x = hp_I h x) ∧ (∀ f, hp_I h' m f = if f = 5 then nI (tap + 20) else hp_I h m f) ∧ ∀ j, hp_I h' (m + 3) j = if tap + k ≤ j ∧ j < tap + 20 then nI (wbt a b c d e (j - tap)) else hp_I h (m + 3) j := by
  intro r
  induction r with
  | zero =>
    intro k n h hS hk hn h5
    obtain ⟨n, rfl⟩ : ∃ j, n = j + 1 := ⟨n - 1, by omega⟩
    show ∃ h', f_X12_feed_24_b F (f_X12_feed_24 F n) m a b c d e (nI k) h = _ ∧ _
    unfold f_X12_feed_24_b
    have hk : k = 20 := by omega
    subst hk
    rw [if_pos (show (20 : Int32) ≤ nI 20 by decide), gI_n hS.1, h5]
    refine ⟨h, rfl, SH.rf h, rfl, fun _ _ _ => rfl, fun f => ?_, fun j => by rw [if_neg (by omega)]⟩
    by_cases q : f = 5
    · rw [if_pos q, q, h5]
    · rw [if_neg q]
  | succ r ih =>
    intro k n h hS hk hn h5
    obtain ⟨n, rfl⟩ : ∃ j, n = j + 1 := ⟨n - 1, by omega⟩
    have ev : f_X12_feed_24 F (n + 1) m a b c d e (nI k) h = f_X12_feed_24 F n m a b c d e (nI (k + 1)) (hp_sI (hp_sI h (m + 3) (tap + k) (nI (wbt a b c d e k))) m 5 (nI (tap + (k + 1)))) := by
      show f_X12_feed_24_b F (f_X12_feed_24 F n) m a b c d e (nI k) h = _
      unfold f_X12_feed_24_b wbt wrd
      rw [if_neg (show ¬ (20 : Int32) ≤ nI k from i_ge (a := 20) (by omega) (by decide))]
      by_cases q4 : k < 4
      · rw [if_neg (show ¬ (4 : Int32) ≤ nI k from i_ge (a := 4) (by omega) (by decide)), if_pos q4]
        exact rc_feed77 F _ hS (by omega) h5 ht a b c d e _
      rw [if_pos (show (4 : Int32) ≤ nI k from nI_le (a := 4) (by omega) (by omega)), if_neg q4]
      by_cases q8 : k < 8
      · rw [if_neg (show ¬ (8 : Int32) ≤ nI k from i_ge (a := 8) (by omega) (by decide)), if_pos q8]
        exact rc_feed77 F _ hS (by omega) h5 ht a b c d e _
      rw [if_pos (show (8 : Int32) ≤ nI k from nI_le (a := 8) (by omega) (by omega)), if_neg q8]
      by_cases q12 : k < 12
      · rw [if_neg (show ¬ (12 : Int32) ≤ nI k from i_ge (a := 12) (by omega) (by decide)), if_pos q12]
        exact rc_feed77 F _ hS (by omega) h5 ht a b c d e _
      rw [if_pos (show (12 : Int32) ≤ nI k from nI_le (a := 12) (by omega) (by omega)), if_neg q12]
      by_cases q16 : k < 16
      · rw [if_neg (show ¬ (16 : Int32) ≤ nI k from i_ge (a := 16) (by omega) (by decide)), if_pos q16]
        exact rc_feed77 F _ hS (by omega) h5 ht a b c d e _
      rw [if_pos (show (16 : Int32) ≤ nI k from nI_le (a := 16) (by omega) (by omega)), if_neg q16]
      exact rc_feed77 F _ hS (by omega) h5 ht a b c d e _
    rw [ev]
    obtain ⟨h', e', c1, c2, c3, c4, c5⟩ := ih (k + 1) n _ ((hS.sI (m + 3) (tap + k) (nI (wbt a b c d e k))).sI m 5 (nI (tap + (k + 1)))) (by omega) (by omega) (by rw [sI_at, if_pos rfl])
    refine ⟨h', e', c1, c2, fun x h1 h2 => ?_, fun f => ?_, fun j => ?_⟩
    · rw [c3 x h1 h2]
      funext i
      rw [hp_I_sI, if_neg (fun z => h1 z.1), hp_I_sI, if_neg (fun z => h2 z.1)]
    · rw [c4 f]
      by_cases q : f = 5
      · rw [if_pos q, if_pos q]
      · rw [if_neg q, if_neg q, sI_at, if_neg q, hp_I_sI, if_neg (by omega)]
    · rw [c5 j, sI_ne _ _ _ (show m + 3 ≠ m by omega), sI_at]
      by_cases q : j = tap + k
      · rw [if_neg (by omega), if_pos q, if_pos (by omega), q, Nat.add_sub_cancel_left]
      · rw [if_neg q]
        by_cases q2 : tap + (k + 1) ≤ j ∧ j < tap + 20
        · rw [if_pos q2, if_pos (by omega)]
        · rw [if_neg q2, if_neg (by omega)]
def sp_feed (tap : Nat) (tp : Nat → Nat) (a b c d e : Int32) : Int32 × Nat × (Nat → Nat) := if tap + 20 ≤ 900 then (nI (tap + 20), tap + 20, fun j => if tap ≤ j ∧ j < tap + 20 then wbt a b c d e (j - tap) else tp j) else (-5, tap, tp)
theorem rc_feed (F : Nat) (hF : 2000 ≤ F) {m tap : Nat} {tp : Nat → Nat} {h : Hp} (hS : SR h m) (ht : RTp h m tap tp) (a b c d e : Int32) : ∃ h', f_X12_feed F m a b c d e h = some ((sp_feed tap tp a b c d e).1, h') ∧ SH h h' ∧ hp_L h' = hp_L h ∧ (∀ x, x ≠ m → x ≠ m + 3 → hp_I h' x = hp_I h x) ∧ (∀ f, f = 13 ∨ f = 14 → hp_I h' m f = hp_I h m f) ∧ RTp h' m (sp_feed tap tp a b c d e).2.1 (sp_feed tap tp a b c d e).2.2 := by
  obtain ⟨t1, t2, t3⟩ := ht
  have S1 := hS.sI m 0 0
  have t4 : hp_I (hp_sI h m 0 0) m 5 = nI tap := by rw [sI_at, if_neg (by decide)]; exact t1
  have e0 : ∀ x, x ≠ m → hp_I (hp_sI h m 0 0) x = hp_I h x := fun x hx => by
    funext i
    rw [hp_I_sI, if_neg (fun z => hx z.1)]
  unfold f_X12_feed sp_feed
  rw [pI_n hS.1, gI_n S1.1, t4, show nI tap + 20 = nI (tap + 20) from nI_add tap 20]
  by_cases q : tap + 20 ≤ 900
  · rw [if_pos (show nI (tap + 20) ≤ 900 from nI_le (b := 900) q (by decide)), if_pos q]
    obtain ⟨h', e', c1, c2, c3, c4, c5⟩ := rc_feed_r F q a b c d e 20 0 F _ S1 (by omega) (by omega) t4
    refine ⟨h', e', c1, c2, fun x h1 h2 => by rw [c3 x h1 h2, e0 x h1], fun f hf => by rw [c4, if_neg (by omega), sI_at, if_neg (by omega)], by rw [c4, if_pos rfl], q, fun j hj => ?_⟩
    have hj : j < tap + 20 := hj
    rw [c5 j]
    show _ = nI (if tap ≤ j ∧ j < tap + 20 then wbt a b c d e (j - tap) else tp j)
    by_cases q2 : tap ≤ j
    · rw [if_pos (by omega), if_pos (by omega)]
    · rw [if_neg (by omega), if_neg (by omega), e0 _ (by omega)]; exact t3 j (by omega)
  · rw [if_neg (show ¬ nI (tap + 20) ≤ 900 from nI_ge (a := 900) (by omega) (by omega)), if_neg q]
    exact ⟨_, rfl, SH.rf _, rfl, fun x h1 _ => e0 x h1, fun f hf => by rw [sI_at, if_neg (by omega)], t4, t2, fun j hj => by rw [e0 _ (by omega)]; exact t3 j hj⟩
