/-! L3, the two readers: a line whole; all lines -/
section line
variable {F x m n a : Nat} {tp : Nat → Nat}
/-- a line but its end -/
def LBL (F x m n a : Nat) (tp : Nat → Nat) (A : Nat) (ls : List Nat) (D : DR) : Prop := ∃ (σ' : PS) (D' : DR), Pok n tp σ' ∧ Le (.inl (A, ls)) σ' ∧ (∀ A' ls', σ' = .inl (A', ls') → Dok ls' D' ∧ D'.1.1 = D.1.1 ∧ A < A') ∧ (∀ h0 h, DJ x n tp a h0 h (.inl (A, ls)) D → ∃ h', f_X5_line F (x + 9) h = f_X5_line_98 F (x + 9) h' ∧ DJ x n tp a h0 h' σ' D') ∧ ∀ g0 g, EJ m n tp g0 g (.inl (A, ls)) D → ∃ g', f_X12_readLine F m g = some ((), g') ∧ EJ m n tp g0 g' σ' D'
theorem LBK.l {fc : (Hp → Option (Unit × Hp)) → Hp → Option (Unit × Hp)} {fm : Hp → Option (Unit × Hp)} {A : Nat} {ls : List Nat} {D : DR} (b : LBK x m n a tp fc fm A ls D) (hc : ∀ h0 h, DJ x n tp a h0 h (.inl (A, ls)) D → f_X5_line F (x + 9) h = fc (f_X5_line_98 F (x + 9)) h) (hm : ∀ g0 g, EJ m n tp g0 g (.inl (A, ls)) D → ∀ g', fm g = some ((), g') → f_X12_readLine F m g = some ((), g')) : LBL F x m n a tp A ls D := by
  obtain ⟨σ', D', p, q, o, w, u⟩ := b
  refine ⟨σ', D', p, q, o, fun h0 h c => ?_, fun g0 g c => ?_⟩
  · obtain ⟨h', e, c'⟩ := w h0 h c
    exact ⟨h', by rw [hc h0 h c, e], c'⟩
  · obtain ⟨g', e, c'⟩ := u g0 g c
    exact ⟨g', hm g0 g c g' e, c'⟩
theorem is_m {g0 g : Hp} {A K : Nat} {ls : List Nat} {lit : Int32} (c : EXr m n tp g0 g (.inl (A, ls))) (pk : Pok n tp (.inl (A, ls))) (hl : nI K = lit) (hK : kok K = true ∧ K ≠ 25) : f_X12_is F m lit g = some (if tK tp n A = K then 1 else 0, g) := by
  rw [← hl]
  exact M_is F hK c.1 pk
theorem ea_m {g0 g : Hp} {A K : Nat} {ls : List Nat} {lit : Int32} (hF : 2000 ≤ F) (c : EXr m n tp g0 g (.inl (A, ls))) (pk : Pok n tp (.inl (A, ls))) (hl : nI K = lit) (hK : kok K = true ∧ K ≠ 25) (h : tK tp n A ≠ K) : f_X12_eats F m lit g = some (0, g) := by
  rw [← hl]
  rcases M_eats F hF hK c.1 pk with ⟨y, -⟩ | ⟨-, e⟩
  · exact absurd y h
  · exact e
theorem LBODY (hF : 2000 ≤ F) (n9 : n ≤ 900) (tl : ∀ j, j < n → tp j < 256) {A : Nat} {ls : List Nat} {D : DR} (ok : Dok ls D) (pk : Pok n tp (.inl (A, ls))) (cb : ls.length ≤ A) : LBL F x m n a tp A ls D := by
  have tok : ∀ h0 h K, DJ x n tp a h0 h (.inl (A, ls)) D → tK tp n A = K → hp_I h (x + 9) 6 = ctk K := fun h0 h K c z => by rw [← z]; exact C_tok c.1.1
  have rd0 : ∀ g0 g, EJ m n tp g0 g (.inl (A, ls)) D → f_X12_readLine F m g = (if tK tp n A = 1 then (cV 13 g m (f_X12_readFact F m g) fun v34 h35 => some ((), h35)) else if tK tp n A = 3 then (cV 13 g m (f_X12_readDoing F m g) fun v32 h33 => some ((), h33)) else (cV 13 g m (f_X12_eats F m 7 g) fun v9 h10 => if v9 = 0 then (cV 13 h10 m (f_X12_is F m 8 h10) fun v12 h13 => if v12 = 0 then (cV 13 h13 m (f_X12_is F m 9 h13) fun v15 h16 => if v15 = 0 then (cV 13 h16 m (f_X12_is F m 10 h16) fun v18 h19 => if v18 = 0 then (cV 13 h19 m (f_X12_fails F m 2 h19) fun v21 h22 => some ((), h22)) else (f_X12_readLine_98 F m h19)) else (f_X12_readLine_98 F m h16)) else (cV 13 h13 m (f_X12_readKnows F m h13) fun v26 h27 => some ((), h27))) else (gR 13 h10 m 4 fun v28 => cV 13 h10 m (f_X12_takes F m 0 9 h10) fun v29 h30 => wI h30 v28 51 v29 fun h31 => some ((), h31)))) := fun g0 g c => by
    unfold f_X12_readLine
    rw [gI_n c.1.tg, c.1.1.f0, if_pos rfl, cV_n c.1.tg (is_m (F := F) (K := 1) (lit := 1) c.1 pk rfl (by decide))]
    by_cases z1 : tK tp n A = 1
    · rw [if_pos z1, if_pos z1, if_neg (show ¬ (1 : Int32) = 0 by decide)]
    · rw [if_neg z1, if_neg z1, if_pos rfl, cV_n c.1.tg (is_m (F := F) (K := 3) (lit := 3) c.1 pk rfl (by decide))]
      by_cases z3 : tK tp n A = 3
      · rw [if_pos z3, if_pos z3, if_neg (show ¬ (1 : Int32) = 0 by decide)]
      · rw [if_neg z3, if_neg z3, if_pos rfl]
  have rd7 : ∀ g0 g, EJ m n tp g0 g (.inl (A, ls)) D → tK tp n A ≠ 1 → tK tp n A ≠ 3 → tK tp n A ≠ 7 → f_X12_readLine F m g = (if tK tp n A = 8 then (cV 13 g m (f_X12_readKnows F m g) fun v26 h27 => some ((), h27)) else if tK tp n A = 9 then f_X12_readLine_98 F m g else if tK tp n A = 10 then f_X12_readLine_98 F m g else (cV 13 g m (f_X12_fails F m 2 g) fun v21 h22 => some ((), h22))) := fun g0 g c z1 z3 z7 => by
    rw [rd0 g0 g c, if_neg z1, if_neg z3, cV_n c.1.tg (ea_m hF c.1 pk (K := 7) (lit := 7) rfl (by decide) z7), if_pos rfl, cV_n c.1.tg (is_m (F := F) (K := 8) (lit := 8) c.1 pk rfl (by decide))]
    by_cases z8 : tK tp n A = 8
    · rw [if_pos z8, if_pos z8, if_neg (show ¬ (1 : Int32) = 0 by decide)]
    · rw [if_neg z8, if_neg z8, if_pos rfl, cV_n c.1.tg (is_m (F := F) (K := 9) (lit := 9) c.1 pk rfl (by decide))]
      by_cases z9 : tK tp n A = 9
      · rw [if_pos z9, if_pos z9, if_neg (show ¬ (1 : Int32) = 0 by decide)]
      · rw [if_neg z9, if_neg z9, if_pos rfl, cV_n c.1.tg (is_m (F := F) (K := 10) (lit := 10) c.1 pk rfl (by decide))]
        by_cases z10 : tK tp n A = 10
        · rw [if_pos z10, if_pos z10, if_neg (show ¬ (1 : Int32) = 0 by decide)]
        · rw [if_neg z10, if_neg z10, if_pos rfl]
  by_cases z1 : tK tp n A = 1
  · refine (L_fact hF z1 ok pk n9).k.l (fun h0 h c => ?_) (fun g0 g c g' e => ?_)
    · unfold f_X5_line
      rw [gI_n c.1.tg, tok h0 h 1 c z1, ctk_l.1, if_pos rfl]
    · rw [rd0 g0 g c, if_pos z1, cV_n c.1.tg (show f_X12_readFact F m g = _ from e)]
  by_cases z3 : tK tp n A = 3
  · refine (L_doing hF z3 ok pk n9).k.l (fun h0 h c => ?_) (fun g0 g c g' e => ?_)
    · unfold f_X5_line
      rw [gI_n c.1.tg, tok h0 h 3 c z3, ctk_l.2.1, if_neg (by decide), if_pos rfl]
    · rw [rd0 g0 g c, if_neg z1, if_pos z3, cV_n c.1.tg (show f_X12_readDoing F m g = _ from e)]
  by_cases z7 : tK tp n A = 7
  · refine (L_bond hF z7 ok pk (fun h10 => cV 13 h10 m (f_X12_is F m 8 h10) fun v12 h13 => if v12 = 0 then (cV 13 h13 m (f_X12_is F m 9 h13) fun v15 h16 => if v15 = 0 then (cV 13 h16 m (f_X12_is F m 10 h16) fun v18 h19 => if v18 = 0 then (cV 13 h19 m (f_X12_fails F m 2 h19) fun v21 h22 => some ((), h22)) else (f_X12_readLine_98 F m h19)) else (f_X12_readLine_98 F m h16)) else (cV 13 h13 m (f_X12_readKnows F m h13) fun v26 h27 => some ((), h27)))).l (fun h0 h c => ?_) (fun g0 g c g' e => ?_)
    · unfold f_X5_line
      rw [gI_n c.1.tg, tok h0 h 7 c z7, ctk_l.2.2.1, if_neg (by decide), if_neg (by decide), if_pos rfl]
    · rw [rd0 g0 g c, if_neg z1, if_neg z3]
      exact e
  by_cases z8 : tK tp n A = 8
  · refine (L_knows hF z8 ok pk).k.l (fun h0 h c => ?_) (fun g0 g c g' e => ?_)
    · unfold f_X5_line
      rw [gI_n c.1.tg, tok h0 h 8 c z8, ctk_l.2.2.2.1, if_neg (by decide), if_neg (by decide), if_neg (by decide), if_pos rfl]
    · rw [rd7 g0 g c z1 z3 z7, if_pos z8, cV_n c.1.tg (show f_X12_readKnows F m g = _ from e)]
  by_cases z9 : tK tp n A = 9
  · refine (L_comes hF z9 ok pk n9 tl cb).k.l (fun h0 h c => ?_) (fun g0 g c g' e => ?_)
    · unfold f_X5_line
      rw [gI_n c.1.tg, tok h0 h 9 c z9, ctk_l.2.2.2.2.1, if_neg (by decide), if_neg (by decide), if_neg (by decide), if_neg (by decide), if_pos rfl]
    · rw [rd7 g0 g c z1 z3 z7, if_neg z8, if_pos z9]
      unfold f_X12_readLine_98
      rw [gI_n c.1.tg, show hp_I g m 9 = nI (tK tp n A) from c.1.1.2.2.1.2.2.1, z9, show nI 9 - 9 = nI 0 from rfl, cV_n c.1.tg (show f_X12_readLaw F m (nI 0) g = _ from e)]
  by_cases z10 : tK tp n A = 10
  · refine (L_may hF z10 ok pk n9 tl cb).k.l (fun h0 h c => ?_) (fun g0 g c g' e => ?_)
    · unfold f_X5_line
      rw [gI_n c.1.tg, tok h0 h 10 c z10, ctk_l.2.2.2.2.2, if_neg (by decide), if_neg (by decide), if_neg (by decide), if_neg (by decide), if_neg (by decide), if_pos rfl]
    · rw [rd7 g0 g c z1 z3 z7, if_neg z8, if_neg z9, if_pos z10]
      unfold f_X12_readLine_98
      rw [gI_n c.1.tg, show hp_I g m 9 = nI (tK tp n A) from c.1.1.2.2.1.2.2.1, z10, show nI 10 - 9 = nI 1 from rfl, cV_n c.1.tg (show f_X12_readLaw F m (nI 1) g = _ from e)]
  obtain ⟨p1, q1⟩ := flt_ok (k := 2) (by decide) pk
  refine ⟨flt 2 (.inl (A, ls)), D, p1, q1, fun A' ls' e => by (injection e), fun h0 h c => ?_, fun g0 g c => ?_⟩
  · obtain ⟨h2, e2, d2⟩ := C_fail F (k := 2) c.1.1 pk
    refine ⟨h2, ?_, (c.1.st d2).1, fun A' ls' e => by (injection e)⟩
    have nt : ∀ K lit, kok K = true → ctk K = lit → tK tp n A ≠ K → ¬ hp_I h (x + 9) 6 = lit := fun K lit hK hl hz e => hz ((C_is c.1.1 hK).mp (e.trans hl.symm))
    unfold f_X5_line
    rw [gI_n c.1.tg, if_neg (nt 1 _ rfl ctk_l.1 z1), if_neg (nt 3 _ rfl ctk_l.2.1 z3), if_neg (nt 7 _ rfl ctk_l.2.2.1 z7), if_neg (nt 8 _ rfl ctk_l.2.2.2.1 z8), if_neg (nt 9 _ rfl ctk_l.2.2.2.2.1 z9), if_neg (nt 10 _ rfl ctk_l.2.2.2.2.2 z10), cV_n c.1.tg (show f_X5_fail F (x + 9) 2 h = _ from e2)]
  · obtain ⟨g2, e2, d2, ne⟩ := M_failk F 2 (by decide) c.1.1 pk
    refine ⟨g2, ?_, (c.1.st d2).1, fun A' ls' e => by (injection e)⟩
    rw [rd7 g0 g c z1 z3 z7, if_neg z8, if_neg z9, if_neg z10, cV_n c.1.tg (show f_X12_fails F m 2 g = _ from e2)]
/-- one more line -/
def Dl (D : DR) : DR := ((D.1.1 + 1, D.1.2.1, D.1.2.2), D.2)
theorem LENDc (hF : 2000 ≤ F) {σ : PS} (pk : Pok n tp σ) {D : DR} {h0 h : Hp} (c : DJ x n tp a h0 h σ D) : ∃ h', f_X5_line_98 F (x + 9) h = some ((), h') ∧ DJ x n tp a h0 h' (tkn tp n 30 σ) (Dl D) := by
  obtain ⟨h1, e1, d1⟩ := C_take F hF (K := 30) (by decide) c.1.1 pk
  obtain ⟨x1, i1, j1, -⟩ := c.1.st d1
  rw [ctk_d.2.2.2.1] at e1
  refine ⟨hp_sI h1 a 2 (hp_I h1 a 2 + 1), ?_, x1.w0 2 _, fun A' ls' e => ?_⟩
  · unfold f_X5_line_98
    rw [cV_n c.1.tg e1, x1.g8, gI_n x1.ta, pI_n x1.ta]
  · obtain ⟨A1, e2, -⟩ := tkn_inl e
    obtain ⟨⟨u0, u1, u1'⟩, u2, u3, u4, ⟨u5, u6⟩, u7⟩ := (c.2 A1 ls' e2).cg i1 j1
    have e0 : ∀ V j, j ≠ 2 → hp_I (hp_sI h1 a 2 V) a j = hp_I h1 a j := fun V j hj => by rw [sI_at, if_neg hj]
    have ek : ∀ V j, 0 < j → hp_I (hp_sI h1 a 2 V) (a + j) = hp_I h1 (a + j) := fun V j hj => sI_ne _ _ _ (by omega)
    have e11 : ∀ V, hp_I (hp_sI h1 a 2 V) (x + 11) = hp_I h1 (x + 11) := fun V => sI_ne _ _ _ (Ne.symm (c.1.2.1.2.1 0 11 (by decide) (by decide) (by decide)))
    exact ⟨⟨by rw [sI_at, if_pos rfl, u0, nI_1]; rfl, by rw [e0 _ _ (by decide)]; exact u1, by rw [e0 _ _ (by decide)]; exact u1'⟩, by rw [ek _ 1 (by decide)]; exact u2, by rw [ek _ 2 (by decide)]; exact u3, by rw [ek _ 3 (by decide)]; exact u4, ⟨by rw [e0 _ _ (by decide)]; exact u5, by rw [e0 _ _ (by decide)]; exact u6⟩, by rw [e11]; exact u7⟩
theorem LENDm (hF : 2000 ≤ F) {σ : PS} (pk : Pok n tp σ) {D : DR} {g0 g : Hp} (c : EJ m n tp g0 g σ D) : ∃ g', f_X12_ends F m g = some ((), g') ∧ EJ m n tp g0 g' (tkn tp n 30 σ) (Dl D) ∧ (hp_I g m 11 ≠ 0 → hp_I g' m 11 ≠ 0) := by
  obtain ⟨g1, d1, e1⟩ := M_take2 F hF (K := 30) (by decide) c.1.1 pk
  obtain ⟨x1, i1, j1, -⟩ := c.1.st d1
  refine ⟨hp_sI g1 (m + 4) 0 (hp_I g1 (m + 4) 0 + 1), ?_, ⟨x1.w (by decide) _, fun A' ls' e => ?_⟩, fun y => ?_⟩
  · unfold f_X12_ends
    refine (e1 (fun g => f_X12_ends_14 F m g)).trans ?_
    unfold f_X12_ends_14
    rw [x1.S.g 4 4 (by decide) rfl, x1.S.a 4 0 (i := 0) rfl (by decide) (by decide), x1.S.w 4 0 (i := 0) rfl (by decide) (by decide)]
  · obtain ⟨A1, e2, -⟩ := tkn_inl e
    obtain ⟨⟨u0, u1, u1'⟩, u2, u3, u4, ⟨u5, u6, u7⟩, u8, u9⟩ := (c.2 A1 ls' e2).cg i1
    have ne : ∀ V j, j ≠ 0 → hp_I (hp_sI g1 (m + 4) 0 V) (m + 4) j = hp_I g1 (m + 4) j := fun V j hj => by rw [sI_at, if_neg hj]
    refine ⟨⟨by rw [sI_at, if_pos rfl, u0, nI_1]; rfl, by rw [ne _ _ (by decide)]; exact u1, by rw [ne _ _ (by decide)]; exact u1'⟩, fun i hi => by rw [ne _ _ (by omega)]; exact u2 i hi, fun d' f' hd hf => by rw [ne _ _ (by omega)]; exact u3 d' f' hd hf, fun d' hd => by rw [ne _ _ (by omega)]; exact u4 d' hd, ⟨fun k' hk' => by rw [ne _ _ (by omega)]; exact u5 k' hk', by rw [ne _ _ (by decide)]; exact u6, by rw [ne _ _ (by decide)]; exact u7⟩, ?_, ?_⟩
    · exact ⟨fun z => by rw [ne _ _ (by decide)]; exact u8.1 z, fun z => by rw [ne _ _ (by decide), ne _ _ (by decide), ne _ _ (by decide)]; exact u8.2 z⟩
    · exact ⟨fun z => by rw [ne _ _ (by decide)]; exact u9.1 z, fun z => by rw [ne _ _ (by decide), ne _ _ (by decide), ne _ _ (by decide)]; exact u9.2 z⟩
  · rw [sI_ne _ _ _ (by omega)]; exact j1 y
/-- what holds between lines -/
def GI (σ : PS) (D : DR) : Prop := ∀ A ls, σ = .inl (A, ls) → Dok ls D ∧ ls.length ≤ A ∧ D.1.1 ≤ A
theorem rl_c0 {b : Nat × Nat × Nat} (pk : Pok n tp (.inr b)) (kc : Nat) (l4 : Int32) {h0 h : Hp} (c : DX x n tp a h0 h (.inr b)) : f_X5_reads_77 F (kc + 1) (x + 9) l4 h = f_X5_reads_110 F (x + 9) h := by
  show f_X5_reads_77_b F (f_X5_reads_77 F kc) (x + 9) l4 h = _
  unfold f_X5_reads_77_b
  have ne : ¬ hp_I h (x + 9) 0 = 0 := fun e => by
    obtain ⟨A, ls, y⟩ := (c.1.f0 pk).mp e
    injection y
  rw [gI_n c.tg, gI_n c.tg, if_neg ne]
  by_cases z : hp_I h (x + 9) 3 ≤ l4
  · rw [if_pos z]
  · rw [if_neg z]
theorem rl_m0 (hF : 2000 ≤ F) {b : Nat × Nat × Nat} {D : DR} (pk : Pok n tp (.inr b)) (km : Nat) {g0 g : Hp} (c : EJ m n tp g0 g (.inr b) D) : ∃ g', f_X12_house_70 F (km + 2) m g = f_X12_house_97 F m g' ∧ EJ m n tp g0 g' (.inr b) D ∧ hp_I g' m 11 ≠ 0 := by
  have st : ∀ (k : Nat) (g : Hp), hp_t g m = 13 → hp_I g m 11 ≠ 0 → f_X12_house_70 F (k + 1) m g = f_X12_house_97 F m g := fun k g t ne => by
    show f_X12_house_70_b F (f_X12_house_70 F k) m g = _
    unfold f_X12_house_70_b
    rw [gI_n t, if_neg ne]
  by_cases z : hp_I g m 11 = 0
  · obtain ⟨g1, e1, d1, ne⟩ := M_failk F 2 (by decide) c.1.1 pk
    have d1 : MM m n tp g g1 (.inr b) := d1
    obtain ⟨x1, -⟩ := c.1.st d1
    have er : f_X12_readLine F m g = some ((), g1) := by
      have is : ∀ K lit, nI K = lit → kok K = true ∧ K ≠ 25 → f_X12_is F m lit g = some (0, g) := fun K lit hl hK => by
        rw [← hl, M_is F hK c.1.1 pk, if_neg (show ¬ kin tp n (.inr b) = K from fun e => hK.2 e.symm)]
      have ea : f_X12_eats F m 7 g = some (0, g) := by
        rcases M_eats F hF (K := 7) (by decide) c.1.1 pk with ⟨y, -⟩ | ⟨-, e⟩
        · exact absurd y (show ¬ 25 = 7 by decide)
        · exact e
      unfold f_X12_readLine
      rw [gI_n c.1.tg, if_pos z, cV_n c.1.tg (is 1 1 rfl (by decide)), if_pos rfl, cV_n c.1.tg (is 3 3 rfl (by decide)), if_pos rfl, cV_n c.1.tg ea, if_pos rfl, cV_n c.1.tg (is 8 8 rfl (by decide)), if_pos rfl, cV_n c.1.tg (is 9 9 rfl (by decide)), if_pos rfl, cV_n c.1.tg (is 10 10 rfl (by decide)), if_pos rfl, cV_n c.1.tg (show f_X12_fails F m 2 g = _ from e1)]
    have c1 : EJ m n tp g0 g1 (.inr b) D := ⟨x1, fun _ _ e => by (injection e)⟩
    obtain ⟨g2, e2, c2, ne2⟩ := LENDm hF pk c1
    have c2 : EJ m n tp g0 g2 (.inr b) (Dl D) := c2
    refine ⟨g2, ?_, ⟨c2.1, fun _ _ e => by (injection e)⟩, ne2 ne⟩
    rw [show km + 2 = km + 1 + 1 from rfl]
    show f_X12_house_70_b F (f_X12_house_70 F (km + 1)) m g = _
    unfold f_X12_house_70_b
    have k9 : ¬ hp_I g m 9 = 24 := by
      rcases c.1.1.2.2 with ⟨u1, u2⟩ | ⟨u1, u2, u3, u4, u5⟩
      · rw [u1] at z; exact absurd z (nI_n0 _ pk.2)
      · rw [u4.2.2.1, u3]; decide
    rw [gI_n c.1.tg, if_pos z, gI_n c.1.tg, if_neg k9, cV_n c.1.tg er, cV_n x1.tg e2]
    exact st km g2 c2.1.tg (ne2 ne)
  · exact ⟨g, st (km + 1) g c.1.tg z, c, z⟩
theorem rl_loop (hF : 2000 ≤ F) (n9 : n ≤ 900) (tl : ∀ j, j < n → tp j < 256) : ∀ e (σ : PS) (D : DR) kc km l4, n - plc σ ≤ e → e + 1 < kc → e + 2 < km → l4 ≤ plc σ → Pok n tp σ → GI σ D → ∃ (σ' : PS) (D' : DR), Pok n tp σ' ∧ GI σ' D' ∧ (∀ A ls, σ' = .inl (A, ls) → tK tp n A = 24) ∧ (∀ h0 h, DJ x n tp a h0 h σ D → ∃ h', f_X5_reads_77 F kc (x + 9) (nI l4) h = f_X5_reads_110 F (x + 9) h' ∧ DJ x n tp a h0 h' σ' D') ∧ ∀ g0 g, EJ m n tp g0 g σ D → ∃ g', f_X12_house_70 F km m g = f_X12_house_97 F m g' ∧ EJ m n tp g0 g' σ' D' ∧ ∀ b, σ' = .inr b → hp_I g' m 11 ≠ 0 := by
  intro e
  induction e with
  | zero =>
    intro σ D kc km l4 he hc hm hl pk gi
    obtain ⟨kc, rfl⟩ : ∃ j, kc = j + 1 := ⟨kc - 1, by omega⟩
    obtain ⟨km, rfl⟩ : ∃ j, km = j + 2 := ⟨km - 2, by omega⟩
    match σ, he, hl, pk, gi with
    | .inr b, he, hl, pk, gi =>
      refine ⟨.inr b, D, pk, gi, fun A ls e => by (injection e), fun h0 h c => ⟨h, rl_c0 pk kc _ c.1, c⟩, fun g0 g c => ?_⟩
      obtain ⟨g', e', c', ne⟩ := rl_m0 hF pk km c
      exact ⟨g', e', c', fun _ _ => ne⟩
    | .inl (A, ls), he, hl, pk, gi =>
      have he : n - A ≤ 0 := he
      have z : tK tp n A = 24 := by unfold tK; rw [if_pos (by omega)]
      refine ⟨.inl (A, ls), D, pk, gi, fun A' ls' e => by (injection e with e; injection e with e _; rw [← e]; exact z), fun h0 h c => ⟨h, ?_, c⟩, fun g0 g c => ⟨g, ?_, c, fun _ e => by (injection e)⟩⟩
      · show f_X5_reads_77_b F (f_X5_reads_77 F kc) (x + 9) (nI l4) h = _
        unfold f_X5_reads_77_b
        rw [gI_n c.1.tg, gI_n c.1.tg, if_pos c.1.1.2.2.2.1.1, gI_n c.1.tg, if_pos (show hp_I h (x + 9) 6 = 0 by rw [C_tok c.1.1, show kin tp n (.inl (A, ls)) = 24 from z]; exact ctk_d.2.2.2.2.2.2)]
        by_cases u : hp_I h (x + 9) 3 ≤ nI l4
        · rw [if_pos u]
        · rw [if_neg u]
      · show f_X12_house_70_b F (f_X12_house_70 F (km + 1)) m g = _
        unfold f_X12_house_70_b
        rw [gI_n c.1.tg, c.1.1.f0, if_pos rfl, gI_n c.1.tg, if_pos (show hp_I g m 9 = 24 by rw [c.1.1.2.2.1.2.2.1, z]; rfl)]
  | succ e ih =>
    intro σ D kc km l4 he hc hm hl pk gi
    obtain ⟨kc, rfl⟩ : ∃ j, kc = j + 1 := ⟨kc - 1, by omega⟩
    match σ, he, hl, pk, gi with
    | .inr b, he, hl, pk, gi =>
      obtain ⟨km, rfl⟩ : ∃ j, km = j + 2 := ⟨km - 2, by omega⟩
      refine ⟨.inr b, D, pk, gi, fun A ls e => by (injection e), fun h0 h c => ⟨h, rl_c0 pk kc _ c.1, c⟩, fun g0 g c => ?_⟩
      obtain ⟨g', e', c', ne⟩ := rl_m0 hF pk km c
      exact ⟨g', e', c', fun _ _ => ne⟩
    | .inl (A, ls), he, hl, pk, gi =>
      obtain ⟨km, rfl⟩ : ∃ j, km = j + 1 := ⟨km - 1, by omega⟩
      have he : n - A ≤ e + 1 := he
      have hl : l4 ≤ A := hl
      have pn : A ≤ n := pk.1
      by_cases z : tK tp n A = 24
      · refine ⟨.inl (A, ls), D, pk, gi, fun A' ls' e => by (injection e with e; injection e with e _; rw [← e]; exact z), fun h0 h c => ⟨h, ?_, c⟩, fun g0 g c => ⟨g, ?_, c, fun _ e => by (injection e)⟩⟩
        · show f_X5_reads_77_b F (f_X5_reads_77 F kc) (x + 9) (nI l4) h = _
          unfold f_X5_reads_77_b
          rw [gI_n c.1.tg, gI_n c.1.tg, if_pos c.1.1.2.2.2.1.1, gI_n c.1.tg, if_pos (show hp_I h (x + 9) 6 = 0 by rw [C_tok c.1.1, show kin tp n (.inl (A, ls)) = 24 from z]; exact ctk_d.2.2.2.2.2.2)]
          by_cases u : hp_I h (x + 9) 3 ≤ nI l4
          · rw [if_pos u]
          · rw [if_neg u]
        · show f_X12_house_70_b F (f_X12_house_70 F km) m g = _
          unfold f_X12_house_70_b
          rw [gI_n c.1.tg, c.1.1.f0, if_pos rfl, gI_n c.1.tg, if_pos (show hp_I g m 9 = 24 by rw [c.1.1.2.2.1.2.2.1, z]; rfl)]
      · have hA := tK_lt z
        obtain ⟨ok, cb, lA⟩ := gi A ls rfl
        obtain ⟨σ1, D1, p1, q1, o1, w1, u1⟩ := LBODY (F := F) (x := x) (m := m) (a := a) hF n9 tl ok pk cb
        obtain ⟨p2, q2, c2⟩ := tkn_ok (K := 30) p1
        have lt24 : tK tp n A < 42 ∧ kok (tK tp n A) = true := ⟨kok_lt _ (tK_ok (fun j hj => tl j hj)), tK_ok (fun j hj => tl j hj)⟩
        have gi2 : GI (tkn tp n 30 σ1) (Dl D1) := fun A' ls' e2 => by
          obtain ⟨A1, e1, -⟩ := tkn_inl e2
          obtain ⟨k1, k2, k3⟩ := o1 A1 ls' e1
          have q2a := q2.1
          rw [e1, ← e1, e2] at q2a
          have q2a : plc σ1 ≤ A' := q2a
          have q1b := q1.2
          rw [e1] at q1b q2a
          have q1b : ls'.length + A ≤ ls.length + A1 := q1b
          have q2a : A1 ≤ A' := q2a
          refine ⟨k1, by omega, ?_⟩
          show D1.1.1 + 1 ≤ A'
          rw [k2]; omega
        -- the class, the reference: one line
        have cl : ∀ h0 h, DJ x n tp a h0 h (.inl (A, ls)) D → ∃ h', f_X5_reads_77 F (kc + 1) (x + 9) (nI l4) h = f_X5_reads_77 F kc (x + 9) (nI (l4 + 1)) h' ∧ DJ x n tp a h0 h' (tkn tp n 30 σ1) (Dl D1) := fun h0 h c => by
          obtain ⟨h1, e1, c1⟩ := w1 h0 h c
          obtain ⟨h2, e2, c2⟩ := LENDc hF p1 c1
          refine ⟨h2, ?_, c2⟩
          show f_X5_reads_77_b F (f_X5_reads_77 F kc) (x + 9) (nI l4) h = _
          unfold f_X5_reads_77_b
          have nz : ¬ hp_I h (x + 9) 6 = 0 := fun y => z ((C_is c.1.1 (K := 24) (by decide)).mp (y.trans ctk_d.2.2.2.2.2.2.symm))
          rw [c.1.1.2.1.g3, if_neg (nI_ge (show l4 < n by omega) (by omega)), gI_n c.1.tg, if_pos c.1.1.2.2.2.1.1, gI_n c.1.tg, if_neg nz, cV_n c.1.tg (e1.trans e2), nI_1]
        have ml : ∀ g0 g, EJ m n tp g0 g (.inl (A, ls)) D → ∃ g', f_X12_house_70 F (km + 1) m g = f_X12_house_70 F km m g' ∧ EJ m n tp g0 g' (tkn tp n 30 σ1) (Dl D1) := fun g0 g c => by
          obtain ⟨g1, e1, c1⟩ := u1 g0 g c
          obtain ⟨g2, e2, c2, -⟩ := LENDm hF p1 c1
          refine ⟨g2, ?_, c2⟩
          show f_X12_house_70_b F (f_X12_house_70 F km) m g = _
          unfold f_X12_house_70_b
          have nz : ¬ hp_I g m 9 = 24 := fun y => z (nI_inj (b := 24) (by omega) (by decide) (c.1.1.2.2.1.2.2.1.symm.trans y))
          rw [gI_n c.1.tg, c.1.1.f0, if_pos rfl, gI_n c.1.tg, if_neg nz, cV_n c.1.tg e1, cV_n c1.1.tg e2]
        have pl : l4 + 1 ≤ plc (tkn tp n 30 σ1) ∧ n - plc (tkn tp n 30 σ1) ≤ e ∨ ∃ b, tkn tp n 30 σ1 = .inr b := by
          match hs : tkn tp n 30 σ1 with
          | .inr b => exact Or.inr ⟨b, rfl⟩
          | .inl (A', ls') =>
            left
            obtain ⟨A1, e1, -⟩ := tkn_inl hs
            obtain ⟨-, -, k3⟩ := o1 A1 ls' e1
            have q2a := q2.1
            rw [hs, e1] at q2a
            have q2a : A1 ≤ A' := q2a
            show l4 + 1 ≤ A' ∧ n - A' ≤ e
            omega
        rcases pl with ⟨pl1, pl2⟩ | ⟨b, pb⟩
        · obtain ⟨σ', D', p3, g3, t3, w3, u3⟩ := ih (tkn tp n 30 σ1) (Dl D1) kc km (l4 + 1) pl2 (by omega) (by omega) pl1 p2 gi2
          refine ⟨σ', D', p3, g3, t3, fun h0 h c => ?_, fun g0 g c => ?_⟩
          · obtain ⟨h1, e1, c1⟩ := cl h0 h c
            obtain ⟨h2, e2, c2⟩ := w3 h0 h1 c1
            exact ⟨h2, e1.trans e2, c2⟩
          · obtain ⟨g1, e1, c1⟩ := ml g0 g c
            obtain ⟨g2, e2, c2⟩ := u3 g0 g1 c1
            exact ⟨g2, e1.trans e2, c2⟩
        · rw [pb] at p2 gi2 cl ml
          obtain ⟨kc, rfl⟩ : ∃ j, kc = j + 1 := ⟨kc - 1, by omega⟩
          obtain ⟨km, rfl⟩ : ∃ j, km = j + 2 := ⟨km - 2, by omega⟩
          refine ⟨.inr b, Dl D1, p2, gi2, fun A ls e => by (injection e), fun h0 h c => ?_, fun g0 g c => ?_⟩
          · obtain ⟨h1, e1, c1⟩ := cl h0 h c
            exact ⟨h1, e1.trans (rl_c0 p2 kc _ c1.1), c1⟩
          · obtain ⟨g1, e1, c1⟩ := ml g0 g c
            obtain ⟨g2, e2, c2, ne⟩ := rl_m0 hF p2 km c1
            exact ⟨g2, e1.trans e2, c2, fun _ _ => ne⟩
end line
