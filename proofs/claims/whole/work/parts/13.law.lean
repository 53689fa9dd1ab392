/-! L2, by program (wip/whole/gen/gen.py) -/
set_option maxRecDepth 100000 in
noncomputable def f_L_law_1654 (F : Nat) (K18 : Nat → Nat → Nat → Int32 → Hp → Option (Int32 × Hp)) (l0 : Nat) (l1 : Nat) (l2 : Nat) (l3 : Int32) (h : Hp) : Option (Int32 × Hp) :=
  K18 l0 l1 l2 (l3 + 6) h
set_option maxRecDepth 100000 in
set_option maxHeartbeats 4000000 in
theorem T_L_law_1654 (F : Nat) {K18 : Nat → Nat → Nat → Int32 → Hp → Option (Int32 × Hp)} (hK18 : ∀ (l0 : Nat) (l1 : Nat) (l2 : Nat) (l3 : Int32) (h : Hp), G rvI I_L_law 77 18 [(0, .ref l0), (1, .ref l1), (2, .ref l2), (3, .int l3)] [] h (K18 l0 l1 l2 l3 h)) (l0 : Nat) (l1 : Nat) (l2 : Nat) (l3 : Int32) (h : Hp) : G rvI I_L_law 77 1654 [(0, .ref l0), (1, .ref l1), (2, .ref l2), (3, .int l3)] [] h (f_L_law_1654 F K18 l0 l1 l2 l3 h) := by
  delta f_L_law_1654
  refine g_iinc (v' := l3 + 6) (lv' := [(3, .int (l3 + 6)), (0, .ref l0), (1, .ref l1), (2, .ref l2)]) 3 dL_law_1654 rfl rfl (by decide) rfl ?_
  refine g_goto (tgt := 18) dL_law_1657 (by decide) ?_
  refine G_lv [1, 2, 3, 0] rfl ?_
  exact hK18 l0 l1 l2 (l3 + 6) h
set_option maxRecDepth 100000 in
noncomputable def f_L_law_216 (F : Nat) (K18 : Nat → Nat → Nat → Int32 → Hp → Option (Int32 × Hp)) (l0 : Nat) (l1 : Nat) (l2 : Nat) (l3 : Int32) (h : Hp) : Option (Int32 × Hp) :=
  aX h l0 (l3 + 1) fun v14 => aX h l0 (l3 + 2) fun v15 => aX h l0 (l3 + 3) fun v16 => aX h l0 (l3 + 4) fun v17 => aX h l0 (l3 + 5) fun v18 => cV 12 h l1 (f_X11_feed F l1 v14 v15 v16 v17 v18 h) fun v19 h20 => aX h20 l0 (l3 + 1) fun v21 => aX h20 l0 (l3 + 2) fun v22 => aX h20 l0 (l3 + 3) fun v23 => aX h20 l0 (l3 + 4) fun v24 => aX h20 l0 (l3 + 5) fun v25 => cV 13 h20 l2 (f_X12_feed F l2 v21 v22 v23 v24 v25 h20) fun v26 h27 => if v19 = v26 then (f_L_law_1654 F K18 l0 l1 l2 l3 h27) else (some (0, h27))
set_option maxRecDepth 100000 in
set_option maxHeartbeats 4000000 in
theorem T_L_law_216 (F : Nat) {K18 : Nat → Nat → Nat → Int32 → Hp → Option (Int32 × Hp)} (hK18 : ∀ (l0 : Nat) (l1 : Nat) (l2 : Nat) (l3 : Int32) (h : Hp), G rvI I_L_law 77 18 [(0, .ref l0), (1, .ref l1), (2, .ref l2), (3, .int l3)] [] h (K18 l0 l1 l2 l3 h)) (l0 : Nat) (l1 : Nat) (l2 : Nat) (l3 : Int32) (h : Hp) : G rvI I_L_law 77 216 [(0, .ref l0), (1, .ref l1), (2, .ref l2), (3, .int l3)] [] h (f_L_law_216 F K18 l0 l1 l2 l3 h) := by
  delta f_L_law_216
  refine g_aload_n 1 dL_law_216 rfl ?_
  refine g_aload_n 0 dL_law_217 rfl ?_
  refine g_iload_n 3 dL_law_218 rfl ?_
  refine g_iconst (v := 1) dL_law_219 (by decide) ?_
  refine g_iadd dL_law_220 ?_
  refine g_ialdX dL_law_221 (fun v14 => ?_)
  refine g_aload_n 0 dL_law_222 rfl ?_
  refine g_iload_n 3 dL_law_223 rfl ?_
  refine g_iconst (v := 2) dL_law_224 (by decide) ?_
  refine g_iadd dL_law_225 ?_
  refine g_ialdX dL_law_226 (fun v15 => ?_)
  refine g_aload_n 0 dL_law_227 rfl ?_
  refine g_iload_n 3 dL_law_228 rfl ?_
  refine g_iconst (v := 3) dL_law_229 (by decide) ?_
  refine g_iadd dL_law_230 ?_
  refine g_ialdX dL_law_231 (fun v16 => ?_)
  refine g_aload_n 0 dL_law_232 rfl ?_
  refine g_iload_n 3 dL_law_233 rfl ?_
  refine g_iconst (v := 4) dL_law_234 (by decide) ?_
  refine g_iadd dL_law_235 ?_
  refine g_ialdX dL_law_236 (fun v17 => ?_)
  refine g_aload_n 0 dL_law_237 rfl ?_
  refine g_iload_n 3 dL_law_238 rfl ?_
  refine g_iconst (v := 5) dL_law_239 (by decide) ?_
  refine g_iadd dL_law_240 ?_
  refine g_ialdX dL_law_241 (fun v18 => ?_)
  refine g_callVi (J := I_X11_feed) (t := 12) (As := [.int v14, .int v15, .int v16, .int v17, .int v18]) (rest := []) mjv_X11_feed ml_RL_13 ⟨rfl, by decide, by decide⟩ (by decide) rfl rfl (Nat.le_of_ble_eq_true rfl) dL_law_242 (T_X11_feed F l1 v14 v15 v16 v17 v18 h) (fun v19 h20 => ?_)
  refine g_aload_n 2 dL_law_245 rfl ?_
  refine g_aload_n 0 dL_law_246 rfl ?_
  refine g_iload_n 3 dL_law_247 rfl ?_
  refine g_iconst (v := 1) dL_law_248 (by decide) ?_
  refine g_iadd dL_law_249 ?_
  refine g_ialdX dL_law_250 (fun v21 => ?_)
  refine g_aload_n 0 dL_law_251 rfl ?_
  refine g_iload_n 3 dL_law_252 rfl ?_
  refine g_iconst (v := 2) dL_law_253 (by decide) ?_
  refine g_iadd dL_law_254 ?_
  refine g_ialdX dL_law_255 (fun v22 => ?_)
  refine g_aload_n 0 dL_law_256 rfl ?_
  refine g_iload_n 3 dL_law_257 rfl ?_
  refine g_iconst (v := 3) dL_law_258 (by decide) ?_
  refine g_iadd dL_law_259 ?_
  refine g_ialdX dL_law_260 (fun v23 => ?_)
  refine g_aload_n 0 dL_law_261 rfl ?_
  refine g_iload_n 3 dL_law_262 rfl ?_
  refine g_iconst (v := 4) dL_law_263 (by decide) ?_
  refine g_iadd dL_law_264 ?_
  refine g_ialdX dL_law_265 (fun v24 => ?_)
  refine g_aload_n 0 dL_law_266 rfl ?_
  refine g_iload_n 3 dL_law_267 rfl ?_
  refine g_iconst (v := 5) dL_law_268 (by decide) ?_
  refine g_iadd dL_law_269 ?_
  refine g_ialdX dL_law_270 (fun v25 => ?_)
  refine g_callVi (J := I_X12_feed) (t := 13) (As := [.int v21, .int v22, .int v23, .int v24, .int v25]) (rest := [.int v19]) mjv_X12_feed ml_RL_17 ⟨rfl, by decide, by decide⟩ (by decide) rfl rfl (Nat.le_of_ble_eq_true rfl) dL_law_271 (T_X12_feed F l2 v21 v22 v23 v24 v25 h20) (fun v26 h27 => ?_)
  refine g_icmp_eq (tgt := 1654) dL_law_274 (by decide) (fun c28 => ?_) (fun c28 => ?_)
  · refine G_lv [0, 1, 2, 3] rfl ?_
    exact T_L_law_1654 F hK18 l0 l1 l2 l3 h27
  · refine g_iconst (v := 0) dL_law_277 (by decide) ?_
    exact g_zret (ty := .boolean) rfl rfl dL_law_278
set_option maxRecDepth 100000 in
noncomputable def f_L_law_279 (F : Nat) (K18 : Nat → Nat → Nat → Int32 → Hp → Option (Int32 × Hp)) (l0 : Nat) (l1 : Nat) (l2 : Nat) (l3 : Int32) (h : Hp) : Option (Int32 × Hp) :=
  aX h l0 (l3 + 1) fun v30 => cV 12 h l1 (f_X11_house F l1 v30 h) fun v31 h32 => aX h32 l0 (l3 + 1) fun v33 => cV 13 h32 l2 (f_X12_house F l2 v33 h32) fun v34 h35 => if v31 = v34 then (f_L_law_1654 F K18 l0 l1 l2 l3 h35) else (some (0, h35))
set_option maxRecDepth 100000 in
set_option maxHeartbeats 4000000 in
theorem T_L_law_279 (F : Nat) {K18 : Nat → Nat → Nat → Int32 → Hp → Option (Int32 × Hp)} (hK18 : ∀ (l0 : Nat) (l1 : Nat) (l2 : Nat) (l3 : Int32) (h : Hp), G rvI I_L_law 77 18 [(0, .ref l0), (1, .ref l1), (2, .ref l2), (3, .int l3)] [] h (K18 l0 l1 l2 l3 h)) (l0 : Nat) (l1 : Nat) (l2 : Nat) (l3 : Int32) (h : Hp) : G rvI I_L_law 77 279 [(0, .ref l0), (1, .ref l1), (2, .ref l2), (3, .int l3)] [] h (f_L_law_279 F K18 l0 l1 l2 l3 h) := by
  delta f_L_law_279
  refine g_aload_n 1 dL_law_279 rfl ?_
  refine g_aload_n 0 dL_law_280 rfl ?_
  refine g_iload_n 3 dL_law_281 rfl ?_
  refine g_iconst (v := 1) dL_law_282 (by decide) ?_
  refine g_iadd dL_law_283 ?_
  refine g_ialdX dL_law_284 (fun v30 => ?_)
  refine g_callVi (J := I_X11_house) (t := 12) (As := [.int v30]) (rest := []) mjv_X11_house ml_RL_18 ⟨rfl, by decide, by decide⟩ (by decide) rfl rfl (Nat.le_of_ble_eq_true rfl) dL_law_285 (T_X11_house F l1 v30 h) (fun v31 h32 => ?_)
  refine g_aload_n 2 dL_law_288 rfl ?_
  refine g_aload_n 0 dL_law_289 rfl ?_
  refine g_iload_n 3 dL_law_290 rfl ?_
  refine g_iconst (v := 1) dL_law_291 (by decide) ?_
  refine g_iadd dL_law_292 ?_
  refine g_ialdX dL_law_293 (fun v33 => ?_)
  refine g_callVi (J := I_X12_house) (t := 13) (As := [.int v33]) (rest := [.int v31]) mjv_X12_house ml_RL_22 ⟨rfl, by decide, by decide⟩ (by decide) rfl rfl (Nat.le_of_ble_eq_true rfl) dL_law_294 (T_X12_house F l2 v33 h32) (fun v34 h35 => ?_)
  refine g_icmp_eq (tgt := 1654) dL_law_297 (by decide) (fun c36 => ?_) (fun c36 => ?_)
  · refine G_lv [0, 1, 2, 3] rfl ?_
    exact T_L_law_1654 F hK18 l0 l1 l2 l3 h35
  · refine g_iconst (v := 0) dL_law_300 (by decide) ?_
    exact g_zret (ty := .boolean) rfl rfl dL_law_301
set_option maxRecDepth 100000 in
noncomputable def f_L_law_302 (F : Nat) (K18 : Nat → Nat → Nat → Int32 → Hp → Option (Int32 × Hp)) (l0 : Nat) (l1 : Nat) (l2 : Nat) (l3 : Int32) (h : Hp) : Option (Int32 × Hp) :=
  aX h l0 (l3 + 1) fun v38 => cV 12 h l1 (f_X11_fault F l1 v38 h) fun v39 h40 => aX h40 l0 (l3 + 1) fun v41 => cV 13 h40 l2 (f_X12_fault F l2 v41 h40) fun v42 h43 => if v39 = v42 then (f_L_law_1654 F K18 l0 l1 l2 l3 h43) else (some (0, h43))
set_option maxRecDepth 100000 in
set_option maxHeartbeats 4000000 in
theorem T_L_law_302 (F : Nat) {K18 : Nat → Nat → Nat → Int32 → Hp → Option (Int32 × Hp)} (hK18 : ∀ (l0 : Nat) (l1 : Nat) (l2 : Nat) (l3 : Int32) (h : Hp), G rvI I_L_law 77 18 [(0, .ref l0), (1, .ref l1), (2, .ref l2), (3, .int l3)] [] h (K18 l0 l1 l2 l3 h)) (l0 : Nat) (l1 : Nat) (l2 : Nat) (l3 : Int32) (h : Hp) : G rvI I_L_law 77 302 [(0, .ref l0), (1, .ref l1), (2, .ref l2), (3, .int l3)] [] h (f_L_law_302 F K18 l0 l1 l2 l3 h) := by
  delta f_L_law_302
  refine g_aload_n 1 dL_law_302 rfl ?_
  refine g_aload_n 0 dL_law_303 rfl ?_
  refine g_iload_n 3 dL_law_304 rfl ?_
  refine g_iconst (v := 1) dL_law_305 (by decide) ?_
  refine g_iadd dL_law_306 ?_
  refine g_ialdX dL_law_307 (fun v38 => ?_)
  refine g_callVi (J := I_X11_fault) (t := 12) (As := [.int v38]) (rest := []) mjv_X11_fault ml_RL_23 ⟨rfl, by decide, by decide⟩ (by decide) rfl rfl (Nat.le_of_ble_eq_true rfl) dL_law_308 (T_X11_fault F l1 v38 h) (fun v39 h40 => ?_)
  refine g_aload_n 2 dL_law_311 rfl ?_
  refine g_aload_n 0 dL_law_312 rfl ?_
  refine g_iload_n 3 dL_law_313 rfl ?_
  refine g_iconst (v := 1) dL_law_314 (by decide) ?_
  refine g_iadd dL_law_315 ?_
  refine g_ialdX dL_law_316 (fun v41 => ?_)
  refine g_callVi (J := I_X12_fault) (t := 13) (As := [.int v41]) (rest := [.int v39]) mjv_X12_fault ml_RL_26 ⟨rfl, by decide, by decide⟩ (by decide) rfl rfl (Nat.le_of_ble_eq_true rfl) dL_law_317 (T_X12_fault F l2 v41 h40) (fun v42 h43 => ?_)
  refine g_icmp_eq (tgt := 1654) dL_law_320 (by decide) (fun c44 => ?_) (fun c44 => ?_)
  · refine G_lv [0, 1, 2, 3] rfl ?_
    exact T_L_law_1654 F hK18 l0 l1 l2 l3 h43
  · refine g_iconst (v := 0) dL_law_323 (by decide) ?_
    exact g_zret (ty := .boolean) rfl rfl dL_law_324
set_option maxRecDepth 100000 in
noncomputable def f_L_law_325 (F : Nat) (K18 : Nat → Nat → Nat → Int32 → Hp → Option (Int32 × Hp)) (l0 : Nat) (l1 : Nat) (l2 : Nat) (l3 : Int32) (h : Hp) : Option (Int32 × Hp) :=
  aX h l0 (l3 + 1) fun v46 => aX h l0 (l3 + 2) fun v47 => cV 12 h l1 (f_X11_age F l1 v46 v47 h) fun v48 h49 => aX h49 l0 (l3 + 1) fun v50 => aX h49 l0 (l3 + 2) fun v51 => cV 13 h49 l2 (f_X12_age F l2 v50 v51 h49) fun v52 h53 => if v48 = v52 then (f_L_law_1654 F K18 l0 l1 l2 l3 h53) else (some (0, h53))
set_option maxRecDepth 100000 in
set_option maxHeartbeats 4000000 in
theorem T_L_law_325 (F : Nat) {K18 : Nat → Nat → Nat → Int32 → Hp → Option (Int32 × Hp)} (hK18 : ∀ (l0 : Nat) (l1 : Nat) (l2 : Nat) (l3 : Int32) (h : Hp), G rvI I_L_law 77 18 [(0, .ref l0), (1, .ref l1), (2, .ref l2), (3, .int l3)] [] h (K18 l0 l1 l2 l3 h)) (l0 : Nat) (l1 : Nat) (l2 : Nat) (l3 : Int32) (h : Hp) : G rvI I_L_law 77 325 [(0, .ref l0), (1, .ref l1), (2, .ref l2), (3, .int l3)] [] h (f_L_law_325 F K18 l0 l1 l2 l3 h) := by
  delta f_L_law_325
  refine g_aload_n 1 dL_law_325 rfl ?_
  refine g_aload_n 0 dL_law_326 rfl ?_
  refine g_iload_n 3 dL_law_327 rfl ?_
  refine g_iconst (v := 1) dL_law_328 (by decide) ?_
  refine g_iadd dL_law_329 ?_
  refine g_ialdX dL_law_330 (fun v46 => ?_)
  refine g_aload_n 0 dL_law_331 rfl ?_
  refine g_iload_n 3 dL_law_332 rfl ?_
  refine g_iconst (v := 2) dL_law_333 (by decide) ?_
  refine g_iadd dL_law_334 ?_
  refine g_ialdX dL_law_335 (fun v47 => ?_)
  refine g_callVi (J := I_X11_age) (t := 12) (As := [.int v46, .int v47]) (rest := []) mjv_X11_age ml_RL_27 ⟨rfl, by decide, by decide⟩ (by decide) rfl rfl (Nat.le_of_ble_eq_true rfl) dL_law_336 (T_X11_age F l1 v46 v47 h) (fun v48 h49 => ?_)
  refine g_aload_n 2 dL_law_339 rfl ?_
  refine g_aload_n 0 dL_law_340 rfl ?_
  refine g_iload_n 3 dL_law_341 rfl ?_
  refine g_iconst (v := 1) dL_law_342 (by decide) ?_
  refine g_iadd dL_law_343 ?_
  refine g_ialdX dL_law_344 (fun v50 => ?_)
  refine g_aload_n 0 dL_law_345 rfl ?_
  refine g_iload_n 3 dL_law_346 rfl ?_
  refine g_iconst (v := 2) dL_law_347 (by decide) ?_
  refine g_iadd dL_law_348 ?_
  refine g_ialdX dL_law_349 (fun v51 => ?_)
  refine g_callVi (J := I_X12_age) (t := 13) (As := [.int v50, .int v51]) (rest := [.int v48]) mjv_X12_age ml_RL_31 ⟨rfl, by decide, by decide⟩ (by decide) rfl rfl (Nat.le_of_ble_eq_true rfl) dL_law_350 (T_X12_age F l2 v50 v51 h49) (fun v52 h53 => ?_)
  refine g_icmp_eq (tgt := 1654) dL_law_353 (by decide) (fun c54 => ?_) (fun c54 => ?_)
  · refine G_lv [0, 1, 2, 3] rfl ?_
    exact T_L_law_1654 F hK18 l0 l1 l2 l3 h53
  · refine g_iconst (v := 0) dL_law_356 (by decide) ?_
    exact g_zret (ty := .boolean) rfl rfl dL_law_357
set_option maxRecDepth 100000 in
noncomputable def f_L_law_358 (F : Nat) (K18 : Nat → Nat → Nat → Int32 → Hp → Option (Int32 × Hp)) (l0 : Nat) (l1 : Nat) (l2 : Nat) (l3 : Int32) (h : Hp) : Option (Int32 × Hp) :=
  aX h l0 (l3 + 1) fun v56 => aX h l0 (l3 + 2) fun v57 => cV 12 h l1 (f_X11_doing F l1 v56 v57 h) fun v58 h59 => aX h59 l0 (l3 + 1) fun v60 => aX h59 l0 (l3 + 2) fun v61 => cV 13 h59 l2 (f_X12_doing F l2 v60 v61 h59) fun v62 h63 => if v58 = v62 then (f_L_law_1654 F K18 l0 l1 l2 l3 h63) else (some (0, h63))
set_option maxRecDepth 100000 in
set_option maxHeartbeats 4000000 in
theorem T_L_law_358 (F : Nat) {K18 : Nat → Nat → Nat → Int32 → Hp → Option (Int32 × Hp)} (hK18 : ∀ (l0 : Nat) (l1 : Nat) (l2 : Nat) (l3 : Int32) (h : Hp), G rvI I_L_law 77 18 [(0, .ref l0), (1, .ref l1), (2, .ref l2), (3, .int l3)] [] h (K18 l0 l1 l2 l3 h)) (l0 : Nat) (l1 : Nat) (l2 : Nat) (l3 : Int32) (h : Hp) : G rvI I_L_law 77 358 [(0, .ref l0), (1, .ref l1), (2, .ref l2), (3, .int l3)] [] h (f_L_law_358 F K18 l0 l1 l2 l3 h) := by
  delta f_L_law_358
  refine g_aload_n 1 dL_law_358 rfl ?_
  refine g_aload_n 0 dL_law_359 rfl ?_
  refine g_iload_n 3 dL_law_360 rfl ?_
  refine g_iconst (v := 1) dL_law_361 (by decide) ?_
  refine g_iadd dL_law_362 ?_
  refine g_ialdX dL_law_363 (fun v56 => ?_)
  refine g_aload_n 0 dL_law_364 rfl ?_
  refine g_iload_n 3 dL_law_365 rfl ?_
  refine g_iconst (v := 2) dL_law_366 (by decide) ?_
  refine g_iadd dL_law_367 ?_
  refine g_ialdX dL_law_368 (fun v57 => ?_)
  refine g_callVi (J := I_X11_doing) (t := 12) (As := [.int v56, .int v57]) (rest := []) mjv_X11_doing ml_RL_32 ⟨rfl, by decide, by decide⟩ (by decide) rfl rfl (Nat.le_of_ble_eq_true rfl) dL_law_369 (T_X11_doing F l1 v56 v57 h) (fun v58 h59 => ?_)
  refine g_aload_n 2 dL_law_372 rfl ?_
  refine g_aload_n 0 dL_law_373 rfl ?_
  refine g_iload_n 3 dL_law_374 rfl ?_
  refine g_iconst (v := 1) dL_law_375 (by decide) ?_
  refine g_iadd dL_law_376 ?_
  refine g_ialdX dL_law_377 (fun v60 => ?_)
  refine g_aload_n 0 dL_law_378 rfl ?_
  refine g_iload_n 3 dL_law_379 rfl ?_
  refine g_iconst (v := 2) dL_law_380 (by decide) ?_
  refine g_iadd dL_law_381 ?_
  refine g_ialdX dL_law_382 (fun v61 => ?_)
  refine g_callVi (J := I_X12_doing) (t := 13) (As := [.int v60, .int v61]) (rest := [.int v58]) mjv_X12_doing ml_RL_35 ⟨rfl, by decide, by decide⟩ (by decide) rfl rfl (Nat.le_of_ble_eq_true rfl) dL_law_383 (T_X12_doing F l2 v60 v61 h59) (fun v62 h63 => ?_)
  refine g_icmp_eq (tgt := 1654) dL_law_386 (by decide) (fun c64 => ?_) (fun c64 => ?_)
  · refine G_lv [0, 1, 2, 3] rfl ?_
    exact T_L_law_1654 F hK18 l0 l1 l2 l3 h63
  · refine g_iconst (v := 0) dL_law_389 (by decide) ?_
    exact g_zret (ty := .boolean) rfl rfl dL_law_390
set_option maxRecDepth 100000 in
noncomputable def f_L_law_391 (F : Nat) (K18 : Nat → Nat → Nat → Int32 → Hp → Option (Int32 × Hp)) (l0 : Nat) (l1 : Nat) (l2 : Nat) (l3 : Int32) (h : Hp) : Option (Int32 × Hp) :=
  aX h l0 (l3 + 1) fun v66 => cV 12 h l1 (f_X11_does F l1 v66 h) fun v67 h68 => aX h68 l0 (l3 + 1) fun v69 => cV 13 h68 l2 (f_X12_does F l2 v69 h68) fun v70 h71 => if v67 = v70 then (f_L_law_1654 F K18 l0 l1 l2 l3 h71) else (some (0, h71))
set_option maxRecDepth 100000 in
set_option maxHeartbeats 4000000 in
theorem T_L_law_391 (F : Nat) {K18 : Nat → Nat → Nat → Int32 → Hp → Option (Int32 × Hp)} (hK18 : ∀ (l0 : Nat) (l1 : Nat) (l2 : Nat) (l3 : Int32) (h : Hp), G rvI I_L_law 77 18 [(0, .ref l0), (1, .ref l1), (2, .ref l2), (3, .int l3)] [] h (K18 l0 l1 l2 l3 h)) (l0 : Nat) (l1 : Nat) (l2 : Nat) (l3 : Int32) (h : Hp) : G rvI I_L_law 77 391 [(0, .ref l0), (1, .ref l1), (2, .ref l2), (3, .int l3)] [] h (f_L_law_391 F K18 l0 l1 l2 l3 h) := by
  delta f_L_law_391
  refine g_aload_n 1 dL_law_391 rfl ?_
  refine g_aload_n 0 dL_law_392 rfl ?_
  refine g_iload_n 3 dL_law_393 rfl ?_
  refine g_iconst (v := 1) dL_law_394 (by decide) ?_
  refine g_iadd dL_law_395 ?_
  refine g_ialdX dL_law_396 (fun v66 => ?_)
  refine g_callVi (J := I_X11_does) (t := 12) (As := [.int v66]) (rest := []) mjv_X11_does ml_RL_36 ⟨rfl, by decide, by decide⟩ (by decide) rfl rfl (Nat.le_of_ble_eq_true rfl) dL_law_397 (T_X11_does F l1 v66 h) (fun v67 h68 => ?_)
  refine g_aload_n 2 dL_law_400 rfl ?_
  refine g_aload_n 0 dL_law_401 rfl ?_
  refine g_iload_n 3 dL_law_402 rfl ?_
  refine g_iconst (v := 1) dL_law_403 (by decide) ?_
  refine g_iadd dL_law_404 ?_
  refine g_ialdX dL_law_405 (fun v69 => ?_)
  refine g_callVi (J := I_X12_does) (t := 13) (As := [.int v69]) (rest := [.int v67]) mjv_X12_does ml_RL_39 ⟨rfl, by decide, by decide⟩ (by decide) rfl rfl (Nat.le_of_ble_eq_true rfl) dL_law_406 (T_X12_does F l2 v69 h68) (fun v70 h71 => ?_)
  refine g_icmp_eq (tgt := 1654) dL_law_409 (by decide) (fun c72 => ?_) (fun c72 => ?_)
  · refine G_lv [0, 1, 2, 3] rfl ?_
    exact T_L_law_1654 F hK18 l0 l1 l2 l3 h71
  · refine g_iconst (v := 0) dL_law_412 (by decide) ?_
    exact g_zret (ty := .boolean) rfl rfl dL_law_413
set_option maxRecDepth 100000 in
noncomputable def f_L_law_414 (F : Nat) (K18 : Nat → Nat → Nat → Int32 → Hp → Option (Int32 × Hp)) (l0 : Nat) (l1 : Nat) (l2 : Nat) (l3 : Int32) (h : Hp) : Option (Int32 × Hp) :=
  aX h l0 (l3 + 1) fun v74 => aX h l0 (l3 + 2) fun v75 => aX h l0 (l3 + 3) fun v76 => cV 12 h l1 (f_X11_brings F l1 v74 v75 v76 h) fun v77 h78 => aX h78 l0 (l3 + 1) fun v79 => aX h78 l0 (l3 + 2) fun v80 => aX h78 l0 (l3 + 3) fun v81 => cV 13 h78 l2 (f_X12_brings F l2 v79 v80 v81 h78) fun v82 h83 => if v77 = v82 then (f_L_law_1654 F K18 l0 l1 l2 l3 h83) else (some (0, h83))
set_option maxRecDepth 100000 in
set_option maxHeartbeats 4000000 in
theorem T_L_law_414 (F : Nat) {K18 : Nat → Nat → Nat → Int32 → Hp → Option (Int32 × Hp)} (hK18 : ∀ (l0 : Nat) (l1 : Nat) (l2 : Nat) (l3 : Int32) (h : Hp), G rvI I_L_law 77 18 [(0, .ref l0), (1, .ref l1), (2, .ref l2), (3, .int l3)] [] h (K18 l0 l1 l2 l3 h)) (l0 : Nat) (l1 : Nat) (l2 : Nat) (l3 : Int32) (h : Hp) : G rvI I_L_law 77 414 [(0, .ref l0), (1, .ref l1), (2, .ref l2), (3, .int l3)] [] h (f_L_law_414 F K18 l0 l1 l2 l3 h) := by
  delta f_L_law_414
  refine g_aload_n 1 dL_law_414 rfl ?_
  refine g_aload_n 0 dL_law_415 rfl ?_
  refine g_iload_n 3 dL_law_416 rfl ?_
  refine g_iconst (v := 1) dL_law_417 (by decide) ?_
  refine g_iadd dL_law_418 ?_
  refine g_ialdX dL_law_419 (fun v74 => ?_)
  refine g_aload_n 0 dL_law_420 rfl ?_
  refine g_iload_n 3 dL_law_421 rfl ?_
  refine g_iconst (v := 2) dL_law_422 (by decide) ?_
  refine g_iadd dL_law_423 ?_
  refine g_ialdX dL_law_424 (fun v75 => ?_)
  refine g_aload_n 0 dL_law_425 rfl ?_
  refine g_iload_n 3 dL_law_426 rfl ?_
  refine g_iconst (v := 3) dL_law_427 (by decide) ?_
  refine g_iadd dL_law_428 ?_
  refine g_ialdX dL_law_429 (fun v76 => ?_)
  refine g_callVi (J := I_X11_brings) (t := 12) (As := [.int v74, .int v75, .int v76]) (rest := []) mjv_X11_brings ml_RL_40 ⟨rfl, by decide, by decide⟩ (by decide) rfl rfl (Nat.le_of_ble_eq_true rfl) dL_law_430 (T_X11_brings F l1 v74 v75 v76 h) (fun v77 h78 => ?_)
  refine g_aload_n 2 dL_law_433 rfl ?_
  refine g_aload_n 0 dL_law_434 rfl ?_
  refine g_iload_n 3 dL_law_435 rfl ?_
  refine g_iconst (v := 1) dL_law_436 (by decide) ?_
  refine g_iadd dL_law_437 ?_
  refine g_ialdX dL_law_438 (fun v79 => ?_)
  refine g_aload_n 0 dL_law_439 rfl ?_
  refine g_iload_n 3 dL_law_440 rfl ?_
  refine g_iconst (v := 2) dL_law_441 (by decide) ?_
  refine g_iadd dL_law_442 ?_
  refine g_ialdX dL_law_443 (fun v80 => ?_)
  refine g_aload_n 0 dL_law_444 rfl ?_
  refine g_iload_n 3 dL_law_445 rfl ?_
  refine g_iconst (v := 3) dL_law_446 (by decide) ?_
  refine g_iadd dL_law_447 ?_
  refine g_ialdX dL_law_448 (fun v81 => ?_)
  refine g_callVi (J := I_X12_brings) (t := 13) (As := [.int v79, .int v80, .int v81]) (rest := [.int v77]) mjv_X12_brings ml_RL_44 ⟨rfl, by decide, by decide⟩ (by decide) rfl rfl (Nat.le_of_ble_eq_true rfl) dL_law_449 (T_X12_brings F l2 v79 v80 v81 h78) (fun v82 h83 => ?_)
  refine g_icmp_eq (tgt := 1654) dL_law_452 (by decide) (fun c84 => ?_) (fun c84 => ?_)
  · refine G_lv [0, 1, 2, 3] rfl ?_
    exact T_L_law_1654 F hK18 l0 l1 l2 l3 h83
  · refine g_iconst (v := 0) dL_law_455 (by decide) ?_
    exact g_zret (ty := .boolean) rfl rfl dL_law_456
set_option maxRecDepth 100000 in
noncomputable def f_L_law_457 (F : Nat) (K18 : Nat → Nat → Nat → Int32 → Hp → Option (Int32 × Hp)) (l0 : Nat) (l1 : Nat) (l2 : Nat) (l3 : Int32) (h : Hp) : Option (Int32 × Hp) :=
  aX h l0 (l3 + 1) fun v86 => aX h l0 (l3 + 2) fun v87 => cV 12 h l1 (f_X11_tell F l1 v86 v87 h) fun v88 h89 => aX h89 l0 (l3 + 1) fun v90 => aX h89 l0 (l3 + 2) fun v91 => cV 13 h89 l2 (f_X12_tell F l2 v90 v91 h89) fun v92 h93 => if v88 = v92 then (f_L_law_1654 F K18 l0 l1 l2 l3 h93) else (some (0, h93))
set_option maxRecDepth 100000 in
set_option maxHeartbeats 4000000 in
theorem T_L_law_457 (F : Nat) {K18 : Nat → Nat → Nat → Int32 → Hp → Option (Int32 × Hp)} (hK18 : ∀ (l0 : Nat) (l1 : Nat) (l2 : Nat) (l3 : Int32) (h : Hp), G rvI I_L_law 77 18 [(0, .ref l0), (1, .ref l1), (2, .ref l2), (3, .int l3)] [] h (K18 l0 l1 l2 l3 h)) (l0 : Nat) (l1 : Nat) (l2 : Nat) (l3 : Int32) (h : Hp) : G rvI I_L_law 77 457 [(0, .ref l0), (1, .ref l1), (2, .ref l2), (3, .int l3)] [] h (f_L_law_457 F K18 l0 l1 l2 l3 h) := by
  delta f_L_law_457
  refine g_aload_n 1 dL_law_457 rfl ?_
  refine g_aload_n 0 dL_law_458 rfl ?_
  refine g_iload_n 3 dL_law_459 rfl ?_
  refine g_iconst (v := 1) dL_law_460 (by decide) ?_
  refine g_iadd dL_law_461 ?_
  refine g_ialdX dL_law_462 (fun v86 => ?_)
  refine g_aload_n 0 dL_law_463 rfl ?_
  refine g_iload_n 3 dL_law_464 rfl ?_
  refine g_iconst (v := 2) dL_law_465 (by decide) ?_
  refine g_iadd dL_law_466 ?_
  refine g_ialdX dL_law_467 (fun v87 => ?_)
  refine g_callVi (J := I_X11_tell) (t := 12) (As := [.int v86, .int v87]) (rest := []) mjv_X11_tell ml_RL_45 ⟨rfl, by decide, by decide⟩ (by decide) rfl rfl (Nat.le_of_ble_eq_true rfl) dL_law_468 (T_X11_tell F l1 v86 v87 h) (fun v88 h89 => ?_)
  refine g_aload_n 2 dL_law_471 rfl ?_
  refine g_aload_n 0 dL_law_472 rfl ?_
  refine g_iload_n 3 dL_law_473 rfl ?_
  refine g_iconst (v := 1) dL_law_474 (by decide) ?_
  refine g_iadd dL_law_475 ?_
  refine g_ialdX dL_law_476 (fun v90 => ?_)
  refine g_aload_n 0 dL_law_477 rfl ?_
  refine g_iload_n 3 dL_law_478 rfl ?_
  refine g_iconst (v := 2) dL_law_479 (by decide) ?_
  refine g_iadd dL_law_480 ?_
  refine g_ialdX dL_law_481 (fun v91 => ?_)
  refine g_callVi (J := I_X12_tell) (t := 13) (As := [.int v90, .int v91]) (rest := [.int v88]) mjv_X12_tell ml_RL_48 ⟨rfl, by decide, by decide⟩ (by decide) rfl rfl (Nat.le_of_ble_eq_true rfl) dL_law_482 (T_X12_tell F l2 v90 v91 h89) (fun v92 h93 => ?_)
  refine g_icmp_eq (tgt := 1654) dL_law_485 (by decide) (fun c94 => ?_) (fun c94 => ?_)
  · refine G_lv [0, 1, 2, 3] rfl ?_
    exact T_L_law_1654 F hK18 l0 l1 l2 l3 h93
  · refine g_iconst (v := 0) dL_law_488 (by decide) ?_
    exact g_zret (ty := .boolean) rfl rfl dL_law_489
set_option maxRecDepth 100000 in
noncomputable def f_L_law_490 (F : Nat) (K18 : Nat → Nat → Nat → Int32 → Hp → Option (Int32 × Hp)) (l0 : Nat) (l1 : Nat) (l2 : Nat) (l3 : Int32) (h : Hp) : Option (Int32 × Hp) :=
  aX h l0 (l3 + 1) fun v96 => cV 12 h l1 (f_X11_days F l1 v96 h) fun v97 h98 => aX h98 l0 (l3 + 1) fun v99 => cV 13 h98 l2 (f_X12_days F l2 v99 h98) fun v100 h101 => if v97 = v100 then (f_L_law_1654 F K18 l0 l1 l2 l3 h101) else (some (0, h101))
set_option maxRecDepth 100000 in
set_option maxHeartbeats 4000000 in
theorem T_L_law_490 (F : Nat) {K18 : Nat → Nat → Nat → Int32 → Hp → Option (Int32 × Hp)} (hK18 : ∀ (l0 : Nat) (l1 : Nat) (l2 : Nat) (l3 : Int32) (h : Hp), G rvI I_L_law 77 18 [(0, .ref l0), (1, .ref l1), (2, .ref l2), (3, .int l3)] [] h (K18 l0 l1 l2 l3 h)) (l0 : Nat) (l1 : Nat) (l2 : Nat) (l3 : Int32) (h : Hp) : G rvI I_L_law 77 490 [(0, .ref l0), (1, .ref l1), (2, .ref l2), (3, .int l3)] [] h (f_L_law_490 F K18 l0 l1 l2 l3 h) := by
  delta f_L_law_490
  refine g_aload_n 1 dL_law_490 rfl ?_
  refine g_aload_n 0 dL_law_491 rfl ?_
  refine g_iload_n 3 dL_law_492 rfl ?_
  refine g_iconst (v := 1) dL_law_493 (by decide) ?_
  refine g_iadd dL_law_494 ?_
  refine g_ialdX dL_law_495 (fun v96 => ?_)
  refine g_callVi (J := I_X11_days) (t := 12) (As := [.int v96]) (rest := []) mjv_X11_days ml_RL_49 ⟨rfl, by decide, by decide⟩ (by decide) rfl rfl (Nat.le_of_ble_eq_true rfl) dL_law_496 (T_X11_days F l1 v96 h) (fun v97 h98 => ?_)
  refine g_aload_n 2 dL_law_499 rfl ?_
  refine g_aload_n 0 dL_law_500 rfl ?_
  refine g_iload_n 3 dL_law_501 rfl ?_
  refine g_iconst (v := 1) dL_law_502 (by decide) ?_
  refine g_iadd dL_law_503 ?_
  refine g_ialdX dL_law_504 (fun v99 => ?_)
  refine g_callVi (J := I_X12_days) (t := 13) (As := [.int v99]) (rest := [.int v97]) mjv_X12_days ml_RL_52 ⟨rfl, by decide, by decide⟩ (by decide) rfl rfl (Nat.le_of_ble_eq_true rfl) dL_law_505 (T_X12_days F l2 v99 h98) (fun v100 h101 => ?_)
  refine g_icmp_eq (tgt := 1654) dL_law_508 (by decide) (fun c102 => ?_) (fun c102 => ?_)
  · refine G_lv [0, 1, 2, 3] rfl ?_
    exact T_L_law_1654 F hK18 l0 l1 l2 l3 h101
  · refine g_iconst (v := 0) dL_law_511 (by decide) ?_
    exact g_zret (ty := .boolean) rfl rfl dL_law_512
set_option maxRecDepth 100000 in
noncomputable def f_L_law_513 (F : Nat) (K18 : Nat → Nat → Nat → Int32 → Hp → Option (Int32 × Hp)) (l0 : Nat) (l1 : Nat) (l2 : Nat) (l3 : Int32) (h : Hp) : Option (Int32 × Hp) :=
  aX h l0 (l3 + 1) fun v104 => aX h l0 (l3 + 2) fun v105 => cV 12 h l1 (f_X11_forget F l1 v104 v105 h) fun v106 h107 => aX h107 l0 (l3 + 1) fun v108 => aX h107 l0 (l3 + 2) fun v109 => cV 13 h107 l2 (f_X12_forget F l2 v108 v109 h107) fun v110 h111 => if v106 = v110 then (f_L_law_1654 F K18 l0 l1 l2 l3 h111) else (some (0, h111))
set_option maxRecDepth 100000 in
set_option maxHeartbeats 4000000 in
theorem T_L_law_513 (F : Nat) {K18 : Nat → Nat → Nat → Int32 → Hp → Option (Int32 × Hp)} (hK18 : ∀ (l0 : Nat) (l1 : Nat) (l2 : Nat) (l3 : Int32) (h : Hp), G rvI I_L_law 77 18 [(0, .ref l0), (1, .ref l1), (2, .ref l2), (3, .int l3)] [] h (K18 l0 l1 l2 l3 h)) (l0 : Nat) (l1 : Nat) (l2 : Nat) (l3 : Int32) (h : Hp) : G rvI I_L_law 77 513 [(0, .ref l0), (1, .ref l1), (2, .ref l2), (3, .int l3)] [] h (f_L_law_513 F K18 l0 l1 l2 l3 h) := by
  delta f_L_law_513
  refine g_aload_n 1 dL_law_513 rfl ?_
  refine g_aload_n 0 dL_law_514 rfl ?_
  refine g_iload_n 3 dL_law_515 rfl ?_
  refine g_iconst (v := 1) dL_law_516 (by decide) ?_
  refine g_iadd dL_law_517 ?_
  refine g_ialdX dL_law_518 (fun v104 => ?_)
  refine g_aload_n 0 dL_law_519 rfl ?_
  refine g_iload_n 3 dL_law_520 rfl ?_
  refine g_iconst (v := 2) dL_law_521 (by decide) ?_
  refine g_iadd dL_law_522 ?_
  refine g_ialdX dL_law_523 (fun v105 => ?_)
  refine g_callVi (J := I_X11_forget) (t := 12) (As := [.int v104, .int v105]) (rest := []) mjv_X11_forget ml_RL_53 ⟨rfl, by decide, by decide⟩ (by decide) rfl rfl (Nat.le_of_ble_eq_true rfl) dL_law_524 (T_X11_forget F l1 v104 v105 h) (fun v106 h107 => ?_)
  refine g_aload_n 2 dL_law_527 rfl ?_
  refine g_aload_n 0 dL_law_528 rfl ?_
  refine g_iload_n 3 dL_law_529 rfl ?_
  refine g_iconst (v := 1) dL_law_530 (by decide) ?_
  refine g_iadd dL_law_531 ?_
  refine g_ialdX dL_law_532 (fun v108 => ?_)
  refine g_aload_n 0 dL_law_533 rfl ?_
  refine g_iload_n 3 dL_law_534 rfl ?_
  refine g_iconst (v := 2) dL_law_535 (by decide) ?_
  refine g_iadd dL_law_536 ?_
  refine g_ialdX dL_law_537 (fun v109 => ?_)
  refine g_callVi (J := I_X12_forget) (t := 13) (As := [.int v108, .int v109]) (rest := [.int v106]) mjv_X12_forget ml_RL_56 ⟨rfl, by decide, by decide⟩ (by decide) rfl rfl (Nat.le_of_ble_eq_true rfl) dL_law_538 (T_X12_forget F l2 v108 v109 h107) (fun v110 h111 => ?_)
  refine g_icmp_eq (tgt := 1654) dL_law_541 (by decide) (fun c112 => ?_) (fun c112 => ?_)
  · refine G_lv [0, 1, 2, 3] rfl ?_
    exact T_L_law_1654 F hK18 l0 l1 l2 l3 h111
  · refine g_iconst (v := 0) dL_law_544 (by decide) ?_
    exact g_zret (ty := .boolean) rfl rfl dL_law_545
set_option maxRecDepth 100000 in
noncomputable def f_L_law_546 (F : Nat) (K18 : Nat → Nat → Nat → Int32 → Hp → Option (Int32 × Hp)) (l0 : Nat) (l1 : Nat) (l2 : Nat) (l3 : Int32) (h : Hp) : Option (Int32 × Hp) :=
  aX h l0 (l3 + 1) fun v114 => cV 12 h l1 (f_X11_bond F l1 v114 h) fun v115 h116 => aX h116 l0 (l3 + 1) fun v117 => cV 13 h116 l2 (f_X12_bond F l2 v117 h116) fun v118 h119 => if v115 = v118 then (f_L_law_1654 F K18 l0 l1 l2 l3 h119) else (some (0, h119))
set_option maxRecDepth 100000 in
set_option maxHeartbeats 4000000 in
theorem T_L_law_546 (F : Nat) {K18 : Nat → Nat → Nat → Int32 → Hp → Option (Int32 × Hp)} (hK18 : ∀ (l0 : Nat) (l1 : Nat) (l2 : Nat) (l3 : Int32) (h : Hp), G rvI I_L_law 77 18 [(0, .ref l0), (1, .ref l1), (2, .ref l2), (3, .int l3)] [] h (K18 l0 l1 l2 l3 h)) (l0 : Nat) (l1 : Nat) (l2 : Nat) (l3 : Int32) (h : Hp) : G rvI I_L_law 77 546 [(0, .ref l0), (1, .ref l1), (2, .ref l2), (3, .int l3)] [] h (f_L_law_546 F K18 l0 l1 l2 l3 h) := by
  delta f_L_law_546
  refine g_aload_n 1 dL_law_546 rfl ?_
  refine g_aload_n 0 dL_law_547 rfl ?_
  refine g_iload_n 3 dL_law_548 rfl ?_
  refine g_iconst (v := 1) dL_law_549 (by decide) ?_
  refine g_iadd dL_law_550 ?_
  refine g_ialdX dL_law_551 (fun v114 => ?_)
  refine g_callVi (J := I_X11_bond) (t := 12) (As := [.int v114]) (rest := []) mjv_X11_bond ml_RL_57 ⟨rfl, by decide, by decide⟩ (by decide) rfl rfl (Nat.le_of_ble_eq_true rfl) dL_law_552 (T_X11_bond F l1 v114 h) (fun v115 h116 => ?_)
  refine g_aload_n 2 dL_law_555 rfl ?_
  refine g_aload_n 0 dL_law_556 rfl ?_
  refine g_iload_n 3 dL_law_557 rfl ?_
  refine g_iconst (v := 1) dL_law_558 (by decide) ?_
  refine g_iadd dL_law_559 ?_
  refine g_ialdX dL_law_560 (fun v117 => ?_)
  refine g_callVi (J := I_X12_bond) (t := 13) (As := [.int v117]) (rest := [.int v115]) mjv_X12_bond ml_RL_60 ⟨rfl, by decide, by decide⟩ (by decide) rfl rfl (Nat.le_of_ble_eq_true rfl) dL_law_561 (T_X12_bond F l2 v117 h116) (fun v118 h119 => ?_)
  refine g_icmp_eq (tgt := 1654) dL_law_564 (by decide) (fun c120 => ?_) (fun c120 => ?_)
  · refine G_lv [0, 1, 2, 3] rfl ?_
    exact T_L_law_1654 F hK18 l0 l1 l2 l3 h119
  · refine g_iconst (v := 0) dL_law_567 (by decide) ?_
    exact g_zret (ty := .boolean) rfl rfl dL_law_568
set_option maxRecDepth 100000 in
noncomputable def f_L_law_569 (F : Nat) (K18 : Nat → Nat → Nat → Int32 → Hp → Option (Int32 × Hp)) (l0 : Nat) (l1 : Nat) (l2 : Nat) (l3 : Int32) (h : Hp) : Option (Int32 × Hp) :=
  aX h l0 (l3 + 1) fun v122 => cV 12 h l1 (f_X11_undo F l1 v122 h) fun v123 h124 => aX h124 l0 (l3 + 1) fun v125 => cV 13 h124 l2 (f_X12_undo F l2 v125 h124) fun v126 h127 => if v123 = v126 then (f_L_law_1654 F K18 l0 l1 l2 l3 h127) else (some (0, h127))
set_option maxRecDepth 100000 in
set_option maxHeartbeats 4000000 in
theorem T_L_law_569 (F : Nat) {K18 : Nat → Nat → Nat → Int32 → Hp → Option (Int32 × Hp)} (hK18 : ∀ (l0 : Nat) (l1 : Nat) (l2 : Nat) (l3 : Int32) (h : Hp), G rvI I_L_law 77 18 [(0, .ref l0), (1, .ref l1), (2, .ref l2), (3, .int l3)] [] h (K18 l0 l1 l2 l3 h)) (l0 : Nat) (l1 : Nat) (l2 : Nat) (l3 : Int32) (h : Hp) : G rvI I_L_law 77 569 [(0, .ref l0), (1, .ref l1), (2, .ref l2), (3, .int l3)] [] h (f_L_law_569 F K18 l0 l1 l2 l3 h) := by
  delta f_L_law_569
  refine g_aload_n 1 dL_law_569 rfl ?_
  refine g_aload_n 0 dL_law_570 rfl ?_
  refine g_iload_n 3 dL_law_571 rfl ?_
  refine g_iconst (v := 1) dL_law_572 (by decide) ?_
  refine g_iadd dL_law_573 ?_
  refine g_ialdX dL_law_574 (fun v122 => ?_)
  refine g_callVi (J := I_X11_undo) (t := 12) (As := [.int v122]) (rest := []) mjv_X11_undo ml_RL_61 ⟨rfl, by decide, by decide⟩ (by decide) rfl rfl (Nat.le_of_ble_eq_true rfl) dL_law_575 (T_X11_undo F l1 v122 h) (fun v123 h124 => ?_)
  refine g_aload_n 2 dL_law_578 rfl ?_
  refine g_aload_n 0 dL_law_579 rfl ?_
  refine g_iload_n 3 dL_law_580 rfl ?_
  refine g_iconst (v := 1) dL_law_581 (by decide) ?_
  refine g_iadd dL_law_582 ?_
  refine g_ialdX dL_law_583 (fun v125 => ?_)
  refine g_callVi (J := I_X12_undo) (t := 13) (As := [.int v125]) (rest := [.int v123]) mjv_X12_undo ml_RL_64 ⟨rfl, by decide, by decide⟩ (by decide) rfl rfl (Nat.le_of_ble_eq_true rfl) dL_law_584 (T_X12_undo F l2 v125 h124) (fun v126 h127 => ?_)
  refine g_icmp_eq (tgt := 1654) dL_law_587 (by decide) (fun c128 => ?_) (fun c128 => ?_)
  · refine G_lv [0, 1, 2, 3] rfl ?_
    exact T_L_law_1654 F hK18 l0 l1 l2 l3 h127
  · refine g_iconst (v := 0) dL_law_590 (by decide) ?_
    exact g_zret (ty := .boolean) rfl rfl dL_law_591
set_option maxRecDepth 100000 in
noncomputable def f_L_law_592 (F : Nat) (K18 : Nat → Nat → Nat → Int32 → Hp → Option (Int32 × Hp)) (l0 : Nat) (l1 : Nat) (l2 : Nat) (l3 : Int32) (h : Hp) : Option (Int32 × Hp) :=
  aX h l0 (l3 + 1) fun v130 => aX h l0 (l3 + 2) fun v131 => cV 12 h l1 (f_X11_judge F l1 v130 v131 h) fun v132 h133 => aX h133 l0 (l3 + 1) fun v134 => aX h133 l0 (l3 + 2) fun v135 => cV 13 h133 l2 (f_X12_judge F l2 v134 v135 h133) fun v136 h137 => if v132 = v136 then (f_L_law_1654 F K18 l0 l1 l2 l3 h137) else (some (0, h137))
set_option maxRecDepth 100000 in
set_option maxHeartbeats 4000000 in
theorem T_L_law_592 (F : Nat) {K18 : Nat → Nat → Nat → Int32 → Hp → Option (Int32 × Hp)} (hK18 : ∀ (l0 : Nat) (l1 : Nat) (l2 : Nat) (l3 : Int32) (h : Hp), G rvI I_L_law 77 18 [(0, .ref l0), (1, .ref l1), (2, .ref l2), (3, .int l3)] [] h (K18 l0 l1 l2 l3 h)) (l0 : Nat) (l1 : Nat) (l2 : Nat) (l3 : Int32) (h : Hp) : G rvI I_L_law 77 592 [(0, .ref l0), (1, .ref l1), (2, .ref l2), (3, .int l3)] [] h (f_L_law_592 F K18 l0 l1 l2 l3 h) := by
  delta f_L_law_592
  refine g_aload_n 1 dL_law_592 rfl ?_
  refine g_aload_n 0 dL_law_593 rfl ?_
  refine g_iload_n 3 dL_law_594 rfl ?_
  refine g_iconst (v := 1) dL_law_595 (by decide) ?_
  refine g_iadd dL_law_596 ?_
  refine g_ialdX dL_law_597 (fun v130 => ?_)
  refine g_aload_n 0 dL_law_598 rfl ?_
  refine g_iload_n 3 dL_law_599 rfl ?_
  refine g_iconst (v := 2) dL_law_600 (by decide) ?_
  refine g_iadd dL_law_601 ?_
  refine g_ialdX dL_law_602 (fun v131 => ?_)
  refine g_callVi (J := I_X11_judge) (t := 12) (As := [.int v130, .int v131]) (rest := []) mjv_X11_judge ml_RL_65 ⟨rfl, by decide, by decide⟩ (by decide) rfl rfl (Nat.le_of_ble_eq_true rfl) dL_law_603 (T_X11_judge F l1 v130 v131 h) (fun v132 h133 => ?_)
  refine g_aload_n 2 dL_law_606 rfl ?_
  refine g_aload_n 0 dL_law_607 rfl ?_
  refine g_iload_n 3 dL_law_608 rfl ?_
  refine g_iconst (v := 1) dL_law_609 (by decide) ?_
  refine g_iadd dL_law_610 ?_
  refine g_ialdX dL_law_611 (fun v134 => ?_)
  refine g_aload_n 0 dL_law_612 rfl ?_
  refine g_iload_n 3 dL_law_613 rfl ?_
  refine g_iconst (v := 2) dL_law_614 (by decide) ?_
  refine g_iadd dL_law_615 ?_
  refine g_ialdX dL_law_616 (fun v135 => ?_)
  refine g_callVi (J := I_X12_judge) (t := 13) (As := [.int v134, .int v135]) (rest := [.int v132]) mjv_X12_judge ml_RL_68 ⟨rfl, by decide, by decide⟩ (by decide) rfl rfl (Nat.le_of_ble_eq_true rfl) dL_law_617 (T_X12_judge F l2 v134 v135 h133) (fun v136 h137 => ?_)
  refine g_icmp_eq (tgt := 1654) dL_law_620 (by decide) (fun c138 => ?_) (fun c138 => ?_)
  · refine G_lv [0, 1, 2, 3] rfl ?_
    exact T_L_law_1654 F hK18 l0 l1 l2 l3 h137
  · refine g_iconst (v := 0) dL_law_623 (by decide) ?_
    exact g_zret (ty := .boolean) rfl rfl dL_law_624
set_option maxRecDepth 100000 in
noncomputable def f_L_law_625 (F : Nat) (K18 : Nat → Nat → Nat → Int32 → Hp → Option (Int32 × Hp)) (l0 : Nat) (l1 : Nat) (l2 : Nat) (l3 : Int32) (h : Hp) : Option (Int32 × Hp) :=
  aX h l0 (l3 + 1) fun v140 => cV 12 h l1 (f_X11_perform F l1 v140 h) fun v141 h142 => aX h142 l0 (l3 + 1) fun v143 => cV 13 h142 l2 (f_X12_perform F l2 v143 h142) fun v144 h145 => if v141 = v144 then (f_L_law_1654 F K18 l0 l1 l2 l3 h145) else (some (0, h145))
set_option maxRecDepth 100000 in
set_option maxHeartbeats 4000000 in
theorem T_L_law_625 (F : Nat) {K18 : Nat → Nat → Nat → Int32 → Hp → Option (Int32 × Hp)} (hK18 : ∀ (l0 : Nat) (l1 : Nat) (l2 : Nat) (l3 : Int32) (h : Hp), G rvI I_L_law 77 18 [(0, .ref l0), (1, .ref l1), (2, .ref l2), (3, .int l3)] [] h (K18 l0 l1 l2 l3 h)) (l0 : Nat) (l1 : Nat) (l2 : Nat) (l3 : Int32) (h : Hp) : G rvI I_L_law 77 625 [(0, .ref l0), (1, .ref l1), (2, .ref l2), (3, .int l3)] [] h (f_L_law_625 F K18 l0 l1 l2 l3 h) := by
  delta f_L_law_625
  refine g_aload_n 1 dL_law_625 rfl ?_
  refine g_aload_n 0 dL_law_626 rfl ?_
  refine g_iload_n 3 dL_law_627 rfl ?_
  refine g_iconst (v := 1) dL_law_628 (by decide) ?_
  refine g_iadd dL_law_629 ?_
  refine g_ialdX dL_law_630 (fun v140 => ?_)
  refine g_callVi (J := I_X11_perform) (t := 12) (As := [.int v140]) (rest := []) mjv_X11_perform ml_RL_69 ⟨rfl, by decide, by decide⟩ (by decide) rfl rfl (Nat.le_of_ble_eq_true rfl) dL_law_631 (T_X11_perform F l1 v140 h) (fun v141 h142 => ?_)
  refine g_aload_n 2 dL_law_634 rfl ?_
  refine g_aload_n 0 dL_law_635 rfl ?_
  refine g_iload_n 3 dL_law_636 rfl ?_
  refine g_iconst (v := 1) dL_law_637 (by decide) ?_
  refine g_iadd dL_law_638 ?_
  refine g_ialdX dL_law_639 (fun v143 => ?_)
  refine g_callVi (J := I_X12_perform) (t := 13) (As := [.int v143]) (rest := [.int v141]) mjv_X12_perform ml_RL_72 ⟨rfl, by decide, by decide⟩ (by decide) rfl rfl (Nat.le_of_ble_eq_true rfl) dL_law_640 (T_X12_perform F l2 v143 h142) (fun v144 h145 => ?_)
  refine g_icmp_eq (tgt := 1654) dL_law_643 (by decide) (fun c146 => ?_) (fun c146 => ?_)
  · refine G_lv [0, 1, 2, 3] rfl ?_
    exact T_L_law_1654 F hK18 l0 l1 l2 l3 h145
  · refine g_iconst (v := 0) dL_law_646 (by decide) ?_
    exact g_zret (ty := .boolean) rfl rfl dL_law_647
set_option maxRecDepth 100000 in
noncomputable def f_L_law_648 (F : Nat) (K18 : Nat → Nat → Nat → Int32 → Hp → Option (Int32 × Hp)) (l0 : Nat) (l1 : Nat) (l2 : Nat) (l3 : Int32) (h : Hp) : Option (Int32 × Hp) :=
  aX h l0 (l3 + 1) fun v148 => aX h l0 (l3 + 2) fun v149 => cV 12 h l1 (f_X11_year F l1 v148 v149 h) fun v150 h151 => aX h151 l0 (l3 + 1) fun v152 => aX h151 l0 (l3 + 2) fun v153 => cV 13 h151 l2 (f_X12_year F l2 v152 v153 h151) fun v154 h155 => if v150 = v154 then (f_L_law_1654 F K18 l0 l1 l2 l3 h155) else (some (0, h155))
set_option maxRecDepth 100000 in
set_option maxHeartbeats 4000000 in
theorem T_L_law_648 (F : Nat) {K18 : Nat → Nat → Nat → Int32 → Hp → Option (Int32 × Hp)} (hK18 : ∀ (l0 : Nat) (l1 : Nat) (l2 : Nat) (l3 : Int32) (h : Hp), G rvI I_L_law 77 18 [(0, .ref l0), (1, .ref l1), (2, .ref l2), (3, .int l3)] [] h (K18 l0 l1 l2 l3 h)) (l0 : Nat) (l1 : Nat) (l2 : Nat) (l3 : Int32) (h : Hp) : G rvI I_L_law 77 648 [(0, .ref l0), (1, .ref l1), (2, .ref l2), (3, .int l3)] [] h (f_L_law_648 F K18 l0 l1 l2 l3 h) := by
  delta f_L_law_648
  refine g_aload_n 1 dL_law_648 rfl ?_
  refine g_aload_n 0 dL_law_649 rfl ?_
  refine g_iload_n 3 dL_law_650 rfl ?_
  refine g_iconst (v := 1) dL_law_651 (by decide) ?_
  refine g_iadd dL_law_652 ?_
  refine g_ialdX dL_law_653 (fun v148 => ?_)
  refine g_aload_n 0 dL_law_654 rfl ?_
  refine g_iload_n 3 dL_law_655 rfl ?_
  refine g_iconst (v := 2) dL_law_656 (by decide) ?_
  refine g_iadd dL_law_657 ?_
  refine g_ialdX dL_law_658 (fun v149 => ?_)
  refine g_callVi (J := I_X11_year) (t := 12) (As := [.int v148, .int v149]) (rest := []) mjv_X11_year ml_RL_73 ⟨rfl, by decide, by decide⟩ (by decide) rfl rfl (Nat.le_of_ble_eq_true rfl) dL_law_659 (T_X11_year F l1 v148 v149 h) (fun v150 h151 => ?_)
  refine g_aload_n 2 dL_law_662 rfl ?_
  refine g_aload_n 0 dL_law_663 rfl ?_
  refine g_iload_n 3 dL_law_664 rfl ?_
  refine g_iconst (v := 1) dL_law_665 (by decide) ?_
  refine g_iadd dL_law_666 ?_
  refine g_ialdX dL_law_667 (fun v152 => ?_)
  refine g_aload_n 0 dL_law_668 rfl ?_
  refine g_iload_n 3 dL_law_669 rfl ?_
  refine g_iconst (v := 2) dL_law_670 (by decide) ?_
  refine g_iadd dL_law_671 ?_
  refine g_ialdX dL_law_672 (fun v153 => ?_)
  refine g_callVi (J := I_X12_year) (t := 13) (As := [.int v152, .int v153]) (rest := [.int v150]) mjv_X12_year ml_RL_76 ⟨rfl, by decide, by decide⟩ (by decide) rfl rfl (Nat.le_of_ble_eq_true rfl) dL_law_673 (T_X12_year F l2 v152 v153 h151) (fun v154 h155 => ?_)
  refine g_icmp_eq (tgt := 1654) dL_law_676 (by decide) (fun c156 => ?_) (fun c156 => ?_)
  · refine G_lv [0, 1, 2, 3] rfl ?_
    exact T_L_law_1654 F hK18 l0 l1 l2 l3 h155
  · refine g_iconst (v := 0) dL_law_679 (by decide) ?_
    exact g_zret (ty := .boolean) rfl rfl dL_law_680
set_option maxRecDepth 100000 in
noncomputable def f_L_law_681 (F : Nat) (K18 : Nat → Nat → Nat → Int32 → Hp → Option (Int32 × Hp)) (l0 : Nat) (l1 : Nat) (l2 : Nat) (l3 : Int32) (h : Hp) : Option (Int32 × Hp) :=
  aX h l0 (l3 + 1) fun v158 => aX h l0 (l3 + 2) fun v159 => cV 12 h l1 (f_X11_soonest F l1 v158 v159 h) fun v160 h161 => aX h161 l0 (l3 + 1) fun v162 => aX h161 l0 (l3 + 2) fun v163 => cV 13 h161 l2 (f_X12_soonest F l2 v162 v163 h161) fun v164 h165 => if v160 = v164 then (f_L_law_1654 F K18 l0 l1 l2 l3 h165) else (some (0, h165))
set_option maxRecDepth 100000 in
set_option maxHeartbeats 4000000 in
theorem T_L_law_681 (F : Nat) {K18 : Nat → Nat → Nat → Int32 → Hp → Option (Int32 × Hp)} (hK18 : ∀ (l0 : Nat) (l1 : Nat) (l2 : Nat) (l3 : Int32) (h : Hp), G rvI I_L_law 77 18 [(0, .ref l0), (1, .ref l1), (2, .ref l2), (3, .int l3)] [] h (K18 l0 l1 l2 l3 h)) (l0 : Nat) (l1 : Nat) (l2 : Nat) (l3 : Int32) (h : Hp) : G rvI I_L_law 77 681 [(0, .ref l0), (1, .ref l1), (2, .ref l2), (3, .int l3)] [] h (f_L_law_681 F K18 l0 l1 l2 l3 h) := by
  delta f_L_law_681
  refine g_aload_n 1 dL_law_681 rfl ?_
  refine g_aload_n 0 dL_law_682 rfl ?_
  refine g_iload_n 3 dL_law_683 rfl ?_
  refine g_iconst (v := 1) dL_law_684 (by decide) ?_
  refine g_iadd dL_law_685 ?_
  refine g_ialdX dL_law_686 (fun v158 => ?_)
  refine g_aload_n 0 dL_law_687 rfl ?_
  refine g_iload_n 3 dL_law_688 rfl ?_
  refine g_iconst (v := 2) dL_law_689 (by decide) ?_
  refine g_iadd dL_law_690 ?_
  refine g_ialdX dL_law_691 (fun v159 => ?_)
  refine g_callVi (J := I_X11_soonest) (t := 12) (As := [.int v158, .int v159]) (rest := []) mjv_X11_soonest ml_RL_77 ⟨rfl, by decide, by decide⟩ (by decide) rfl rfl (Nat.le_of_ble_eq_true rfl) dL_law_692 (T_X11_soonest F l1 v158 v159 h) (fun v160 h161 => ?_)
  refine g_aload_n 2 dL_law_695 rfl ?_
  refine g_aload_n 0 dL_law_696 rfl ?_
  refine g_iload_n 3 dL_law_697 rfl ?_
  refine g_iconst (v := 1) dL_law_698 (by decide) ?_
  refine g_iadd dL_law_699 ?_
  refine g_ialdX dL_law_700 (fun v162 => ?_)
  refine g_aload_n 0 dL_law_701 rfl ?_
  refine g_iload_n 3 dL_law_702 rfl ?_
  refine g_iconst (v := 2) dL_law_703 (by decide) ?_
  refine g_iadd dL_law_704 ?_
  refine g_ialdX dL_law_705 (fun v163 => ?_)
  refine g_callVi (J := I_X12_soonest) (t := 13) (As := [.int v162, .int v163]) (rest := [.int v160]) mjv_X12_soonest ml_RL_80 ⟨rfl, by decide, by decide⟩ (by decide) rfl rfl (Nat.le_of_ble_eq_true rfl) dL_law_706 (T_X12_soonest F l2 v162 v163 h161) (fun v164 h165 => ?_)
  refine g_icmp_eq (tgt := 1654) dL_law_709 (by decide) (fun c166 => ?_) (fun c166 => ?_)
  · refine G_lv [0, 1, 2, 3] rfl ?_
    exact T_L_law_1654 F hK18 l0 l1 l2 l3 h165
  · refine g_iconst (v := 0) dL_law_712 (by decide) ?_
    exact g_zret (ty := .boolean) rfl rfl dL_law_713
set_option maxRecDepth 100000 in
noncomputable def f_L_law_714 (F : Nat) (K18 : Nat → Nat → Nat → Int32 → Hp → Option (Int32 × Hp)) (l0 : Nat) (l1 : Nat) (l2 : Nat) (l3 : Int32) (h : Hp) : Option (Int32 × Hp) :=
  aX h l0 (l3 + 1) fun v168 => aX h l0 (l3 + 2) fun v169 => aX h l0 (l3 + 3) fun v170 => cV 12 h l1 (f_X11_way F l1 v168 v169 v170 h) fun v171 h172 => aX h172 l0 (l3 + 1) fun v173 => aX h172 l0 (l3 + 2) fun v174 => aX h172 l0 (l3 + 3) fun v175 => cV 13 h172 l2 (f_X12_way F l2 v173 v174 v175 h172) fun v176 h177 => if v171 = v176 then (f_L_law_1654 F K18 l0 l1 l2 l3 h177) else (some (0, h177))
set_option maxRecDepth 100000 in
set_option maxHeartbeats 4000000 in
theorem T_L_law_714 (F : Nat) {K18 : Nat → Nat → Nat → Int32 → Hp → Option (Int32 × Hp)} (hK18 : ∀ (l0 : Nat) (l1 : Nat) (l2 : Nat) (l3 : Int32) (h : Hp), G rvI I_L_law 77 18 [(0, .ref l0), (1, .ref l1), (2, .ref l2), (3, .int l3)] [] h (K18 l0 l1 l2 l3 h)) (l0 : Nat) (l1 : Nat) (l2 : Nat) (l3 : Int32) (h : Hp) : G rvI I_L_law 77 714 [(0, .ref l0), (1, .ref l1), (2, .ref l2), (3, .int l3)] [] h (f_L_law_714 F K18 l0 l1 l2 l3 h) := by
  delta f_L_law_714
  refine g_aload_n 1 dL_law_714 rfl ?_
  refine g_aload_n 0 dL_law_715 rfl ?_
  refine g_iload_n 3 dL_law_716 rfl ?_
  refine g_iconst (v := 1) dL_law_717 (by decide) ?_
  refine g_iadd dL_law_718 ?_
  refine g_ialdX dL_law_719 (fun v168 => ?_)
  refine g_aload_n 0 dL_law_720 rfl ?_
  refine g_iload_n 3 dL_law_721 rfl ?_
  refine g_iconst (v := 2) dL_law_722 (by decide) ?_
  refine g_iadd dL_law_723 ?_
  refine g_ialdX dL_law_724 (fun v169 => ?_)
  refine g_aload_n 0 dL_law_725 rfl ?_
  refine g_iload_n 3 dL_law_726 rfl ?_
  refine g_iconst (v := 3) dL_law_727 (by decide) ?_
  refine g_iadd dL_law_728 ?_
  refine g_ialdX dL_law_729 (fun v170 => ?_)
  refine g_callVi (J := I_X11_way) (t := 12) (As := [.int v168, .int v169, .int v170]) (rest := []) mjv_X11_way ml_RL_81 ⟨rfl, by decide, by decide⟩ (by decide) rfl rfl (Nat.le_of_ble_eq_true rfl) dL_law_730 (T_X11_way F l1 v168 v169 v170 h) (fun v171 h172 => ?_)
  refine g_aload_n 2 dL_law_733 rfl ?_
  refine g_aload_n 0 dL_law_734 rfl ?_
  refine g_iload_n 3 dL_law_735 rfl ?_
  refine g_iconst (v := 1) dL_law_736 (by decide) ?_
  refine g_iadd dL_law_737 ?_
  refine g_ialdX dL_law_738 (fun v173 => ?_)
  refine g_aload_n 0 dL_law_739 rfl ?_
  refine g_iload_n 3 dL_law_740 rfl ?_
  refine g_iconst (v := 2) dL_law_741 (by decide) ?_
  refine g_iadd dL_law_742 ?_
  refine g_ialdX dL_law_743 (fun v174 => ?_)
  refine g_aload_n 0 dL_law_744 rfl ?_
  refine g_iload_n 3 dL_law_745 rfl ?_
  refine g_iconst (v := 3) dL_law_746 (by decide) ?_
  refine g_iadd dL_law_747 ?_
  refine g_ialdX dL_law_748 (fun v175 => ?_)
  refine g_callVi (J := I_X12_way) (t := 13) (As := [.int v173, .int v174, .int v175]) (rest := [.int v171]) mjv_X12_way ml_RL_84 ⟨rfl, by decide, by decide⟩ (by decide) rfl rfl (Nat.le_of_ble_eq_true rfl) dL_law_749 (T_X12_way F l2 v173 v174 v175 h172) (fun v176 h177 => ?_)
  refine g_icmp_eq (tgt := 1654) dL_law_752 (by decide) (fun c178 => ?_) (fun c178 => ?_)
  · refine G_lv [0, 1, 2, 3] rfl ?_
    exact T_L_law_1654 F hK18 l0 l1 l2 l3 h177
  · refine g_iconst (v := 0) dL_law_755 (by decide) ?_
    exact g_zret (ty := .boolean) rfl rfl dL_law_756
set_option maxRecDepth 100000 in
noncomputable def f_L_law_757 (F : Nat) (K18 : Nat → Nat → Nat → Int32 → Hp → Option (Int32 × Hp)) (l0 : Nat) (l1 : Nat) (l2 : Nat) (l3 : Int32) (h : Hp) : Option (Int32 × Hp) :=
  aX h l0 (l3 + 1) fun v180 => aX h l0 (l3 + 2) fun v181 => cV 12 h l1 (f_X11_alone F l1 v180 v181 h) fun v182 h183 => aX h183 l0 (l3 + 1) fun v184 => aX h183 l0 (l3 + 2) fun v185 => cV 13 h183 l2 (f_X12_alone F l2 v184 v185 h183) fun v186 h187 => if v182 = v186 then (f_L_law_1654 F K18 l0 l1 l2 l3 h187) else (some (0, h187))
set_option maxRecDepth 100000 in
set_option maxHeartbeats 4000000 in
theorem T_L_law_757 (F : Nat) {K18 : Nat → Nat → Nat → Int32 → Hp → Option (Int32 × Hp)} (hK18 : ∀ (l0 : Nat) (l1 : Nat) (l2 : Nat) (l3 : Int32) (h : Hp), G rvI I_L_law 77 18 [(0, .ref l0), (1, .ref l1), (2, .ref l2), (3, .int l3)] [] h (K18 l0 l1 l2 l3 h)) (l0 : Nat) (l1 : Nat) (l2 : Nat) (l3 : Int32) (h : Hp) : G rvI I_L_law 77 757 [(0, .ref l0), (1, .ref l1), (2, .ref l2), (3, .int l3)] [] h (f_L_law_757 F K18 l0 l1 l2 l3 h) := by
  delta f_L_law_757
  refine g_aload_n 1 dL_law_757 rfl ?_
  refine g_aload_n 0 dL_law_758 rfl ?_
  refine g_iload_n 3 dL_law_759 rfl ?_
  refine g_iconst (v := 1) dL_law_760 (by decide) ?_
  refine g_iadd dL_law_761 ?_
  refine g_ialdX dL_law_762 (fun v180 => ?_)
  refine g_aload_n 0 dL_law_763 rfl ?_
  refine g_iload_n 3 dL_law_764 rfl ?_
  refine g_iconst (v := 2) dL_law_765 (by decide) ?_
  refine g_iadd dL_law_766 ?_
  refine g_ialdX dL_law_767 (fun v181 => ?_)
  refine g_callVi (J := I_X11_alone) (t := 12) (As := [.int v180, .int v181]) (rest := []) mjv_X11_alone ml_RL_85 ⟨rfl, by decide, by decide⟩ (by decide) rfl rfl (Nat.le_of_ble_eq_true rfl) dL_law_768 (T_X11_alone F l1 v180 v181 h) (fun v182 h183 => ?_)
  refine g_aload_n 2 dL_law_771 rfl ?_
  refine g_aload_n 0 dL_law_772 rfl ?_
  refine g_iload_n 3 dL_law_773 rfl ?_
  refine g_iconst (v := 1) dL_law_774 (by decide) ?_
  refine g_iadd dL_law_775 ?_
  refine g_ialdX dL_law_776 (fun v184 => ?_)
  refine g_aload_n 0 dL_law_777 rfl ?_
  refine g_iload_n 3 dL_law_778 rfl ?_
  refine g_iconst (v := 2) dL_law_779 (by decide) ?_
  refine g_iadd dL_law_780 ?_
  refine g_ialdX dL_law_781 (fun v185 => ?_)
  refine g_callVi (J := I_X12_alone) (t := 13) (As := [.int v184, .int v185]) (rest := [.int v182]) mjv_X12_alone ml_RL_88 ⟨rfl, by decide, by decide⟩ (by decide) rfl rfl (Nat.le_of_ble_eq_true rfl) dL_law_782 (T_X12_alone F l2 v184 v185 h183) (fun v186 h187 => ?_)
  refine g_icmp_eq (tgt := 1654) dL_law_785 (by decide) (fun c188 => ?_) (fun c188 => ?_)
  · refine G_lv [0, 1, 2, 3] rfl ?_
    exact T_L_law_1654 F hK18 l0 l1 l2 l3 h187
  · refine g_iconst (v := 0) dL_law_788 (by decide) ?_
    exact g_zret (ty := .boolean) rfl rfl dL_law_789
set_option maxRecDepth 100000 in
noncomputable def f_L_law_790 (F : Nat) (K18 : Nat → Nat → Nat → Int32 → Hp → Option (Int32 × Hp)) (l0 : Nat) (l1 : Nat) (l2 : Nat) (l3 : Int32) (h : Hp) : Option (Int32 × Hp) :=
  aX h l0 (l3 + 1) fun v190 => aX h l0 (l3 + 2) fun v191 => aX h l0 (l3 + 3) fun v192 => cV 12 h l1 (f_X11_aloneWay F l1 v190 v191 v192 h) fun v193 h194 => aX h194 l0 (l3 + 1) fun v195 => aX h194 l0 (l3 + 2) fun v196 => aX h194 l0 (l3 + 3) fun v197 => cV 13 h194 l2 (f_X12_aloneWay F l2 v195 v196 v197 h194) fun v198 h199 => if v193 = v198 then (f_L_law_1654 F K18 l0 l1 l2 l3 h199) else (some (0, h199))
set_option maxRecDepth 100000 in
set_option maxHeartbeats 4000000 in
theorem T_L_law_790 (F : Nat) {K18 : Nat → Nat → Nat → Int32 → Hp → Option (Int32 × Hp)} (hK18 : ∀ (l0 : Nat) (l1 : Nat) (l2 : Nat) (l3 : Int32) (h : Hp), G rvI I_L_law 77 18 [(0, .ref l0), (1, .ref l1), (2, .ref l2), (3, .int l3)] [] h (K18 l0 l1 l2 l3 h)) (l0 : Nat) (l1 : Nat) (l2 : Nat) (l3 : Int32) (h : Hp) : G rvI I_L_law 77 790 [(0, .ref l0), (1, .ref l1), (2, .ref l2), (3, .int l3)] [] h (f_L_law_790 F K18 l0 l1 l2 l3 h) := by
  delta f_L_law_790
  refine g_aload_n 1 dL_law_790 rfl ?_
  refine g_aload_n 0 dL_law_791 rfl ?_
  refine g_iload_n 3 dL_law_792 rfl ?_
  refine g_iconst (v := 1) dL_law_793 (by decide) ?_
  refine g_iadd dL_law_794 ?_
  refine g_ialdX dL_law_795 (fun v190 => ?_)
  refine g_aload_n 0 dL_law_796 rfl ?_
  refine g_iload_n 3 dL_law_797 rfl ?_
  refine g_iconst (v := 2) dL_law_798 (by decide) ?_
  refine g_iadd dL_law_799 ?_
  refine g_ialdX dL_law_800 (fun v191 => ?_)
  refine g_aload_n 0 dL_law_801 rfl ?_
  refine g_iload_n 3 dL_law_802 rfl ?_
  refine g_iconst (v := 3) dL_law_803 (by decide) ?_
  refine g_iadd dL_law_804 ?_
  refine g_ialdX dL_law_805 (fun v192 => ?_)
  refine g_callVi (J := I_X11_aloneWay) (t := 12) (As := [.int v190, .int v191, .int v192]) (rest := []) mjv_X11_aloneWay ml_RL_89 ⟨rfl, by decide, by decide⟩ (by decide) rfl rfl (Nat.le_of_ble_eq_true rfl) dL_law_806 (T_X11_aloneWay F l1 v190 v191 v192 h) (fun v193 h194 => ?_)
  refine g_aload_n 2 dL_law_809 rfl ?_
  refine g_aload_n 0 dL_law_810 rfl ?_
  refine g_iload_n 3 dL_law_811 rfl ?_
  refine g_iconst (v := 1) dL_law_812 (by decide) ?_
  refine g_iadd dL_law_813 ?_
  refine g_ialdX dL_law_814 (fun v195 => ?_)
  refine g_aload_n 0 dL_law_815 rfl ?_
  refine g_iload_n 3 dL_law_816 rfl ?_
  refine g_iconst (v := 2) dL_law_817 (by decide) ?_
  refine g_iadd dL_law_818 ?_
  refine g_ialdX dL_law_819 (fun v196 => ?_)
  refine g_aload_n 0 dL_law_820 rfl ?_
  refine g_iload_n 3 dL_law_821 rfl ?_
  refine g_iconst (v := 3) dL_law_822 (by decide) ?_
  refine g_iadd dL_law_823 ?_
  refine g_ialdX dL_law_824 (fun v197 => ?_)
  refine g_callVi (J := I_X12_aloneWay) (t := 13) (As := [.int v195, .int v196, .int v197]) (rest := [.int v193]) mjv_X12_aloneWay ml_RL_92 ⟨rfl, by decide, by decide⟩ (by decide) rfl rfl (Nat.le_of_ble_eq_true rfl) dL_law_825 (T_X12_aloneWay F l2 v195 v196 v197 h194) (fun v198 h199 => ?_)
  refine g_icmp_eq (tgt := 1654) dL_law_828 (by decide) (fun c200 => ?_) (fun c200 => ?_)
  · refine G_lv [0, 1, 2, 3] rfl ?_
    exact T_L_law_1654 F hK18 l0 l1 l2 l3 h199
  · refine g_iconst (v := 0) dL_law_831 (by decide) ?_
    exact g_zret (ty := .boolean) rfl rfl dL_law_832
set_option maxRecDepth 100000 in
noncomputable def f_L_law_833 (F : Nat) (K18 : Nat → Nat → Nat → Int32 → Hp → Option (Int32 × Hp)) (l0 : Nat) (l1 : Nat) (l2 : Nat) (l3 : Int32) (h : Hp) : Option (Int32 × Hp) :=
  aX h l0 (l3 + 1) fun v202 => aX h l0 (l3 + 2) fun v203 => aX h l0 (l3 + 3) fun v204 => cV 12 h l1 (f_X11_rows F l1 v202 v203 v204 h) fun v205 h206 => aX h206 l0 (l3 + 1) fun v207 => aX h206 l0 (l3 + 2) fun v208 => aX h206 l0 (l3 + 3) fun v209 => cV 13 h206 l2 (f_X12_rows F l2 v207 v208 v209 h206) fun v210 h211 => if ((v205 : Int64) = v210 : Prop) then (f_L_law_1654 F K18 l0 l1 l2 l3 h211) else (some (0, h211))
set_option maxRecDepth 100000 in
set_option maxHeartbeats 4000000 in
theorem T_L_law_833 (F : Nat) {K18 : Nat → Nat → Nat → Int32 → Hp → Option (Int32 × Hp)} (hK18 : ∀ (l0 : Nat) (l1 : Nat) (l2 : Nat) (l3 : Int32) (h : Hp), G rvI I_L_law 77 18 [(0, .ref l0), (1, .ref l1), (2, .ref l2), (3, .int l3)] [] h (K18 l0 l1 l2 l3 h)) (l0 : Nat) (l1 : Nat) (l2 : Nat) (l3 : Int32) (h : Hp) : G rvI I_L_law 77 833 [(0, .ref l0), (1, .ref l1), (2, .ref l2), (3, .int l3)] [] h (f_L_law_833 F K18 l0 l1 l2 l3 h) := by
  delta f_L_law_833
  refine g_aload_n 1 dL_law_833 rfl ?_
  refine g_aload_n 0 dL_law_834 rfl ?_
  refine g_iload_n 3 dL_law_835 rfl ?_
  refine g_iconst (v := 1) dL_law_836 (by decide) ?_
  refine g_iadd dL_law_837 ?_
  refine g_ialdX dL_law_838 (fun v202 => ?_)
  refine g_aload_n 0 dL_law_839 rfl ?_
  refine g_iload_n 3 dL_law_840 rfl ?_
  refine g_iconst (v := 2) dL_law_841 (by decide) ?_
  refine g_iadd dL_law_842 ?_
  refine g_ialdX dL_law_843 (fun v203 => ?_)
  refine g_aload_n 0 dL_law_844 rfl ?_
  refine g_iload_n 3 dL_law_845 rfl ?_
  refine g_iconst (v := 3) dL_law_846 (by decide) ?_
  refine g_iadd dL_law_847 ?_
  refine g_ialdX dL_law_848 (fun v204 => ?_)
  refine g_callVl (J := I_X11_rows) (t := 12) (As := [.int v202, .int v203, .int v204]) (rest := []) mjv_X11_rows ml_RL_93 ⟨rfl, by decide, by decide⟩ (by decide) rfl rfl (Nat.le_of_ble_eq_true rfl) dL_law_849 (T_X11_rows F l1 v202 v203 v204 h) (fun v205 h206 => ?_)
  refine g_aload_n 2 dL_law_852 rfl ?_
  refine g_aload_n 0 dL_law_853 rfl ?_
  refine g_iload_n 3 dL_law_854 rfl ?_
  refine g_iconst (v := 1) dL_law_855 (by decide) ?_
  refine g_iadd dL_law_856 ?_
  refine g_ialdX dL_law_857 (fun v207 => ?_)
  refine g_aload_n 0 dL_law_858 rfl ?_
  refine g_iload_n 3 dL_law_859 rfl ?_
  refine g_iconst (v := 2) dL_law_860 (by decide) ?_
  refine g_iadd dL_law_861 ?_
  refine g_ialdX dL_law_862 (fun v208 => ?_)
  refine g_aload_n 0 dL_law_863 rfl ?_
  refine g_iload_n 3 dL_law_864 rfl ?_
  refine g_iconst (v := 3) dL_law_865 (by decide) ?_
  refine g_iadd dL_law_866 ?_
  refine g_ialdX dL_law_867 (fun v209 => ?_)
  refine g_callVl (J := I_X12_rows) (t := 13) (As := [.int v207, .int v208, .int v209]) (rest := [.long v205]) mjv_X12_rows ml_RL_97 ⟨rfl, by decide, by decide⟩ (by decide) rfl rfl (Nat.le_of_ble_eq_true rfl) dL_law_868 (T_X12_rows F l2 v207 v208 v209 h206) (fun v210 h211 => ?_)
  refine g_lc_eq (x := v205) (y := v210) (tgt := 1654) dL_law_871 dL_law_872 (by decide) (fun c212 => ?_) (fun c212 => ?_)
  · refine G_lv [0, 1, 2, 3] rfl ?_
    exact T_L_law_1654 F hK18 l0 l1 l2 l3 h211
  · refine g_iconst (v := 0) dL_law_875 (by decide) ?_
    exact g_zret (ty := .boolean) rfl rfl dL_law_876
set_option maxRecDepth 100000 in
noncomputable def f_L_law_877 (F : Nat) (K18 : Nat → Nat → Nat → Int32 → Hp → Option (Int32 × Hp)) (l0 : Nat) (l1 : Nat) (l2 : Nat) (l3 : Int32) (h : Hp) : Option (Int32 × Hp) :=
  aX h l0 (l3 + 1) fun v214 => aX h l0 (l3 + 2) fun v215 => cV 12 h l1 (f_X11_needed F l1 v214 v215 h) fun v216 h217 => aX h217 l0 (l3 + 1) fun v218 => aX h217 l0 (l3 + 2) fun v219 => cV 13 h217 l2 (f_X12_needed F l2 v218 v219 h217) fun v220 h221 => if v216 = v220 then (f_L_law_1654 F K18 l0 l1 l2 l3 h221) else (some (0, h221))
set_option maxRecDepth 100000 in
set_option maxHeartbeats 4000000 in
theorem T_L_law_877 (F : Nat) {K18 : Nat → Nat → Nat → Int32 → Hp → Option (Int32 × Hp)} (hK18 : ∀ (l0 : Nat) (l1 : Nat) (l2 : Nat) (l3 : Int32) (h : Hp), G rvI I_L_law 77 18 [(0, .ref l0), (1, .ref l1), (2, .ref l2), (3, .int l3)] [] h (K18 l0 l1 l2 l3 h)) (l0 : Nat) (l1 : Nat) (l2 : Nat) (l3 : Int32) (h : Hp) : G rvI I_L_law 77 877 [(0, .ref l0), (1, .ref l1), (2, .ref l2), (3, .int l3)] [] h (f_L_law_877 F K18 l0 l1 l2 l3 h) := by
  delta f_L_law_877
  refine g_aload_n 1 dL_law_877 rfl ?_
  refine g_aload_n 0 dL_law_878 rfl ?_
  refine g_iload_n 3 dL_law_879 rfl ?_
  refine g_iconst (v := 1) dL_law_880 (by decide) ?_
  refine g_iadd dL_law_881 ?_
  refine g_ialdX dL_law_882 (fun v214 => ?_)
  refine g_aload_n 0 dL_law_883 rfl ?_
  refine g_iload_n 3 dL_law_884 rfl ?_
  refine g_iconst (v := 2) dL_law_885 (by decide) ?_
  refine g_iadd dL_law_886 ?_
  refine g_ialdX dL_law_887 (fun v215 => ?_)
  refine g_callVi (J := I_X11_needed) (t := 12) (As := [.int v214, .int v215]) (rest := []) mjv_X11_needed ml_RL_98 ⟨rfl, by decide, by decide⟩ (by decide) rfl rfl (Nat.le_of_ble_eq_true rfl) dL_law_888 (T_X11_needed F l1 v214 v215 h) (fun v216 h217 => ?_)
  refine g_aload_n 2 dL_law_891 rfl ?_
  refine g_aload_n 0 dL_law_892 rfl ?_
  refine g_iload_n 3 dL_law_893 rfl ?_
  refine g_iconst (v := 1) dL_law_894 (by decide) ?_
  refine g_iadd dL_law_895 ?_
  refine g_ialdX dL_law_896 (fun v218 => ?_)
  refine g_aload_n 0 dL_law_897 rfl ?_
  refine g_iload_n 3 dL_law_898 rfl ?_
  refine g_iconst (v := 2) dL_law_899 (by decide) ?_
  refine g_iadd dL_law_900 ?_
  refine g_ialdX dL_law_901 (fun v219 => ?_)
  refine g_callVi (J := I_X12_needed) (t := 13) (As := [.int v218, .int v219]) (rest := [.int v216]) mjv_X12_needed ml_RL_101 ⟨rfl, by decide, by decide⟩ (by decide) rfl rfl (Nat.le_of_ble_eq_true rfl) dL_law_902 (T_X12_needed F l2 v218 v219 h217) (fun v220 h221 => ?_)
  refine g_icmp_eq (tgt := 1654) dL_law_905 (by decide) (fun c222 => ?_) (fun c222 => ?_)
  · refine G_lv [0, 1, 2, 3] rfl ?_
    exact T_L_law_1654 F hK18 l0 l1 l2 l3 h221
  · refine g_iconst (v := 0) dL_law_908 (by decide) ?_
    exact g_zret (ty := .boolean) rfl rfl dL_law_909
set_option maxRecDepth 100000 in
noncomputable def f_L_law_910 (F : Nat) (K18 : Nat → Nat → Nat → Int32 → Hp → Option (Int32 × Hp)) (l0 : Nat) (l1 : Nat) (l2 : Nat) (l3 : Int32) (h : Hp) : Option (Int32 × Hp) :=
  aX h l0 (l3 + 1) fun v224 => aX h l0 (l3 + 2) fun v225 => cV 12 h l1 (f_X11_tellings F l1 v224 v225 h) fun v226 h227 => aX h227 l0 (l3 + 1) fun v228 => aX h227 l0 (l3 + 2) fun v229 => cV 13 h227 l2 (f_X12_tellings F l2 v228 v229 h227) fun v230 h231 => if v226 = v230 then (f_L_law_1654 F K18 l0 l1 l2 l3 h231) else (some (0, h231))
set_option maxRecDepth 100000 in
set_option maxHeartbeats 4000000 in
theorem T_L_law_910 (F : Nat) {K18 : Nat → Nat → Nat → Int32 → Hp → Option (Int32 × Hp)} (hK18 : ∀ (l0 : Nat) (l1 : Nat) (l2 : Nat) (l3 : Int32) (h : Hp), G rvI I_L_law 77 18 [(0, .ref l0), (1, .ref l1), (2, .ref l2), (3, .int l3)] [] h (K18 l0 l1 l2 l3 h)) (l0 : Nat) (l1 : Nat) (l2 : Nat) (l3 : Int32) (h : Hp) : G rvI I_L_law 77 910 [(0, .ref l0), (1, .ref l1), (2, .ref l2), (3, .int l3)] [] h (f_L_law_910 F K18 l0 l1 l2 l3 h) := by
  delta f_L_law_910
  refine g_aload_n 1 dL_law_910 rfl ?_
  refine g_aload_n 0 dL_law_911 rfl ?_
  refine g_iload_n 3 dL_law_912 rfl ?_
  refine g_iconst (v := 1) dL_law_913 (by decide) ?_
  refine g_iadd dL_law_914 ?_
  refine g_ialdX dL_law_915 (fun v224 => ?_)
  refine g_aload_n 0 dL_law_916 rfl ?_
  refine g_iload_n 3 dL_law_917 rfl ?_
  refine g_iconst (v := 2) dL_law_918 (by decide) ?_
  refine g_iadd dL_law_919 ?_
  refine g_ialdX dL_law_920 (fun v225 => ?_)
  refine g_callVi (J := I_X11_tellings) (t := 12) (As := [.int v224, .int v225]) (rest := []) mjv_X11_tellings ml_RL_102 ⟨rfl, by decide, by decide⟩ (by decide) rfl rfl (Nat.le_of_ble_eq_true rfl) dL_law_921 (T_X11_tellings F l1 v224 v225 h) (fun v226 h227 => ?_)
  refine g_aload_n 2 dL_law_924 rfl ?_
  refine g_aload_n 0 dL_law_925 rfl ?_
  refine g_iload_n 3 dL_law_926 rfl ?_
  refine g_iconst (v := 1) dL_law_927 (by decide) ?_
  refine g_iadd dL_law_928 ?_
  refine g_ialdX dL_law_929 (fun v228 => ?_)
  refine g_aload_n 0 dL_law_930 rfl ?_
  refine g_iload_n 3 dL_law_931 rfl ?_
  refine g_iconst (v := 2) dL_law_932 (by decide) ?_
  refine g_iadd dL_law_933 ?_
  refine g_ialdX dL_law_934 (fun v229 => ?_)
  refine g_callVi (J := I_X12_tellings) (t := 13) (As := [.int v228, .int v229]) (rest := [.int v226]) mjv_X12_tellings ml_RL_105 ⟨rfl, by decide, by decide⟩ (by decide) rfl rfl (Nat.le_of_ble_eq_true rfl) dL_law_935 (T_X12_tellings F l2 v228 v229 h227) (fun v230 h231 => ?_)
  refine g_icmp_eq (tgt := 1654) dL_law_938 (by decide) (fun c232 => ?_) (fun c232 => ?_)
  · refine G_lv [0, 1, 2, 3] rfl ?_
    exact T_L_law_1654 F hK18 l0 l1 l2 l3 h231
  · refine g_iconst (v := 0) dL_law_941 (by decide) ?_
    exact g_zret (ty := .boolean) rfl rfl dL_law_942
set_option maxRecDepth 100000 in
noncomputable def f_L_law_943 (F : Nat) (K18 : Nat → Nat → Nat → Int32 → Hp → Option (Int32 × Hp)) (l0 : Nat) (l1 : Nat) (l2 : Nat) (l3 : Int32) (h : Hp) : Option (Int32 × Hp) :=
  aX h l0 (l3 + 1) fun v234 => cV 12 h l1 (f_X11_can F l1 v234 h) fun v235 h236 => aX h236 l0 (l3 + 1) fun v237 => cV 13 h236 l2 (f_X12_can F l2 v237 h236) fun v238 h239 => if v235 = v238 then (f_L_law_1654 F K18 l0 l1 l2 l3 h239) else (some (0, h239))
set_option maxRecDepth 100000 in
set_option maxHeartbeats 4000000 in
theorem T_L_law_943 (F : Nat) {K18 : Nat → Nat → Nat → Int32 → Hp → Option (Int32 × Hp)} (hK18 : ∀ (l0 : Nat) (l1 : Nat) (l2 : Nat) (l3 : Int32) (h : Hp), G rvI I_L_law 77 18 [(0, .ref l0), (1, .ref l1), (2, .ref l2), (3, .int l3)] [] h (K18 l0 l1 l2 l3 h)) (l0 : Nat) (l1 : Nat) (l2 : Nat) (l3 : Int32) (h : Hp) : G rvI I_L_law 77 943 [(0, .ref l0), (1, .ref l1), (2, .ref l2), (3, .int l3)] [] h (f_L_law_943 F K18 l0 l1 l2 l3 h) := by
  delta f_L_law_943
  refine g_aload_n 1 dL_law_943 rfl ?_
  refine g_aload_n 0 dL_law_944 rfl ?_
  refine g_iload_n 3 dL_law_945 rfl ?_
  refine g_iconst (v := 1) dL_law_946 (by decide) ?_
  refine g_iadd dL_law_947 ?_
  refine g_ialdX dL_law_948 (fun v234 => ?_)
  refine g_callVi (J := I_X11_can) (t := 12) (As := [.int v234]) (rest := []) mjv_X11_can ml_RL_106 ⟨rfl, by decide, by decide⟩ (by decide) rfl rfl (Nat.le_of_ble_eq_true rfl) dL_law_949 (T_X11_can F l1 v234 h) (fun v235 h236 => ?_)
  refine g_aload_n 2 dL_law_952 rfl ?_
  refine g_aload_n 0 dL_law_953 rfl ?_
  refine g_iload_n 3 dL_law_954 rfl ?_
  refine g_iconst (v := 1) dL_law_955 (by decide) ?_
  refine g_iadd dL_law_956 ?_
  refine g_ialdX dL_law_957 (fun v237 => ?_)
  refine g_callVi (J := I_X12_can) (t := 13) (As := [.int v237]) (rest := [.int v235]) mjv_X12_can ml_RL_109 ⟨rfl, by decide, by decide⟩ (by decide) rfl rfl (Nat.le_of_ble_eq_true rfl) dL_law_958 (T_X12_can F l2 v237 h236) (fun v238 h239 => ?_)
  refine g_icmp_eq (tgt := 1654) dL_law_961 (by decide) (fun c240 => ?_) (fun c240 => ?_)
  · refine G_lv [0, 1, 2, 3] rfl ?_
    exact T_L_law_1654 F hK18 l0 l1 l2 l3 h239
  · refine g_iconst (v := 0) dL_law_964 (by decide) ?_
    exact g_zret (ty := .boolean) rfl rfl dL_law_965
set_option maxRecDepth 100000 in
noncomputable def f_L_law_966 (F : Nat) (K18 : Nat → Nat → Nat → Int32 → Hp → Option (Int32 × Hp)) (l0 : Nat) (l1 : Nat) (l2 : Nat) (l3 : Int32) (h : Hp) : Option (Int32 × Hp) :=
  cV 12 h l1 (f_X11_stands F l1 h) fun v242 h243 => cV 13 h243 l2 (f_X12_stands F l2 h243) fun v244 h245 => if v242 = v244 then (f_L_law_1654 F K18 l0 l1 l2 l3 h245) else (some (0, h245))
set_option maxRecDepth 100000 in
set_option maxHeartbeats 4000000 in
theorem T_L_law_966 (F : Nat) {K18 : Nat → Nat → Nat → Int32 → Hp → Option (Int32 × Hp)} (hK18 : ∀ (l0 : Nat) (l1 : Nat) (l2 : Nat) (l3 : Int32) (h : Hp), G rvI I_L_law 77 18 [(0, .ref l0), (1, .ref l1), (2, .ref l2), (3, .int l3)] [] h (K18 l0 l1 l2 l3 h)) (l0 : Nat) (l1 : Nat) (l2 : Nat) (l3 : Int32) (h : Hp) : G rvI I_L_law 77 966 [(0, .ref l0), (1, .ref l1), (2, .ref l2), (3, .int l3)] [] h (f_L_law_966 F K18 l0 l1 l2 l3 h) := by
  delta f_L_law_966
  refine g_aload_n 1 dL_law_966 rfl ?_
  refine g_callVi (J := I_X11_stands) (t := 12) (As := []) (rest := []) mjv_X11_stands ml_RL_110 ⟨rfl, by decide, by decide⟩ (by decide) rfl rfl (Nat.le_of_ble_eq_true rfl) dL_law_967 (T_X11_stands F l1 h) (fun v242 h243 => ?_)
  refine g_aload_n 2 dL_law_970 rfl ?_
  refine g_callVi (J := I_X12_stands) (t := 13) (As := []) (rest := [.int v242]) mjv_X12_stands ml_RL_114 ⟨rfl, by decide, by decide⟩ (by decide) rfl rfl (Nat.le_of_ble_eq_true rfl) dL_law_971 (T_X12_stands F l2 h243) (fun v244 h245 => ?_)
  refine g_icmp_eq (tgt := 1654) dL_law_974 (by decide) (fun c246 => ?_) (fun c246 => ?_)
  · refine G_lv [0, 1, 2, 3] rfl ?_
    exact T_L_law_1654 F hK18 l0 l1 l2 l3 h245
  · refine g_iconst (v := 0) dL_law_977 (by decide) ?_
    exact g_zret (ty := .boolean) rfl rfl dL_law_978
set_option maxRecDepth 100000 in
noncomputable def f_L_law_979 (F : Nat) (K18 : Nat → Nat → Nat → Int32 → Hp → Option (Int32 × Hp)) (l0 : Nat) (l1 : Nat) (l2 : Nat) (l3 : Int32) (h : Hp) : Option (Int32 × Hp) :=
  cV 12 h l1 (f_X11_most F l1 h) fun v248 h249 => cV 13 h249 l2 (f_X12_most F l2 h249) fun v250 h251 => if v248 = v250 then (f_L_law_1654 F K18 l0 l1 l2 l3 h251) else (some (0, h251))
set_option maxRecDepth 100000 in
set_option maxHeartbeats 4000000 in
theorem T_L_law_979 (F : Nat) {K18 : Nat → Nat → Nat → Int32 → Hp → Option (Int32 × Hp)} (hK18 : ∀ (l0 : Nat) (l1 : Nat) (l2 : Nat) (l3 : Int32) (h : Hp), G rvI I_L_law 77 18 [(0, .ref l0), (1, .ref l1), (2, .ref l2), (3, .int l3)] [] h (K18 l0 l1 l2 l3 h)) (l0 : Nat) (l1 : Nat) (l2 : Nat) (l3 : Int32) (h : Hp) : G rvI I_L_law 77 979 [(0, .ref l0), (1, .ref l1), (2, .ref l2), (3, .int l3)] [] h (f_L_law_979 F K18 l0 l1 l2 l3 h) := by
  delta f_L_law_979
  refine g_aload_n 1 dL_law_979 rfl ?_
  refine g_callVi (J := I_X11_most) (t := 12) (As := []) (rest := []) mjv_X11_most ml_RL_115 ⟨rfl, by decide, by decide⟩ (by decide) rfl rfl (Nat.le_of_ble_eq_true rfl) dL_law_980 (T_X11_most F l1 h) (fun v248 h249 => ?_)
  refine g_aload_n 2 dL_law_983 rfl ?_
  refine g_callVi (J := I_X12_most) (t := 13) (As := []) (rest := [.int v248]) mjv_X12_most ml_RL_118 ⟨rfl, by decide, by decide⟩ (by decide) rfl rfl (Nat.le_of_ble_eq_true rfl) dL_law_984 (T_X12_most F l2 h249) (fun v250 h251 => ?_)
  refine g_icmp_eq (tgt := 1654) dL_law_987 (by decide) (fun c252 => ?_) (fun c252 => ?_)
  · refine G_lv [0, 1, 2, 3] rfl ?_
    exact T_L_law_1654 F hK18 l0 l1 l2 l3 h251
  · refine g_iconst (v := 0) dL_law_990 (by decide) ?_
    exact g_zret (ty := .boolean) rfl rfl dL_law_991
set_option maxRecDepth 100000 in
noncomputable def f_L_law_992 (F : Nat) (K18 : Nat → Nat → Nat → Int32 → Hp → Option (Int32 × Hp)) (l0 : Nat) (l1 : Nat) (l2 : Nat) (l3 : Int32) (h : Hp) : Option (Int32 × Hp) :=
  aX h l0 (l3 + 1) fun v254 => cV 12 h l1 (f_X11_secret F l1 v254 h) fun v255 h256 => aX h256 l0 (l3 + 1) fun v257 => cV 13 h256 l2 (f_X12_secret F l2 v257 h256) fun v258 h259 => if v255 = v258 then (f_L_law_1654 F K18 l0 l1 l2 l3 h259) else (some (0, h259))
set_option maxRecDepth 100000 in
set_option maxHeartbeats 4000000 in
theorem T_L_law_992 (F : Nat) {K18 : Nat → Nat → Nat → Int32 → Hp → Option (Int32 × Hp)} (hK18 : ∀ (l0 : Nat) (l1 : Nat) (l2 : Nat) (l3 : Int32) (h : Hp), G rvI I_L_law 77 18 [(0, .ref l0), (1, .ref l1), (2, .ref l2), (3, .int l3)] [] h (K18 l0 l1 l2 l3 h)) (l0 : Nat) (l1 : Nat) (l2 : Nat) (l3 : Int32) (h : Hp) : G rvI I_L_law 77 992 [(0, .ref l0), (1, .ref l1), (2, .ref l2), (3, .int l3)] [] h (f_L_law_992 F K18 l0 l1 l2 l3 h) := by
  delta f_L_law_992
  refine g_aload_n 1 dL_law_992 rfl ?_
  refine g_aload_n 0 dL_law_993 rfl ?_
  refine g_iload_n 3 dL_law_994 rfl ?_
  refine g_iconst (v := 1) dL_law_995 (by decide) ?_
  refine g_iadd dL_law_996 ?_
  refine g_ialdX dL_law_997 (fun v254 => ?_)
  refine g_callVi (J := I_X11_secret) (t := 12) (As := [.int v254]) (rest := []) mjv_X11_secret ml_RL_119 ⟨rfl, by decide, by decide⟩ (by decide) rfl rfl (Nat.le_of_ble_eq_true rfl) dL_law_998 (T_X11_secret F l1 v254 h) (fun v255 h256 => ?_)
  refine g_aload_n 2 dL_law_1001 rfl ?_
  refine g_aload_n 0 dL_law_1002 rfl ?_
  refine g_iload_n 3 dL_law_1003 rfl ?_
  refine g_iconst (v := 1) dL_law_1004 (by decide) ?_
  refine g_iadd dL_law_1005 ?_
  refine g_ialdX dL_law_1006 (fun v257 => ?_)
  refine g_callVi (J := I_X12_secret) (t := 13) (As := [.int v257]) (rest := [.int v255]) mjv_X12_secret ml_RL_122 ⟨rfl, by decide, by decide⟩ (by decide) rfl rfl (Nat.le_of_ble_eq_true rfl) dL_law_1007 (T_X12_secret F l2 v257 h256) (fun v258 h259 => ?_)
  refine g_icmp_eq (tgt := 1654) dL_law_1010 (by decide) (fun c260 => ?_) (fun c260 => ?_)
  · refine G_lv [0, 1, 2, 3] rfl ?_
    exact T_L_law_1654 F hK18 l0 l1 l2 l3 h259
  · refine g_iconst (v := 0) dL_law_1013 (by decide) ?_
    exact g_zret (ty := .boolean) rfl rfl dL_law_1014
set_option maxRecDepth 100000 in
noncomputable def f_L_law_1015 (F : Nat) (K18 : Nat → Nat → Nat → Int32 → Hp → Option (Int32 × Hp)) (l0 : Nat) (l1 : Nat) (l2 : Nat) (l3 : Int32) (h : Hp) : Option (Int32 × Hp) :=
  aX h l0 (l3 + 1) fun v262 => cV 12 h l1 (f_X11_overhears F l1 v262 h) fun v263 h264 => aX h264 l0 (l3 + 1) fun v265 => cV 13 h264 l2 (f_X12_overhears F l2 v265 h264) fun v266 h267 => if v263 = v266 then (f_L_law_1654 F K18 l0 l1 l2 l3 h267) else (some (0, h267))
set_option maxRecDepth 100000 in
set_option maxHeartbeats 4000000 in
theorem T_L_law_1015 (F : Nat) {K18 : Nat → Nat → Nat → Int32 → Hp → Option (Int32 × Hp)} (hK18 : ∀ (l0 : Nat) (l1 : Nat) (l2 : Nat) (l3 : Int32) (h : Hp), G rvI I_L_law 77 18 [(0, .ref l0), (1, .ref l1), (2, .ref l2), (3, .int l3)] [] h (K18 l0 l1 l2 l3 h)) (l0 : Nat) (l1 : Nat) (l2 : Nat) (l3 : Int32) (h : Hp) : G rvI I_L_law 77 1015 [(0, .ref l0), (1, .ref l1), (2, .ref l2), (3, .int l3)] [] h (f_L_law_1015 F K18 l0 l1 l2 l3 h) := by
  delta f_L_law_1015
  refine g_aload_n 1 dL_law_1015 rfl ?_
  refine g_aload_n 0 dL_law_1016 rfl ?_
  refine g_iload_n 3 dL_law_1017 rfl ?_
  refine g_iconst (v := 1) dL_law_1018 (by decide) ?_
  refine g_iadd dL_law_1019 ?_
  refine g_ialdX dL_law_1020 (fun v262 => ?_)
  refine g_callVi (J := I_X11_overhears) (t := 12) (As := [.int v262]) (rest := []) mjv_X11_overhears ml_RL_123 ⟨rfl, by decide, by decide⟩ (by decide) rfl rfl (Nat.le_of_ble_eq_true rfl) dL_law_1021 (T_X11_overhears F l1 v262 h) (fun v263 h264 => ?_)
  refine g_aload_n 2 dL_law_1024 rfl ?_
  refine g_aload_n 0 dL_law_1025 rfl ?_
  refine g_iload_n 3 dL_law_1026 rfl ?_
  refine g_iconst (v := 1) dL_law_1027 (by decide) ?_
  refine g_iadd dL_law_1028 ?_
  refine g_ialdX dL_law_1029 (fun v265 => ?_)
  refine g_callVi (J := I_X12_overhears) (t := 13) (As := [.int v265]) (rest := [.int v263]) mjv_X12_overhears ml_RL_126 ⟨rfl, by decide, by decide⟩ (by decide) rfl rfl (Nat.le_of_ble_eq_true rfl) dL_law_1030 (T_X12_overhears F l2 v265 h264) (fun v266 h267 => ?_)
  refine g_icmp_eq (tgt := 1654) dL_law_1033 (by decide) (fun c268 => ?_) (fun c268 => ?_)
  · refine G_lv [0, 1, 2, 3] rfl ?_
    exact T_L_law_1654 F hK18 l0 l1 l2 l3 h267
  · refine g_iconst (v := 0) dL_law_1036 (by decide) ?_
    exact g_zret (ty := .boolean) rfl rfl dL_law_1037
set_option maxRecDepth 100000 in
noncomputable def f_L_law_1038 (F : Nat) (K18 : Nat → Nat → Nat → Int32 → Hp → Option (Int32 × Hp)) (l0 : Nat) (l1 : Nat) (l2 : Nat) (l3 : Int32) (h : Hp) : Option (Int32 × Hp) :=
  aX h l0 (l3 + 1) fun v270 => aX h l0 (l3 + 2) fun v271 => aX h l0 (l3 + 3) fun v272 => cV 12 h l1 (f_X11_told F l1 v270 v271 v272 h) fun v273 h274 => aX h274 l0 (l3 + 1) fun v275 => aX h274 l0 (l3 + 2) fun v276 => aX h274 l0 (l3 + 3) fun v277 => cV 13 h274 l2 (f_X12_told F l2 v275 v276 v277 h274) fun v278 h279 => if v273 = v278 then (f_L_law_1654 F K18 l0 l1 l2 l3 h279) else (some (0, h279))
set_option maxRecDepth 100000 in
set_option maxHeartbeats 4000000 in
theorem T_L_law_1038 (F : Nat) {K18 : Nat → Nat → Nat → Int32 → Hp → Option (Int32 × Hp)} (hK18 : ∀ (l0 : Nat) (l1 : Nat) (l2 : Nat) (l3 : Int32) (h : Hp), G rvI I_L_law 77 18 [(0, .ref l0), (1, .ref l1), (2, .ref l2), (3, .int l3)] [] h (K18 l0 l1 l2 l3 h)) (l0 : Nat) (l1 : Nat) (l2 : Nat) (l3 : Int32) (h : Hp) : G rvI I_L_law 77 1038 [(0, .ref l0), (1, .ref l1), (2, .ref l2), (3, .int l3)] [] h (f_L_law_1038 F K18 l0 l1 l2 l3 h) := by
  delta f_L_law_1038
  refine g_aload_n 1 dL_law_1038 rfl ?_
  refine g_aload_n 0 dL_law_1039 rfl ?_
  refine g_iload_n 3 dL_law_1040 rfl ?_
  refine g_iconst (v := 1) dL_law_1041 (by decide) ?_
  refine g_iadd dL_law_1042 ?_
  refine g_ialdX dL_law_1043 (fun v270 => ?_)
  refine g_aload_n 0 dL_law_1044 rfl ?_
  refine g_iload_n 3 dL_law_1045 rfl ?_
  refine g_iconst (v := 2) dL_law_1046 (by decide) ?_
  refine g_iadd dL_law_1047 ?_
  refine g_ialdX dL_law_1048 (fun v271 => ?_)
  refine g_aload_n 0 dL_law_1049 rfl ?_
  refine g_iload_n 3 dL_law_1050 rfl ?_
  refine g_iconst (v := 3) dL_law_1051 (by decide) ?_
  refine g_iadd dL_law_1052 ?_
  refine g_ialdX dL_law_1053 (fun v272 => ?_)
  refine g_callVi (J := I_X11_told) (t := 12) (As := [.int v270, .int v271, .int v272]) (rest := []) mjv_X11_told ml_RL_127 ⟨rfl, by decide, by decide⟩ (by decide) rfl rfl (Nat.le_of_ble_eq_true rfl) dL_law_1054 (T_X11_told F l1 v270 v271 v272 h) (fun v273 h274 => ?_)
  refine g_aload_n 2 dL_law_1057 rfl ?_
  refine g_aload_n 0 dL_law_1058 rfl ?_
  refine g_iload_n 3 dL_law_1059 rfl ?_
  refine g_iconst (v := 1) dL_law_1060 (by decide) ?_
  refine g_iadd dL_law_1061 ?_
  refine g_ialdX dL_law_1062 (fun v275 => ?_)
  refine g_aload_n 0 dL_law_1063 rfl ?_
  refine g_iload_n 3 dL_law_1064 rfl ?_
  refine g_iconst (v := 2) dL_law_1065 (by decide) ?_
  refine g_iadd dL_law_1066 ?_
  refine g_ialdX dL_law_1067 (fun v276 => ?_)
  refine g_aload_n 0 dL_law_1068 rfl ?_
  refine g_iload_n 3 dL_law_1069 rfl ?_
  refine g_iconst (v := 3) dL_law_1070 (by decide) ?_
  refine g_iadd dL_law_1071 ?_
  refine g_ialdX dL_law_1072 (fun v277 => ?_)
  refine g_callVi (J := I_X12_told) (t := 13) (As := [.int v275, .int v276, .int v277]) (rest := [.int v273]) mjv_X12_told ml_RL_130 ⟨rfl, by decide, by decide⟩ (by decide) rfl rfl (Nat.le_of_ble_eq_true rfl) dL_law_1073 (T_X12_told F l2 v275 v276 v277 h274) (fun v278 h279 => ?_)
  refine g_icmp_eq (tgt := 1654) dL_law_1076 (by decide) (fun c280 => ?_) (fun c280 => ?_)
  · refine G_lv [0, 1, 2, 3] rfl ?_
    exact T_L_law_1654 F hK18 l0 l1 l2 l3 h279
  · refine g_iconst (v := 0) dL_law_1079 (by decide) ?_
    exact g_zret (ty := .boolean) rfl rfl dL_law_1080
set_option maxRecDepth 100000 in
noncomputable def f_L_law_1081 (F : Nat) (K18 : Nat → Nat → Nat → Int32 → Hp → Option (Int32 × Hp)) (l0 : Nat) (l1 : Nat) (l2 : Nat) (l3 : Int32) (h : Hp) : Option (Int32 × Hp) :=
  aX h l0 (l3 + 1) fun v282 => aX h l0 (l3 + 2) fun v283 => aX h l0 (l3 + 3) fun v284 => aX h l0 (l3 + 4) fun v285 => cV 12 h l1 (f_X11_whom F l1 v282 v283 v284 v285 h) fun v286 h287 => aX h287 l0 (l3 + 1) fun v288 => aX h287 l0 (l3 + 2) fun v289 => aX h287 l0 (l3 + 3) fun v290 => aX h287 l0 (l3 + 4) fun v291 => cV 13 h287 l2 (f_X12_whom F l2 v288 v289 v290 v291 h287) fun v292 h293 => if v286 = v292 then (f_L_law_1654 F K18 l0 l1 l2 l3 h293) else (some (0, h293))
set_option maxRecDepth 100000 in
set_option maxHeartbeats 4000000 in
theorem T_L_law_1081 (F : Nat) {K18 : Nat → Nat → Nat → Int32 → Hp → Option (Int32 × Hp)} (hK18 : ∀ (l0 : Nat) (l1 : Nat) (l2 : Nat) (l3 : Int32) (h : Hp), G rvI I_L_law 77 18 [(0, .ref l0), (1, .ref l1), (2, .ref l2), (3, .int l3)] [] h (K18 l0 l1 l2 l3 h)) (l0 : Nat) (l1 : Nat) (l2 : Nat) (l3 : Int32) (h : Hp) : G rvI I_L_law 77 1081 [(0, .ref l0), (1, .ref l1), (2, .ref l2), (3, .int l3)] [] h (f_L_law_1081 F K18 l0 l1 l2 l3 h) := by
  delta f_L_law_1081
  refine g_aload_n 1 dL_law_1081 rfl ?_
  refine g_aload_n 0 dL_law_1082 rfl ?_
  refine g_iload_n 3 dL_law_1083 rfl ?_
  refine g_iconst (v := 1) dL_law_1084 (by decide) ?_
  refine g_iadd dL_law_1085 ?_
  refine g_ialdX dL_law_1086 (fun v282 => ?_)
  refine g_aload_n 0 dL_law_1087 rfl ?_
  refine g_iload_n 3 dL_law_1088 rfl ?_
  refine g_iconst (v := 2) dL_law_1089 (by decide) ?_
  refine g_iadd dL_law_1090 ?_
  refine g_ialdX dL_law_1091 (fun v283 => ?_)
  refine g_aload_n 0 dL_law_1092 rfl ?_
  refine g_iload_n 3 dL_law_1093 rfl ?_
  refine g_iconst (v := 3) dL_law_1094 (by decide) ?_
  refine g_iadd dL_law_1095 ?_
  refine g_ialdX dL_law_1096 (fun v284 => ?_)
  refine g_aload_n 0 dL_law_1097 rfl ?_
  refine g_iload_n 3 dL_law_1098 rfl ?_
  refine g_iconst (v := 4) dL_law_1099 (by decide) ?_
  refine g_iadd dL_law_1100 ?_
  refine g_ialdX dL_law_1101 (fun v285 => ?_)
  refine g_callVi (J := I_X11_whom) (t := 12) (As := [.int v282, .int v283, .int v284, .int v285]) (rest := []) mjv_X11_whom ml_RL_131 ⟨rfl, by decide, by decide⟩ (by decide) rfl rfl (Nat.le_of_ble_eq_true rfl) dL_law_1102 (T_X11_whom F l1 v282 v283 v284 v285 h) (fun v286 h287 => ?_)
  refine g_aload_n 2 dL_law_1105 rfl ?_
  refine g_aload_n 0 dL_law_1106 rfl ?_
  refine g_iload_n 3 dL_law_1107 rfl ?_
  refine g_iconst (v := 1) dL_law_1108 (by decide) ?_
  refine g_iadd dL_law_1109 ?_
  refine g_ialdX dL_law_1110 (fun v288 => ?_)
  refine g_aload_n 0 dL_law_1111 rfl ?_
  refine g_iload_n 3 dL_law_1112 rfl ?_
  refine g_iconst (v := 2) dL_law_1113 (by decide) ?_
  refine g_iadd dL_law_1114 ?_
  refine g_ialdX dL_law_1115 (fun v289 => ?_)
  refine g_aload_n 0 dL_law_1116 rfl ?_
  refine g_iload_n 3 dL_law_1117 rfl ?_
  refine g_iconst (v := 3) dL_law_1118 (by decide) ?_
  refine g_iadd dL_law_1119 ?_
  refine g_ialdX dL_law_1120 (fun v290 => ?_)
  refine g_aload_n 0 dL_law_1121 rfl ?_
  refine g_iload_n 3 dL_law_1122 rfl ?_
  refine g_iconst (v := 4) dL_law_1123 (by decide) ?_
  refine g_iadd dL_law_1124 ?_
  refine g_ialdX dL_law_1125 (fun v291 => ?_)
  refine g_callVi (J := I_X12_whom) (t := 13) (As := [.int v288, .int v289, .int v290, .int v291]) (rest := [.int v286]) mjv_X12_whom ml_RL_135 ⟨rfl, by decide, by decide⟩ (by decide) rfl rfl (Nat.le_of_ble_eq_true rfl) dL_law_1126 (T_X12_whom F l2 v288 v289 v290 v291 h287) (fun v292 h293 => ?_)
  refine g_icmp_eq (tgt := 1654) dL_law_1129 (by decide) (fun c294 => ?_) (fun c294 => ?_)
  · refine G_lv [0, 1, 2, 3] rfl ?_
    exact T_L_law_1654 F hK18 l0 l1 l2 l3 h293
  · refine g_iconst (v := 0) dL_law_1132 (by decide) ?_
    exact g_zret (ty := .boolean) rfl rfl dL_law_1133
set_option maxRecDepth 100000 in
noncomputable def f_L_law_1134 (F : Nat) (K18 : Nat → Nat → Nat → Int32 → Hp → Option (Int32 × Hp)) (l0 : Nat) (l1 : Nat) (l2 : Nat) (l3 : Int32) (h : Hp) : Option (Int32 × Hp) :=
  aX h l0 (l3 + 1) fun v296 => aX h l0 (l3 + 2) fun v297 => aX h l0 (l3 + 3) fun v298 => aX h l0 (l3 + 4) fun v299 => cV 12 h l1 (f_X11_surely F l1 v296 v297 v298 v299 h) fun v300 h301 => aX h301 l0 (l3 + 1) fun v302 => aX h301 l0 (l3 + 2) fun v303 => aX h301 l0 (l3 + 3) fun v304 => aX h301 l0 (l3 + 4) fun v305 => cV 13 h301 l2 (f_X12_surely F l2 v302 v303 v304 v305 h301) fun v306 h307 => if v300 = v306 then (f_L_law_1654 F K18 l0 l1 l2 l3 h307) else (some (0, h307))
set_option maxRecDepth 100000 in
set_option maxHeartbeats 4000000 in
theorem T_L_law_1134 (F : Nat) {K18 : Nat → Nat → Nat → Int32 → Hp → Option (Int32 × Hp)} (hK18 : ∀ (l0 : Nat) (l1 : Nat) (l2 : Nat) (l3 : Int32) (h : Hp), G rvI I_L_law 77 18 [(0, .ref l0), (1, .ref l1), (2, .ref l2), (3, .int l3)] [] h (K18 l0 l1 l2 l3 h)) (l0 : Nat) (l1 : Nat) (l2 : Nat) (l3 : Int32) (h : Hp) : G rvI I_L_law 77 1134 [(0, .ref l0), (1, .ref l1), (2, .ref l2), (3, .int l3)] [] h (f_L_law_1134 F K18 l0 l1 l2 l3 h) := by
  delta f_L_law_1134
  refine g_aload_n 1 dL_law_1134 rfl ?_
  refine g_aload_n 0 dL_law_1135 rfl ?_
  refine g_iload_n 3 dL_law_1136 rfl ?_
  refine g_iconst (v := 1) dL_law_1137 (by decide) ?_
  refine g_iadd dL_law_1138 ?_
  refine g_ialdX dL_law_1139 (fun v296 => ?_)
  refine g_aload_n 0 dL_law_1140 rfl ?_
  refine g_iload_n 3 dL_law_1141 rfl ?_
  refine g_iconst (v := 2) dL_law_1142 (by decide) ?_
  refine g_iadd dL_law_1143 ?_
  refine g_ialdX dL_law_1144 (fun v297 => ?_)
  refine g_aload_n 0 dL_law_1145 rfl ?_
  refine g_iload_n 3 dL_law_1146 rfl ?_
  refine g_iconst (v := 3) dL_law_1147 (by decide) ?_
  refine g_iadd dL_law_1148 ?_
  refine g_ialdX dL_law_1149 (fun v298 => ?_)
  refine g_aload_n 0 dL_law_1150 rfl ?_
  refine g_iload_n 3 dL_law_1151 rfl ?_
  refine g_iconst (v := 4) dL_law_1152 (by decide) ?_
  refine g_iadd dL_law_1153 ?_
  refine g_ialdX dL_law_1154 (fun v299 => ?_)
  refine g_callVi (J := I_X11_surely) (t := 12) (As := [.int v296, .int v297, .int v298, .int v299]) (rest := []) mjv_X11_surely ml_RL_136 ⟨rfl, by decide, by decide⟩ (by decide) rfl rfl (Nat.le_of_ble_eq_true rfl) dL_law_1155 (T_X11_surely F l1 v296 v297 v298 v299 h) (fun v300 h301 => ?_)
  refine g_aload_n 2 dL_law_1158 rfl ?_
  refine g_aload_n 0 dL_law_1159 rfl ?_
  refine g_iload_n 3 dL_law_1160 rfl ?_
  refine g_iconst (v := 1) dL_law_1161 (by decide) ?_
  refine g_iadd dL_law_1162 ?_
  refine g_ialdX dL_law_1163 (fun v302 => ?_)
  refine g_aload_n 0 dL_law_1164 rfl ?_
  refine g_iload_n 3 dL_law_1165 rfl ?_
  refine g_iconst (v := 2) dL_law_1166 (by decide) ?_
  refine g_iadd dL_law_1167 ?_
  refine g_ialdX dL_law_1168 (fun v303 => ?_)
  refine g_aload_n 0 dL_law_1169 rfl ?_
  refine g_iload_n 3 dL_law_1170 rfl ?_
  refine g_iconst (v := 3) dL_law_1171 (by decide) ?_
  refine g_iadd dL_law_1172 ?_
  refine g_ialdX dL_law_1173 (fun v304 => ?_)
  refine g_aload_n 0 dL_law_1174 rfl ?_
  refine g_iload_n 3 dL_law_1175 rfl ?_
  refine g_iconst (v := 4) dL_law_1176 (by decide) ?_
  refine g_iadd dL_law_1177 ?_
  refine g_ialdX dL_law_1178 (fun v305 => ?_)
  refine g_callVi (J := I_X12_surely) (t := 13) (As := [.int v302, .int v303, .int v304, .int v305]) (rest := [.int v300]) mjv_X12_surely ml_RL_139 ⟨rfl, by decide, by decide⟩ (by decide) rfl rfl (Nat.le_of_ble_eq_true rfl) dL_law_1179 (T_X12_surely F l2 v302 v303 v304 v305 h301) (fun v306 h307 => ?_)
  refine g_icmp_eq (tgt := 1654) dL_law_1182 (by decide) (fun c308 => ?_) (fun c308 => ?_)
  · refine G_lv [0, 1, 2, 3] rfl ?_
    exact T_L_law_1654 F hK18 l0 l1 l2 l3 h307
  · refine g_iconst (v := 0) dL_law_1185 (by decide) ?_
    exact g_zret (ty := .boolean) rfl rfl dL_law_1186
set_option maxRecDepth 100000 in
noncomputable def f_L_law_1187 (F : Nat) (K18 : Nat → Nat → Nat → Int32 → Hp → Option (Int32 × Hp)) (l0 : Nat) (l1 : Nat) (l2 : Nat) (l3 : Int32) (h : Hp) : Option (Int32 × Hp) :=
  aX h l0 (l3 + 1) fun v310 => aX h l0 (l3 + 2) fun v311 => aX h l0 (l3 + 3) fun v312 => cV 12 h l1 (f_X11_bonds F l1 v310 v311 v312 h) fun v313 h314 => aX h314 l0 (l3 + 1) fun v315 => aX h314 l0 (l3 + 2) fun v316 => aX h314 l0 (l3 + 3) fun v317 => cV 13 h314 l2 (f_X12_bonds F l2 v315 v316 v317 h314) fun v318 h319 => if v313 = v318 then (f_L_law_1654 F K18 l0 l1 l2 l3 h319) else (some (0, h319))
set_option maxRecDepth 100000 in
set_option maxHeartbeats 4000000 in
theorem T_L_law_1187 (F : Nat) {K18 : Nat → Nat → Nat → Int32 → Hp → Option (Int32 × Hp)} (hK18 : ∀ (l0 : Nat) (l1 : Nat) (l2 : Nat) (l3 : Int32) (h : Hp), G rvI I_L_law 77 18 [(0, .ref l0), (1, .ref l1), (2, .ref l2), (3, .int l3)] [] h (K18 l0 l1 l2 l3 h)) (l0 : Nat) (l1 : Nat) (l2 : Nat) (l3 : Int32) (h : Hp) : G rvI I_L_law 77 1187 [(0, .ref l0), (1, .ref l1), (2, .ref l2), (3, .int l3)] [] h (f_L_law_1187 F K18 l0 l1 l2 l3 h) := by
  delta f_L_law_1187
  refine g_aload_n 1 dL_law_1187 rfl ?_
  refine g_aload_n 0 dL_law_1188 rfl ?_
  refine g_iload_n 3 dL_law_1189 rfl ?_
  refine g_iconst (v := 1) dL_law_1190 (by decide) ?_
  refine g_iadd dL_law_1191 ?_
  refine g_ialdX dL_law_1192 (fun v310 => ?_)
  refine g_aload_n 0 dL_law_1193 rfl ?_
  refine g_iload_n 3 dL_law_1194 rfl ?_
  refine g_iconst (v := 2) dL_law_1195 (by decide) ?_
  refine g_iadd dL_law_1196 ?_
  refine g_ialdX dL_law_1197 (fun v311 => ?_)
  refine g_aload_n 0 dL_law_1198 rfl ?_
  refine g_iload_n 3 dL_law_1199 rfl ?_
  refine g_iconst (v := 3) dL_law_1200 (by decide) ?_
  refine g_iadd dL_law_1201 ?_
  refine g_ialdX dL_law_1202 (fun v312 => ?_)
  refine g_callVi (J := I_X11_bonds) (t := 12) (As := [.int v310, .int v311, .int v312]) (rest := []) mjv_X11_bonds ml_RL_140 ⟨rfl, by decide, by decide⟩ (by decide) rfl rfl (Nat.le_of_ble_eq_true rfl) dL_law_1203 (T_X11_bonds F l1 v310 v311 v312 h) (fun v313 h314 => ?_)
  refine g_aload_n 2 dL_law_1206 rfl ?_
  refine g_aload_n 0 dL_law_1207 rfl ?_
  refine g_iload_n 3 dL_law_1208 rfl ?_
  refine g_iconst (v := 1) dL_law_1209 (by decide) ?_
  refine g_iadd dL_law_1210 ?_
  refine g_ialdX dL_law_1211 (fun v315 => ?_)
  refine g_aload_n 0 dL_law_1212 rfl ?_
  refine g_iload_n 3 dL_law_1213 rfl ?_
  refine g_iconst (v := 2) dL_law_1214 (by decide) ?_
  refine g_iadd dL_law_1215 ?_
  refine g_ialdX dL_law_1216 (fun v316 => ?_)
  refine g_aload_n 0 dL_law_1217 rfl ?_
  refine g_iload_n 3 dL_law_1218 rfl ?_
  refine g_iconst (v := 3) dL_law_1219 (by decide) ?_
  refine g_iadd dL_law_1220 ?_
  refine g_ialdX dL_law_1221 (fun v317 => ?_)
  refine g_callVi (J := I_X12_bonds) (t := 13) (As := [.int v315, .int v316, .int v317]) (rest := [.int v313]) mjv_X12_bonds ml_RL_143 ⟨rfl, by decide, by decide⟩ (by decide) rfl rfl (Nat.le_of_ble_eq_true rfl) dL_law_1222 (T_X12_bonds F l2 v315 v316 v317 h314) (fun v318 h319 => ?_)
  refine g_icmp_eq (tgt := 1654) dL_law_1225 (by decide) (fun c320 => ?_) (fun c320 => ?_)
  · refine G_lv [0, 1, 2, 3] rfl ?_
    exact T_L_law_1654 F hK18 l0 l1 l2 l3 h319
  · refine g_iconst (v := 0) dL_law_1228 (by decide) ?_
    exact g_zret (ty := .boolean) rfl rfl dL_law_1229
set_option maxRecDepth 100000 in
noncomputable def f_L_law_1230 (F : Nat) (K18 : Nat → Nat → Nat → Int32 → Hp → Option (Int32 × Hp)) (l0 : Nat) (l1 : Nat) (l2 : Nat) (l3 : Int32) (h : Hp) : Option (Int32 × Hp) :=
  aX h l0 (l3 + 1) fun v322 => aX h l0 (l3 + 2) fun v323 => aX h l0 (l3 + 3) fun v324 => cV 12 h l1 (f_X11_attempt F l1 v322 v323 v324 h) fun v325 h326 => aX h326 l0 (l3 + 1) fun v327 => aX h326 l0 (l3 + 2) fun v328 => aX h326 l0 (l3 + 3) fun v329 => cV 13 h326 l2 (f_X12_attempt F l2 v327 v328 v329 h326) fun v330 h331 => if v325 = v330 then (f_L_law_1654 F K18 l0 l1 l2 l3 h331) else (some (0, h331))
set_option maxRecDepth 100000 in
set_option maxHeartbeats 4000000 in
theorem T_L_law_1230 (F : Nat) {K18 : Nat → Nat → Nat → Int32 → Hp → Option (Int32 × Hp)} (hK18 : ∀ (l0 : Nat) (l1 : Nat) (l2 : Nat) (l3 : Int32) (h : Hp), G rvI I_L_law 77 18 [(0, .ref l0), (1, .ref l1), (2, .ref l2), (3, .int l3)] [] h (K18 l0 l1 l2 l3 h)) (l0 : Nat) (l1 : Nat) (l2 : Nat) (l3 : Int32) (h : Hp) : G rvI I_L_law 77 1230 [(0, .ref l0), (1, .ref l1), (2, .ref l2), (3, .int l3)] [] h (f_L_law_1230 F K18 l0 l1 l2 l3 h) := by
  delta f_L_law_1230
  refine g_aload_n 1 dL_law_1230 rfl ?_
  refine g_aload_n 0 dL_law_1231 rfl ?_
  refine g_iload_n 3 dL_law_1232 rfl ?_
  refine g_iconst (v := 1) dL_law_1233 (by decide) ?_
  refine g_iadd dL_law_1234 ?_
  refine g_ialdX dL_law_1235 (fun v322 => ?_)
  refine g_aload_n 0 dL_law_1236 rfl ?_
  refine g_iload_n 3 dL_law_1237 rfl ?_
  refine g_iconst (v := 2) dL_law_1238 (by decide) ?_
  refine g_iadd dL_law_1239 ?_
  refine g_ialdX dL_law_1240 (fun v323 => ?_)
  refine g_aload_n 0 dL_law_1241 rfl ?_
  refine g_iload_n 3 dL_law_1242 rfl ?_
  refine g_iconst (v := 3) dL_law_1243 (by decide) ?_
  refine g_iadd dL_law_1244 ?_
  refine g_ialdX dL_law_1245 (fun v324 => ?_)
  refine g_callVi (J := I_X11_attempt) (t := 12) (As := [.int v322, .int v323, .int v324]) (rest := []) mjv_X11_attempt ml_RL_144 ⟨rfl, by decide, by decide⟩ (by decide) rfl rfl (Nat.le_of_ble_eq_true rfl) dL_law_1246 (T_X11_attempt F l1 v322 v323 v324 h) (fun v325 h326 => ?_)
  refine g_aload_n 2 dL_law_1249 rfl ?_
  refine g_aload_n 0 dL_law_1250 rfl ?_
  refine g_iload_n 3 dL_law_1251 rfl ?_
  refine g_iconst (v := 1) dL_law_1252 (by decide) ?_
  refine g_iadd dL_law_1253 ?_
  refine g_ialdX dL_law_1254 (fun v327 => ?_)
  refine g_aload_n 0 dL_law_1255 rfl ?_
  refine g_iload_n 3 dL_law_1256 rfl ?_
  refine g_iconst (v := 2) dL_law_1257 (by decide) ?_
  refine g_iadd dL_law_1258 ?_
  refine g_ialdX dL_law_1259 (fun v328 => ?_)
  refine g_aload_n 0 dL_law_1260 rfl ?_
  refine g_iload_n 3 dL_law_1261 rfl ?_
  refine g_iconst (v := 3) dL_law_1262 (by decide) ?_
  refine g_iadd dL_law_1263 ?_
  refine g_ialdX dL_law_1264 (fun v329 => ?_)
  refine g_callVi (J := I_X12_attempt) (t := 13) (As := [.int v327, .int v328, .int v329]) (rest := [.int v325]) mjv_X12_attempt ml_RL_147 ⟨rfl, by decide, by decide⟩ (by decide) rfl rfl (Nat.le_of_ble_eq_true rfl) dL_law_1265 (T_X12_attempt F l2 v327 v328 v329 h326) (fun v330 h331 => ?_)
  refine g_icmp_eq (tgt := 1654) dL_law_1268 (by decide) (fun c332 => ?_) (fun c332 => ?_)
  · refine G_lv [0, 1, 2, 3] rfl ?_
    exact T_L_law_1654 F hK18 l0 l1 l2 l3 h331
  · refine g_iconst (v := 0) dL_law_1271 (by decide) ?_
    exact g_zret (ty := .boolean) rfl rfl dL_law_1272
set_option maxRecDepth 100000 in
noncomputable def f_L_law_1273 (F : Nat) (K18 : Nat → Nat → Nat → Int32 → Hp → Option (Int32 × Hp)) (l0 : Nat) (l1 : Nat) (l2 : Nat) (l3 : Int32) (h : Hp) : Option (Int32 × Hp) :=
  aX h l0 (l3 + 1) fun v334 => aX h l0 (l3 + 2) fun v335 => cV 12 h l1 (f_X11_forces F l1 v334 v335 h) fun v336 h337 => aX h337 l0 (l3 + 1) fun v338 => aX h337 l0 (l3 + 2) fun v339 => cV 13 h337 l2 (f_X12_forces F l2 v338 v339 h337) fun v340 h341 => if v336 = v340 then (f_L_law_1654 F K18 l0 l1 l2 l3 h341) else (some (0, h341))
set_option maxRecDepth 100000 in
set_option maxHeartbeats 4000000 in
theorem T_L_law_1273 (F : Nat) {K18 : Nat → Nat → Nat → Int32 → Hp → Option (Int32 × Hp)} (hK18 : ∀ (l0 : Nat) (l1 : Nat) (l2 : Nat) (l3 : Int32) (h : Hp), G rvI I_L_law 77 18 [(0, .ref l0), (1, .ref l1), (2, .ref l2), (3, .int l3)] [] h (K18 l0 l1 l2 l3 h)) (l0 : Nat) (l1 : Nat) (l2 : Nat) (l3 : Int32) (h : Hp) : G rvI I_L_law 77 1273 [(0, .ref l0), (1, .ref l1), (2, .ref l2), (3, .int l3)] [] h (f_L_law_1273 F K18 l0 l1 l2 l3 h) := by
  delta f_L_law_1273
  refine g_aload_n 1 dL_law_1273 rfl ?_
  refine g_aload_n 0 dL_law_1274 rfl ?_
  refine g_iload_n 3 dL_law_1275 rfl ?_
  refine g_iconst (v := 1) dL_law_1276 (by decide) ?_
  refine g_iadd dL_law_1277 ?_
  refine g_ialdX dL_law_1278 (fun v334 => ?_)
  refine g_aload_n 0 dL_law_1279 rfl ?_
  refine g_iload_n 3 dL_law_1280 rfl ?_
  refine g_iconst (v := 2) dL_law_1281 (by decide) ?_
  refine g_iadd dL_law_1282 ?_
  refine g_ialdX dL_law_1283 (fun v335 => ?_)
  refine g_callVi (J := I_X11_forces) (t := 12) (As := [.int v334, .int v335]) (rest := []) mjv_X11_forces ml_RL_148 ⟨rfl, by decide, by decide⟩ (by decide) rfl rfl (Nat.le_of_ble_eq_true rfl) dL_law_1284 (T_X11_forces F l1 v334 v335 h) (fun v336 h337 => ?_)
  refine g_aload_n 2 dL_law_1287 rfl ?_
  refine g_aload_n 0 dL_law_1288 rfl ?_
  refine g_iload_n 3 dL_law_1289 rfl ?_
  refine g_iconst (v := 1) dL_law_1290 (by decide) ?_
  refine g_iadd dL_law_1291 ?_
  refine g_ialdX dL_law_1292 (fun v338 => ?_)
  refine g_aload_n 0 dL_law_1293 rfl ?_
  refine g_iload_n 3 dL_law_1294 rfl ?_
  refine g_iconst (v := 2) dL_law_1295 (by decide) ?_
  refine g_iadd dL_law_1296 ?_
  refine g_ialdX dL_law_1297 (fun v339 => ?_)
  refine g_callVi (J := I_X12_forces) (t := 13) (As := [.int v338, .int v339]) (rest := [.int v336]) mjv_X12_forces ml_RL_151 ⟨rfl, by decide, by decide⟩ (by decide) rfl rfl (Nat.le_of_ble_eq_true rfl) dL_law_1298 (T_X12_forces F l2 v338 v339 h337) (fun v340 h341 => ?_)
  refine g_icmp_eq (tgt := 1654) dL_law_1301 (by decide) (fun c342 => ?_) (fun c342 => ?_)
  · refine G_lv [0, 1, 2, 3] rfl ?_
    exact T_L_law_1654 F hK18 l0 l1 l2 l3 h341
  · refine g_iconst (v := 0) dL_law_1304 (by decide) ?_
    exact g_zret (ty := .boolean) rfl rfl dL_law_1305
set_option maxRecDepth 100000 in
noncomputable def f_L_law_1306 (F : Nat) (K18 : Nat → Nat → Nat → Int32 → Hp → Option (Int32 × Hp)) (l0 : Nat) (l1 : Nat) (l2 : Nat) (l3 : Int32) (h : Hp) : Option (Int32 × Hp) :=
  aX h l0 (l3 + 1) fun v344 => aX h l0 (l3 + 2) fun v345 => cV 12 h l1 (f_X11_best F l1 v344 v345 h) fun v346 h347 => aX h347 l0 (l3 + 1) fun v348 => aX h347 l0 (l3 + 2) fun v349 => cV 13 h347 l2 (f_X12_best F l2 v348 v349 h347) fun v350 h351 => if v346 = v350 then (f_L_law_1654 F K18 l0 l1 l2 l3 h351) else (some (0, h351))
set_option maxRecDepth 100000 in
set_option maxHeartbeats 4000000 in
theorem T_L_law_1306 (F : Nat) {K18 : Nat → Nat → Nat → Int32 → Hp → Option (Int32 × Hp)} (hK18 : ∀ (l0 : Nat) (l1 : Nat) (l2 : Nat) (l3 : Int32) (h : Hp), G rvI I_L_law 77 18 [(0, .ref l0), (1, .ref l1), (2, .ref l2), (3, .int l3)] [] h (K18 l0 l1 l2 l3 h)) (l0 : Nat) (l1 : Nat) (l2 : Nat) (l3 : Int32) (h : Hp) : G rvI I_L_law 77 1306 [(0, .ref l0), (1, .ref l1), (2, .ref l2), (3, .int l3)] [] h (f_L_law_1306 F K18 l0 l1 l2 l3 h) := by
  delta f_L_law_1306
  refine g_aload_n 1 dL_law_1306 rfl ?_
  refine g_aload_n 0 dL_law_1307 rfl ?_
  refine g_iload_n 3 dL_law_1308 rfl ?_
  refine g_iconst (v := 1) dL_law_1309 (by decide) ?_
  refine g_iadd dL_law_1310 ?_
  refine g_ialdX dL_law_1311 (fun v344 => ?_)
  refine g_aload_n 0 dL_law_1312 rfl ?_
  refine g_iload_n 3 dL_law_1313 rfl ?_
  refine g_iconst (v := 2) dL_law_1314 (by decide) ?_
  refine g_iadd dL_law_1315 ?_
  refine g_ialdX dL_law_1316 (fun v345 => ?_)
  refine g_callVi (J := I_X11_best) (t := 12) (As := [.int v344, .int v345]) (rest := []) mjv_X11_best ml_RL_152 ⟨rfl, by decide, by decide⟩ (by decide) rfl rfl (Nat.le_of_ble_eq_true rfl) dL_law_1317 (T_X11_best F l1 v344 v345 h) (fun v346 h347 => ?_)
  refine g_aload_n 2 dL_law_1320 rfl ?_
  refine g_aload_n 0 dL_law_1321 rfl ?_
  refine g_iload_n 3 dL_law_1322 rfl ?_
  refine g_iconst (v := 1) dL_law_1323 (by decide) ?_
  refine g_iadd dL_law_1324 ?_
  refine g_ialdX dL_law_1325 (fun v348 => ?_)
  refine g_aload_n 0 dL_law_1326 rfl ?_
  refine g_iload_n 3 dL_law_1327 rfl ?_
  refine g_iconst (v := 2) dL_law_1328 (by decide) ?_
  refine g_iadd dL_law_1329 ?_
  refine g_ialdX dL_law_1330 (fun v349 => ?_)
  refine g_callVi (J := I_X12_best) (t := 13) (As := [.int v348, .int v349]) (rest := [.int v346]) mjv_X12_best ml_RL_155 ⟨rfl, by decide, by decide⟩ (by decide) rfl rfl (Nat.le_of_ble_eq_true rfl) dL_law_1331 (T_X12_best F l2 v348 v349 h347) (fun v350 h351 => ?_)
  refine g_icmp_eq (tgt := 1654) dL_law_1334 (by decide) (fun c352 => ?_) (fun c352 => ?_)
  · refine G_lv [0, 1, 2, 3] rfl ?_
    exact T_L_law_1654 F hK18 l0 l1 l2 l3 h351
  · refine g_iconst (v := 0) dL_law_1337 (by decide) ?_
    exact g_zret (ty := .boolean) rfl rfl dL_law_1338
set_option maxRecDepth 100000 in
noncomputable def f_L_law_1339 (F : Nat) (K18 : Nat → Nat → Nat → Int32 → Hp → Option (Int32 × Hp)) (l0 : Nat) (l1 : Nat) (l2 : Nat) (l3 : Int32) (h : Hp) : Option (Int32 × Hp) :=
  aX h l0 (l3 + 1) fun v354 => aX h l0 (l3 + 2) fun v355 => aX h l0 (l3 + 3) fun v356 => aX h l0 (l3 + 4) fun v357 => cV 12 h l1 (f_X11_chance F l1 v354 v355 v356 v357 h) fun v358 h359 => aX h359 l0 (l3 + 1) fun v360 => aX h359 l0 (l3 + 2) fun v361 => aX h359 l0 (l3 + 3) fun v362 => aX h359 l0 (l3 + 4) fun v363 => cV 13 h359 l2 (f_X12_chance F l2 v360 v361 v362 v363 h359) fun v364 h365 => if v358 = v364 then (f_L_law_1654 F K18 l0 l1 l2 l3 h365) else (some (0, h365))
set_option maxRecDepth 100000 in
set_option maxHeartbeats 4000000 in
theorem T_L_law_1339 (F : Nat) {K18 : Nat → Nat → Nat → Int32 → Hp → Option (Int32 × Hp)} (hK18 : ∀ (l0 : Nat) (l1 : Nat) (l2 : Nat) (l3 : Int32) (h : Hp), G rvI I_L_law 77 18 [(0, .ref l0), (1, .ref l1), (2, .ref l2), (3, .int l3)] [] h (K18 l0 l1 l2 l3 h)) (l0 : Nat) (l1 : Nat) (l2 : Nat) (l3 : Int32) (h : Hp) : G rvI I_L_law 77 1339 [(0, .ref l0), (1, .ref l1), (2, .ref l2), (3, .int l3)] [] h (f_L_law_1339 F K18 l0 l1 l2 l3 h) := by
  delta f_L_law_1339
  refine g_aload_n 1 dL_law_1339 rfl ?_
  refine g_aload_n 0 dL_law_1340 rfl ?_
  refine g_iload_n 3 dL_law_1341 rfl ?_
  refine g_iconst (v := 1) dL_law_1342 (by decide) ?_
  refine g_iadd dL_law_1343 ?_
  refine g_ialdX dL_law_1344 (fun v354 => ?_)
  refine g_aload_n 0 dL_law_1345 rfl ?_
  refine g_iload_n 3 dL_law_1346 rfl ?_
  refine g_iconst (v := 2) dL_law_1347 (by decide) ?_
  refine g_iadd dL_law_1348 ?_
  refine g_ialdX dL_law_1349 (fun v355 => ?_)
  refine g_aload_n 0 dL_law_1350 rfl ?_
  refine g_iload_n 3 dL_law_1351 rfl ?_
  refine g_iconst (v := 3) dL_law_1352 (by decide) ?_
  refine g_iadd dL_law_1353 ?_
  refine g_ialdX dL_law_1354 (fun v356 => ?_)
  refine g_aload_n 0 dL_law_1355 rfl ?_
  refine g_iload_n 3 dL_law_1356 rfl ?_
  refine g_iconst (v := 4) dL_law_1357 (by decide) ?_
  refine g_iadd dL_law_1358 ?_
  refine g_ialdX dL_law_1359 (fun v357 => ?_)
  refine g_callVi (J := I_X11_chance) (t := 12) (As := [.int v354, .int v355, .int v356, .int v357]) (rest := []) mjv_X11_chance ml_RL_156 ⟨rfl, by decide, by decide⟩ (by decide) rfl rfl (Nat.le_of_ble_eq_true rfl) dL_law_1360 (T_X11_chance F l1 v354 v355 v356 v357 h) (fun v358 h359 => ?_)
  refine g_aload_n 2 dL_law_1363 rfl ?_
  refine g_aload_n 0 dL_law_1364 rfl ?_
  refine g_iload_n 3 dL_law_1365 rfl ?_
  refine g_iconst (v := 1) dL_law_1366 (by decide) ?_
  refine g_iadd dL_law_1367 ?_
  refine g_ialdX dL_law_1368 (fun v360 => ?_)
  refine g_aload_n 0 dL_law_1369 rfl ?_
  refine g_iload_n 3 dL_law_1370 rfl ?_
  refine g_iconst (v := 2) dL_law_1371 (by decide) ?_
  refine g_iadd dL_law_1372 ?_
  refine g_ialdX dL_law_1373 (fun v361 => ?_)
  refine g_aload_n 0 dL_law_1374 rfl ?_
  refine g_iload_n 3 dL_law_1375 rfl ?_
  refine g_iconst (v := 3) dL_law_1376 (by decide) ?_
  refine g_iadd dL_law_1377 ?_
  refine g_ialdX dL_law_1378 (fun v362 => ?_)
  refine g_aload_n 0 dL_law_1379 rfl ?_
  refine g_iload_n 3 dL_law_1380 rfl ?_
  refine g_iconst (v := 4) dL_law_1381 (by decide) ?_
  refine g_iadd dL_law_1382 ?_
  refine g_ialdX dL_law_1383 (fun v363 => ?_)
  refine g_callVi (J := I_X12_chance) (t := 13) (As := [.int v360, .int v361, .int v362, .int v363]) (rest := [.int v358]) mjv_X12_chance ml_RL_159 ⟨rfl, by decide, by decide⟩ (by decide) rfl rfl (Nat.le_of_ble_eq_true rfl) dL_law_1384 (T_X12_chance F l2 v360 v361 v362 v363 h359) (fun v364 h365 => ?_)
  refine g_icmp_eq (tgt := 1654) dL_law_1387 (by decide) (fun c366 => ?_) (fun c366 => ?_)
  · refine G_lv [0, 1, 2, 3] rfl ?_
    exact T_L_law_1654 F hK18 l0 l1 l2 l3 h365
  · refine g_iconst (v := 0) dL_law_1390 (by decide) ?_
    exact g_zret (ty := .boolean) rfl rfl dL_law_1391
set_option maxRecDepth 100000 in
noncomputable def f_L_law_1392 (F : Nat) (K18 : Nat → Nat → Nat → Int32 → Hp → Option (Int32 × Hp)) (l0 : Nat) (l1 : Nat) (l2 : Nat) (l3 : Int32) (h : Hp) : Option (Int32 × Hp) :=
  aX h l0 (l3 + 1) fun v368 => aX h l0 (l3 + 2) fun v369 => cV 12 h l1 (f_X11_likeliest F l1 v368 v369 h) fun v370 h371 => aX h371 l0 (l3 + 1) fun v372 => aX h371 l0 (l3 + 2) fun v373 => cV 13 h371 l2 (f_X12_likeliest F l2 v372 v373 h371) fun v374 h375 => if v370 = v374 then (f_L_law_1654 F K18 l0 l1 l2 l3 h375) else (some (0, h375))
set_option maxRecDepth 100000 in
set_option maxHeartbeats 4000000 in
theorem T_L_law_1392 (F : Nat) {K18 : Nat → Nat → Nat → Int32 → Hp → Option (Int32 × Hp)} (hK18 : ∀ (l0 : Nat) (l1 : Nat) (l2 : Nat) (l3 : Int32) (h : Hp), G rvI I_L_law 77 18 [(0, .ref l0), (1, .ref l1), (2, .ref l2), (3, .int l3)] [] h (K18 l0 l1 l2 l3 h)) (l0 : Nat) (l1 : Nat) (l2 : Nat) (l3 : Int32) (h : Hp) : G rvI I_L_law 77 1392 [(0, .ref l0), (1, .ref l1), (2, .ref l2), (3, .int l3)] [] h (f_L_law_1392 F K18 l0 l1 l2 l3 h) := by
  delta f_L_law_1392
  refine g_aload_n 1 dL_law_1392 rfl ?_
  refine g_aload_n 0 dL_law_1393 rfl ?_
  refine g_iload_n 3 dL_law_1394 rfl ?_
  refine g_iconst (v := 1) dL_law_1395 (by decide) ?_
  refine g_iadd dL_law_1396 ?_
  refine g_ialdX dL_law_1397 (fun v368 => ?_)
  refine g_aload_n 0 dL_law_1398 rfl ?_
  refine g_iload_n 3 dL_law_1399 rfl ?_
  refine g_iconst (v := 2) dL_law_1400 (by decide) ?_
  refine g_iadd dL_law_1401 ?_
  refine g_ialdX dL_law_1402 (fun v369 => ?_)
  refine g_callVi (J := I_X11_likeliest) (t := 12) (As := [.int v368, .int v369]) (rest := []) mjv_X11_likeliest ml_RL_160 ⟨rfl, by decide, by decide⟩ (by decide) rfl rfl (Nat.le_of_ble_eq_true rfl) dL_law_1403 (T_X11_likeliest F l1 v368 v369 h) (fun v370 h371 => ?_)
  refine g_aload_n 2 dL_law_1406 rfl ?_
  refine g_aload_n 0 dL_law_1407 rfl ?_
  refine g_iload_n 3 dL_law_1408 rfl ?_
  refine g_iconst (v := 1) dL_law_1409 (by decide) ?_
  refine g_iadd dL_law_1410 ?_
  refine g_ialdX dL_law_1411 (fun v372 => ?_)
  refine g_aload_n 0 dL_law_1412 rfl ?_
  refine g_iload_n 3 dL_law_1413 rfl ?_
  refine g_iconst (v := 2) dL_law_1414 (by decide) ?_
  refine g_iadd dL_law_1415 ?_
  refine g_ialdX dL_law_1416 (fun v373 => ?_)
  refine g_callVi (J := I_X12_likeliest) (t := 13) (As := [.int v372, .int v373]) (rest := [.int v370]) mjv_X12_likeliest ml_RL_163 ⟨rfl, by decide, by decide⟩ (by decide) rfl rfl (Nat.le_of_ble_eq_true rfl) dL_law_1417 (T_X12_likeliest F l2 v372 v373 h371) (fun v374 h375 => ?_)
  refine g_icmp_eq (tgt := 1654) dL_law_1420 (by decide) (fun c376 => ?_) (fun c376 => ?_)
  · refine G_lv [0, 1, 2, 3] rfl ?_
    exact T_L_law_1654 F hK18 l0 l1 l2 l3 h375
  · refine g_iconst (v := 0) dL_law_1423 (by decide) ?_
    exact g_zret (ty := .boolean) rfl rfl dL_law_1424
set_option maxRecDepth 100000 in
noncomputable def f_L_law_1425 (F : Nat) (K18 : Nat → Nat → Nat → Int32 → Hp → Option (Int32 × Hp)) (l0 : Nat) (l1 : Nat) (l2 : Nat) (l3 : Int32) (h : Hp) : Option (Int32 × Hp) :=
  aX h l0 (l3 + 1) fun v378 => aX h l0 (l3 + 2) fun v379 => aX h l0 (l3 + 3) fun v380 => cV 12 h l1 (f_X11_numbers F l1 v378 v379 v380 h) fun v381 h382 => aX h382 l0 (l3 + 1) fun v383 => aX h382 l0 (l3 + 2) fun v384 => aX h382 l0 (l3 + 3) fun v385 => cV 13 h382 l2 (f_X12_numbers F l2 v383 v384 v385 h382) fun v386 h387 => if v381 = v386 then (f_L_law_1654 F K18 l0 l1 l2 l3 h387) else (some (0, h387))
set_option maxRecDepth 100000 in
set_option maxHeartbeats 4000000 in
theorem T_L_law_1425 (F : Nat) {K18 : Nat → Nat → Nat → Int32 → Hp → Option (Int32 × Hp)} (hK18 : ∀ (l0 : Nat) (l1 : Nat) (l2 : Nat) (l3 : Int32) (h : Hp), G rvI I_L_law 77 18 [(0, .ref l0), (1, .ref l1), (2, .ref l2), (3, .int l3)] [] h (K18 l0 l1 l2 l3 h)) (l0 : Nat) (l1 : Nat) (l2 : Nat) (l3 : Int32) (h : Hp) : G rvI I_L_law 77 1425 [(0, .ref l0), (1, .ref l1), (2, .ref l2), (3, .int l3)] [] h (f_L_law_1425 F K18 l0 l1 l2 l3 h) := by
  delta f_L_law_1425
  refine g_aload_n 1 dL_law_1425 rfl ?_
  refine g_aload_n 0 dL_law_1426 rfl ?_
  refine g_iload_n 3 dL_law_1427 rfl ?_
  refine g_iconst (v := 1) dL_law_1428 (by decide) ?_
  refine g_iadd dL_law_1429 ?_
  refine g_ialdX dL_law_1430 (fun v378 => ?_)
  refine g_aload_n 0 dL_law_1431 rfl ?_
  refine g_iload_n 3 dL_law_1432 rfl ?_
  refine g_iconst (v := 2) dL_law_1433 (by decide) ?_
  refine g_iadd dL_law_1434 ?_
  refine g_ialdX dL_law_1435 (fun v379 => ?_)
  refine g_aload_n 0 dL_law_1436 rfl ?_
  refine g_iload_n 3 dL_law_1437 rfl ?_
  refine g_iconst (v := 3) dL_law_1438 (by decide) ?_
  refine g_iadd dL_law_1439 ?_
  refine g_ialdX dL_law_1440 (fun v380 => ?_)
  refine g_callVi (J := I_X11_numbers) (t := 12) (As := [.int v378, .int v379, .int v380]) (rest := []) mjv_X11_numbers ml_RL_164 ⟨rfl, by decide, by decide⟩ (by decide) rfl rfl (Nat.le_of_ble_eq_true rfl) dL_law_1441 (T_X11_numbers F l1 v378 v379 v380 h) (fun v381 h382 => ?_)
  refine g_aload_n 2 dL_law_1444 rfl ?_
  refine g_aload_n 0 dL_law_1445 rfl ?_
  refine g_iload_n 3 dL_law_1446 rfl ?_
  refine g_iconst (v := 1) dL_law_1447 (by decide) ?_
  refine g_iadd dL_law_1448 ?_
  refine g_ialdX dL_law_1449 (fun v383 => ?_)
  refine g_aload_n 0 dL_law_1450 rfl ?_
  refine g_iload_n 3 dL_law_1451 rfl ?_
  refine g_iconst (v := 2) dL_law_1452 (by decide) ?_
  refine g_iadd dL_law_1453 ?_
  refine g_ialdX dL_law_1454 (fun v384 => ?_)
  refine g_aload_n 0 dL_law_1455 rfl ?_
  refine g_iload_n 3 dL_law_1456 rfl ?_
  refine g_iconst (v := 3) dL_law_1457 (by decide) ?_
  refine g_iadd dL_law_1458 ?_
  refine g_ialdX dL_law_1459 (fun v385 => ?_)
  refine g_callVi (J := I_X12_numbers) (t := 13) (As := [.int v383, .int v384, .int v385]) (rest := [.int v381]) mjv_X12_numbers ml_RL_167 ⟨rfl, by decide, by decide⟩ (by decide) rfl rfl (Nat.le_of_ble_eq_true rfl) dL_law_1460 (T_X12_numbers F l2 v383 v384 v385 h382) (fun v386 h387 => ?_)
  refine g_icmp_eq (tgt := 1654) dL_law_1463 (by decide) (fun c388 => ?_) (fun c388 => ?_)
  · refine G_lv [0, 1, 2, 3] rfl ?_
    exact T_L_law_1654 F hK18 l0 l1 l2 l3 h387
  · refine g_iconst (v := 0) dL_law_1466 (by decide) ?_
    exact g_zret (ty := .boolean) rfl rfl dL_law_1467
set_option maxRecDepth 100000 in
noncomputable def f_L_law_1468 (F : Nat) (K18 : Nat → Nat → Nat → Int32 → Hp → Option (Int32 × Hp)) (l0 : Nat) (l1 : Nat) (l2 : Nat) (l3 : Int32) (h : Hp) : Option (Int32 × Hp) :=
  aX h l0 (l3 + 1) fun v390 => aX h l0 (l3 + 2) fun v391 => aX h l0 (l3 + 3) fun v392 => aX h l0 (l3 + 4) fun v393 => cV 12 h l1 (f_X11_write F l1 v390 v391 (((v392.toInt64) <<< ((32 : Int32).toInt64 &&& 63)) ||| ((v393.toInt64) &&& 4294967295)) h) fun v394 h395 => aX h395 l0 (l3 + 1) fun v396 => aX h395 l0 (l3 + 2) fun v397 => aX h395 l0 (l3 + 3) fun v398 => aX h395 l0 (l3 + 4) fun v399 => cV 13 h395 l2 (f_X12_write F l2 v396 v397 (((v398.toInt64) <<< ((32 : Int32).toInt64 &&& 63)) ||| ((v399.toInt64) &&& 4294967295)) h395) fun v400 h401 => if ((v394 : Int64) = v400 : Prop) then (f_L_law_1654 F K18 l0 l1 l2 l3 h401) else (some (0, h401))
set_option maxRecDepth 100000 in
set_option maxHeartbeats 4000000 in
theorem T_L_law_1468 (F : Nat) {K18 : Nat → Nat → Nat → Int32 → Hp → Option (Int32 × Hp)} (hK18 : ∀ (l0 : Nat) (l1 : Nat) (l2 : Nat) (l3 : Int32) (h : Hp), G rvI I_L_law 77 18 [(0, .ref l0), (1, .ref l1), (2, .ref l2), (3, .int l3)] [] h (K18 l0 l1 l2 l3 h)) (l0 : Nat) (l1 : Nat) (l2 : Nat) (l3 : Int32) (h : Hp) : G rvI I_L_law 77 1468 [(0, .ref l0), (1, .ref l1), (2, .ref l2), (3, .int l3)] [] h (f_L_law_1468 F K18 l0 l1 l2 l3 h) := by
  delta f_L_law_1468
  refine g_aload_n 1 dL_law_1468 rfl ?_
  refine g_aload_n 0 dL_law_1469 rfl ?_
  refine g_iload_n 3 dL_law_1470 rfl ?_
  refine g_iconst (v := 1) dL_law_1471 (by decide) ?_
  refine g_iadd dL_law_1472 ?_
  refine g_ialdX dL_law_1473 (fun v390 => ?_)
  refine g_aload_n 0 dL_law_1474 rfl ?_
  refine g_iload_n 3 dL_law_1475 rfl ?_
  refine g_iconst (v := 2) dL_law_1476 (by decide) ?_
  refine g_iadd dL_law_1477 ?_
  refine g_ialdX dL_law_1478 (fun v391 => ?_)
  refine g_aload_n 0 dL_law_1479 rfl ?_
  refine g_iload_n 3 dL_law_1480 rfl ?_
  refine g_iconst (v := 3) dL_law_1481 (by decide) ?_
  refine g_iadd dL_law_1482 ?_
  refine g_ialdX dL_law_1483 (fun v392 => ?_)
  refine g_i2l dL_law_1484 ?_
  refine g_bipush (v := 32) dL_law_1485 (by decide) ?_
  refine g_lshl dL_law_1487 ?_
  refine g_aload_n 0 dL_law_1488 rfl ?_
  refine g_iload_n 3 dL_law_1489 rfl ?_
  refine g_iconst (v := 4) dL_law_1490 (by decide) ?_
  refine g_iadd dL_law_1491 ?_
  refine g_ialdX dL_law_1492 (fun v393 => ?_)
  refine g_i2l dL_law_1493 ?_
  refine g_ldc2 (v := 4294967295) dL_law_1494 cl_RL_168 ?_
  refine g_land dL_law_1497 ?_
  refine g_lor dL_law_1498 ?_
  refine g_callVl (J := I_X11_write) (t := 12) (As := [.int v390, .int v391, .long (((v392.toInt64) <<< ((32 : Int32).toInt64 &&& 63)) ||| ((v393.toInt64) &&& 4294967295))]) (rest := []) mjv_X11_write ml_RL_170 ⟨rfl, by decide, by decide⟩ (by decide) rfl rfl (Nat.le_of_ble_eq_true rfl) dL_law_1499 (T_X11_write F l1 v390 v391 (((v392.toInt64) <<< ((32 : Int32).toInt64 &&& 63)) ||| ((v393.toInt64) &&& 4294967295)) h) (fun v394 h395 => ?_)
  refine g_aload_n 2 dL_law_1502 rfl ?_
  refine g_aload_n 0 dL_law_1503 rfl ?_
  refine g_iload_n 3 dL_law_1504 rfl ?_
  refine g_iconst (v := 1) dL_law_1505 (by decide) ?_
  refine g_iadd dL_law_1506 ?_
  refine g_ialdX dL_law_1507 (fun v396 => ?_)
  refine g_aload_n 0 dL_law_1508 rfl ?_
  refine g_iload_n 3 dL_law_1509 rfl ?_
  refine g_iconst (v := 2) dL_law_1510 (by decide) ?_
  refine g_iadd dL_law_1511 ?_
  refine g_ialdX dL_law_1512 (fun v397 => ?_)
  refine g_aload_n 0 dL_law_1513 rfl ?_
  refine g_iload_n 3 dL_law_1514 rfl ?_
  refine g_iconst (v := 3) dL_law_1515 (by decide) ?_
  refine g_iadd dL_law_1516 ?_
  refine g_ialdX dL_law_1517 (fun v398 => ?_)
  refine g_i2l dL_law_1518 ?_
  refine g_bipush (v := 32) dL_law_1519 (by decide) ?_
  refine g_lshl dL_law_1521 ?_
  refine g_aload_n 0 dL_law_1522 rfl ?_
  refine g_iload_n 3 dL_law_1523 rfl ?_
  refine g_iconst (v := 4) dL_law_1524 (by decide) ?_
  refine g_iadd dL_law_1525 ?_
  refine g_ialdX dL_law_1526 (fun v399 => ?_)
  refine g_i2l dL_law_1527 ?_
  refine g_ldc2 (v := 4294967295) dL_law_1528 cl_RL_168 ?_
  refine g_land dL_law_1531 ?_
  refine g_lor dL_law_1532 ?_
  refine g_callVl (J := I_X12_write) (t := 13) (As := [.int v396, .int v397, .long (((v398.toInt64) <<< ((32 : Int32).toInt64 &&& 63)) ||| ((v399.toInt64) &&& 4294967295))]) (rest := [.long v394]) mjv_X12_write ml_RL_174 ⟨rfl, by decide, by decide⟩ (by decide) rfl rfl (Nat.le_of_ble_eq_true rfl) dL_law_1533 (T_X12_write F l2 v396 v397 (((v398.toInt64) <<< ((32 : Int32).toInt64 &&& 63)) ||| ((v399.toInt64) &&& 4294967295)) h395) (fun v400 h401 => ?_)
  refine g_lc_eq (x := v394) (y := v400) (tgt := 1654) dL_law_1536 dL_law_1537 (by decide) (fun c402 => ?_) (fun c402 => ?_)
  · refine G_lv [0, 1, 2, 3] rfl ?_
    exact T_L_law_1654 F hK18 l0 l1 l2 l3 h401
  · refine g_iconst (v := 0) dL_law_1540 (by decide) ?_
    exact g_zret (ty := .boolean) rfl rfl dL_law_1541
set_option maxRecDepth 100000 in
noncomputable def f_L_law_1542 (F : Nat) (K18 : Nat → Nat → Nat → Int32 → Hp → Option (Int32 × Hp)) (l0 : Nat) (l1 : Nat) (l2 : Nat) (l3 : Int32) (h : Hp) : Option (Int32 × Hp) :=
  aX h l0 (l3 + 1) fun v404 => aX h l0 (l3 + 2) fun v405 => aX h l0 (l3 + 3) fun v406 => cV 12 h l1 (f_X11_lists F l1 v404 v405 v406 h) fun v407 h408 => aX h408 l0 (l3 + 1) fun v409 => aX h408 l0 (l3 + 2) fun v410 => aX h408 l0 (l3 + 3) fun v411 => cV 13 h408 l2 (f_X12_lists F l2 v409 v410 v411 h408) fun v412 h413 => if v407 = v412 then (f_L_law_1654 F K18 l0 l1 l2 l3 h413) else (some (0, h413))
set_option maxRecDepth 100000 in
set_option maxHeartbeats 4000000 in
theorem T_L_law_1542 (F : Nat) {K18 : Nat → Nat → Nat → Int32 → Hp → Option (Int32 × Hp)} (hK18 : ∀ (l0 : Nat) (l1 : Nat) (l2 : Nat) (l3 : Int32) (h : Hp), G rvI I_L_law 77 18 [(0, .ref l0), (1, .ref l1), (2, .ref l2), (3, .int l3)] [] h (K18 l0 l1 l2 l3 h)) (l0 : Nat) (l1 : Nat) (l2 : Nat) (l3 : Int32) (h : Hp) : G rvI I_L_law 77 1542 [(0, .ref l0), (1, .ref l1), (2, .ref l2), (3, .int l3)] [] h (f_L_law_1542 F K18 l0 l1 l2 l3 h) := by
  delta f_L_law_1542
  refine g_aload_n 1 dL_law_1542 rfl ?_
  refine g_aload_n 0 dL_law_1543 rfl ?_
  refine g_iload_n 3 dL_law_1544 rfl ?_
  refine g_iconst (v := 1) dL_law_1545 (by decide) ?_
  refine g_iadd dL_law_1546 ?_
  refine g_ialdX dL_law_1547 (fun v404 => ?_)
  refine g_aload_n 0 dL_law_1548 rfl ?_
  refine g_iload_n 3 dL_law_1549 rfl ?_
  refine g_iconst (v := 2) dL_law_1550 (by decide) ?_
  refine g_iadd dL_law_1551 ?_
  refine g_ialdX dL_law_1552 (fun v405 => ?_)
  refine g_aload_n 0 dL_law_1553 rfl ?_
  refine g_iload_n 3 dL_law_1554 rfl ?_
  refine g_iconst (v := 3) dL_law_1555 (by decide) ?_
  refine g_iadd dL_law_1556 ?_
  refine g_ialdX dL_law_1557 (fun v406 => ?_)
  refine g_callVi (J := I_X11_lists) (t := 12) (As := [.int v404, .int v405, .int v406]) (rest := []) mjv_X11_lists ml_RL_175 ⟨rfl, by decide, by decide⟩ (by decide) rfl rfl (Nat.le_of_ble_eq_true rfl) dL_law_1558 (T_X11_lists F l1 v404 v405 v406 h) (fun v407 h408 => ?_)
  refine g_aload_n 2 dL_law_1561 rfl ?_
  refine g_aload_n 0 dL_law_1562 rfl ?_
  refine g_iload_n 3 dL_law_1563 rfl ?_
  refine g_iconst (v := 1) dL_law_1564 (by decide) ?_
  refine g_iadd dL_law_1565 ?_
  refine g_ialdX dL_law_1566 (fun v409 => ?_)
  refine g_aload_n 0 dL_law_1567 rfl ?_
  refine g_iload_n 3 dL_law_1568 rfl ?_
  refine g_iconst (v := 2) dL_law_1569 (by decide) ?_
  refine g_iadd dL_law_1570 ?_
  refine g_ialdX dL_law_1571 (fun v410 => ?_)
  refine g_aload_n 0 dL_law_1572 rfl ?_
  refine g_iload_n 3 dL_law_1573 rfl ?_
  refine g_iconst (v := 3) dL_law_1574 (by decide) ?_
  refine g_iadd dL_law_1575 ?_
  refine g_ialdX dL_law_1576 (fun v411 => ?_)
  refine g_callVi (J := I_X12_lists) (t := 13) (As := [.int v409, .int v410, .int v411]) (rest := [.int v407]) mjv_X12_lists ml_RL_178 ⟨rfl, by decide, by decide⟩ (by decide) rfl rfl (Nat.le_of_ble_eq_true rfl) dL_law_1577 (T_X12_lists F l2 v409 v410 v411 h408) (fun v412 h413 => ?_)
  refine g_icmp_eq (tgt := 1654) dL_law_1580 (by decide) (fun c414 => ?_) (fun c414 => ?_)
  · refine G_lv [0, 1, 2, 3] rfl ?_
    exact T_L_law_1654 F hK18 l0 l1 l2 l3 h413
  · refine g_iconst (v := 0) dL_law_1583 (by decide) ?_
    exact g_zret (ty := .boolean) rfl rfl dL_law_1584
set_option maxRecDepth 100000 in
noncomputable def f_L_law_1585 (F : Nat) (K18 : Nat → Nat → Nat → Int32 → Hp → Option (Int32 × Hp)) (l0 : Nat) (l1 : Nat) (l2 : Nat) (l3 : Int32) (h : Hp) : Option (Int32 × Hp) :=
  aX h l0 (l3 + 1) fun v416 => cV 12 h l1 (f_X11_image F l1 v416 h) fun v417 h418 => aX h418 l0 (l3 + 1) fun v419 => cV 13 h418 l2 (f_X12_image F l2 v419 h418) fun v420 h421 => if v417 = v420 then (f_L_law_1654 F K18 l0 l1 l2 l3 h421) else (some (0, h421))
set_option maxRecDepth 100000 in
set_option maxHeartbeats 4000000 in
theorem T_L_law_1585 (F : Nat) {K18 : Nat → Nat → Nat → Int32 → Hp → Option (Int32 × Hp)} (hK18 : ∀ (l0 : Nat) (l1 : Nat) (l2 : Nat) (l3 : Int32) (h : Hp), G rvI I_L_law 77 18 [(0, .ref l0), (1, .ref l1), (2, .ref l2), (3, .int l3)] [] h (K18 l0 l1 l2 l3 h)) (l0 : Nat) (l1 : Nat) (l2 : Nat) (l3 : Int32) (h : Hp) : G rvI I_L_law 77 1585 [(0, .ref l0), (1, .ref l1), (2, .ref l2), (3, .int l3)] [] h (f_L_law_1585 F K18 l0 l1 l2 l3 h) := by
  delta f_L_law_1585
  refine g_aload_n 1 dL_law_1585 rfl ?_
  refine g_aload_n 0 dL_law_1586 rfl ?_
  refine g_iload_n 3 dL_law_1587 rfl ?_
  refine g_iconst (v := 1) dL_law_1588 (by decide) ?_
  refine g_iadd dL_law_1589 ?_
  refine g_ialdX dL_law_1590 (fun v416 => ?_)
  refine g_callVi (J := I_X11_image) (t := 12) (As := [.int v416]) (rest := []) mjv_X11_image ml_RL_179 ⟨rfl, by decide, by decide⟩ (by decide) rfl rfl (Nat.le_of_ble_eq_true rfl) dL_law_1591 (T_X11_image F l1 v416 h) (fun v417 h418 => ?_)
  refine g_aload_n 2 dL_law_1594 rfl ?_
  refine g_aload_n 0 dL_law_1595 rfl ?_
  refine g_iload_n 3 dL_law_1596 rfl ?_
  refine g_iconst (v := 1) dL_law_1597 (by decide) ?_
  refine g_iadd dL_law_1598 ?_
  refine g_ialdX dL_law_1599 (fun v419 => ?_)
  refine g_callVi (J := I_X12_image) (t := 13) (As := [.int v419]) (rest := [.int v417]) mjv_X12_image ml_RL_182 ⟨rfl, by decide, by decide⟩ (by decide) rfl rfl (Nat.le_of_ble_eq_true rfl) dL_law_1600 (T_X12_image F l2 v419 h418) (fun v420 h421 => ?_)
  refine g_icmp_eq (tgt := 1654) dL_law_1603 (by decide) (fun c422 => ?_) (fun c422 => ?_)
  · refine G_lv [0, 1, 2, 3] rfl ?_
    exact T_L_law_1654 F hK18 l0 l1 l2 l3 h421
  · refine g_iconst (v := 0) dL_law_1606 (by decide) ?_
    exact g_zret (ty := .boolean) rfl rfl dL_law_1607
set_option maxRecDepth 100000 in
noncomputable def f_L_law_1608 (F : Nat) (K18 : Nat → Nat → Nat → Int32 → Hp → Option (Int32 × Hp)) (l0 : Nat) (l1 : Nat) (l2 : Nat) (l3 : Int32) (h : Hp) : Option (Int32 × Hp) :=
  aX h l0 (l3 + 1) fun v424 => cV 12 h l1 (f_X11_restore F l1 v424 h) fun v425 h426 => aX h426 l0 (l3 + 1) fun v427 => cV 13 h426 l2 (f_X12_restore F l2 v427 h426) fun v428 h429 => if v425 = v428 then (f_L_law_1654 F K18 l0 l1 l2 l3 h429) else (some (0, h429))
set_option maxRecDepth 100000 in
set_option maxHeartbeats 4000000 in
theorem T_L_law_1608 (F : Nat) {K18 : Nat → Nat → Nat → Int32 → Hp → Option (Int32 × Hp)} (hK18 : ∀ (l0 : Nat) (l1 : Nat) (l2 : Nat) (l3 : Int32) (h : Hp), G rvI I_L_law 77 18 [(0, .ref l0), (1, .ref l1), (2, .ref l2), (3, .int l3)] [] h (K18 l0 l1 l2 l3 h)) (l0 : Nat) (l1 : Nat) (l2 : Nat) (l3 : Int32) (h : Hp) : G rvI I_L_law 77 1608 [(0, .ref l0), (1, .ref l1), (2, .ref l2), (3, .int l3)] [] h (f_L_law_1608 F K18 l0 l1 l2 l3 h) := by
  delta f_L_law_1608
  refine g_aload_n 1 dL_law_1608 rfl ?_
  refine g_aload_n 0 dL_law_1609 rfl ?_
  refine g_iload_n 3 dL_law_1610 rfl ?_
  refine g_iconst (v := 1) dL_law_1611 (by decide) ?_
  refine g_iadd dL_law_1612 ?_
  refine g_ialdX dL_law_1613 (fun v424 => ?_)
  refine g_callVi (J := I_X11_restore) (t := 12) (As := [.int v424]) (rest := []) mjv_X11_restore ml_RL_183 ⟨rfl, by decide, by decide⟩ (by decide) rfl rfl (Nat.le_of_ble_eq_true rfl) dL_law_1614 (T_X11_restore F l1 v424 h) (fun v425 h426 => ?_)
  refine g_aload_n 2 dL_law_1617 rfl ?_
  refine g_aload_n 0 dL_law_1618 rfl ?_
  refine g_iload_n 3 dL_law_1619 rfl ?_
  refine g_iconst (v := 1) dL_law_1620 (by decide) ?_
  refine g_iadd dL_law_1621 ?_
  refine g_ialdX dL_law_1622 (fun v427 => ?_)
  refine g_callVi (J := I_X12_restore) (t := 13) (As := [.int v427]) (rest := [.int v425]) mjv_X12_restore ml_RL_186 ⟨rfl, by decide, by decide⟩ (by decide) rfl rfl (Nat.le_of_ble_eq_true rfl) dL_law_1623 (T_X12_restore F l2 v427 h426) (fun v428 h429 => ?_)
  refine g_icmp_eq (tgt := 1654) dL_law_1626 (by decide) (fun c430 => ?_) (fun c430 => ?_)
  · refine G_lv [0, 1, 2, 3] rfl ?_
    exact T_L_law_1654 F hK18 l0 l1 l2 l3 h429
  · refine g_iconst (v := 0) dL_law_1629 (by decide) ?_
    exact g_zret (ty := .boolean) rfl rfl dL_law_1630
set_option maxRecDepth 100000 in
noncomputable def f_L_law_1631 (F : Nat) (K18 : Nat → Nat → Nat → Int32 → Hp → Option (Int32 × Hp)) (l0 : Nat) (l1 : Nat) (l2 : Nat) (l3 : Int32) (h : Hp) : Option (Int32 × Hp) :=
  aX h l0 (l3 + 1) fun v432 => cV 12 h l1 (f_X11_count F l1 v432 h) fun v433 h434 => aX h434 l0 (l3 + 1) fun v435 => cV 13 h434 l2 (f_X12_count F l2 v435 h434) fun v436 h437 => if v433 = v436 then (f_L_law_1654 F K18 l0 l1 l2 l3 h437) else (some (0, h437))
set_option maxRecDepth 100000 in
set_option maxHeartbeats 4000000 in
theorem T_L_law_1631 (F : Nat) {K18 : Nat → Nat → Nat → Int32 → Hp → Option (Int32 × Hp)} (hK18 : ∀ (l0 : Nat) (l1 : Nat) (l2 : Nat) (l3 : Int32) (h : Hp), G rvI I_L_law 77 18 [(0, .ref l0), (1, .ref l1), (2, .ref l2), (3, .int l3)] [] h (K18 l0 l1 l2 l3 h)) (l0 : Nat) (l1 : Nat) (l2 : Nat) (l3 : Int32) (h : Hp) : G rvI I_L_law 77 1631 [(0, .ref l0), (1, .ref l1), (2, .ref l2), (3, .int l3)] [] h (f_L_law_1631 F K18 l0 l1 l2 l3 h) := by
  delta f_L_law_1631
  refine g_aload_n 1 dL_law_1631 rfl ?_
  refine g_aload_n 0 dL_law_1632 rfl ?_
  refine g_iload_n 3 dL_law_1633 rfl ?_
  refine g_iconst (v := 1) dL_law_1634 (by decide) ?_
  refine g_iadd dL_law_1635 ?_
  refine g_ialdX dL_law_1636 (fun v432 => ?_)
  refine g_callVi (J := I_X11_count) (t := 12) (As := [.int v432]) (rest := []) mjv_X11_count ml_RL_187 ⟨rfl, by decide, by decide⟩ (by decide) rfl rfl (Nat.le_of_ble_eq_true rfl) dL_law_1637 (T_X11_count F l1 v432 h) (fun v433 h434 => ?_)
  refine g_aload_n 2 dL_law_1640 rfl ?_
  refine g_aload_n 0 dL_law_1641 rfl ?_
  refine g_iload_n 3 dL_law_1642 rfl ?_
  refine g_iconst (v := 1) dL_law_1643 (by decide) ?_
  refine g_iadd dL_law_1644 ?_
  refine g_ialdX dL_law_1645 (fun v435 => ?_)
  refine g_callVi (J := I_X12_count) (t := 13) (As := [.int v435]) (rest := [.int v433]) mjv_X12_count ml_RL_190 ⟨rfl, by decide, by decide⟩ (by decide) rfl rfl (Nat.le_of_ble_eq_true rfl) dL_law_1646 (T_X12_count F l2 v435 h434) (fun v436 h437 => ?_)
  refine g_icmp_eq (tgt := 1654) dL_law_1649 (by decide) (fun c438 => ?_) (fun c438 => ?_)
  · refine G_lv [0, 1, 2, 3] rfl ?_
    exact T_L_law_1654 F hK18 l0 l1 l2 l3 h437
  · refine g_iconst (v := 0) dL_law_1652 (by decide) ?_
    exact g_zret (ty := .boolean) rfl rfl dL_law_1653
set_option maxRecDepth 100000 in
noncomputable def f_L_law_18_b (F : Nat) (K18 : Nat → Nat → Nat → Int32 → Hp → Option (Int32 × Hp)) (l0 : Nat) (l1 : Nat) (l2 : Nat) (l3 : Int32) (h : Hp) : Option (Int32 × Hp) :=
  alX h l0 fun v9 => if (v9 - 6) < l3 then (some (1, h)) else (aX h l0 l3 fun v11 => lt (v11 &&& 63) fun x12 => if x12 = 0 then (f_L_law_216 F K18 l0 l1 l2 l3 h) else (if x12 = 1 then (f_L_law_279 F K18 l0 l1 l2 l3 h) else (if x12 = 2 then (f_L_law_302 F K18 l0 l1 l2 l3 h) else (if x12 = 3 then (f_L_law_325 F K18 l0 l1 l2 l3 h) else (if x12 = 4 then (f_L_law_358 F K18 l0 l1 l2 l3 h) else (if x12 = 5 then (f_L_law_391 F K18 l0 l1 l2 l3 h) else (if x12 = 6 then (f_L_law_414 F K18 l0 l1 l2 l3 h) else (if x12 = 7 then (f_L_law_457 F K18 l0 l1 l2 l3 h) else (if x12 = 8 then (f_L_law_490 F K18 l0 l1 l2 l3 h) else (if x12 = 9 then (f_L_law_513 F K18 l0 l1 l2 l3 h) else (if x12 = 10 then (f_L_law_546 F K18 l0 l1 l2 l3 h) else (if x12 = 11 then (f_L_law_569 F K18 l0 l1 l2 l3 h) else (if x12 = 12 then (f_L_law_592 F K18 l0 l1 l2 l3 h) else (if x12 = 13 then (f_L_law_625 F K18 l0 l1 l2 l3 h) else (if x12 = 14 then (f_L_law_648 F K18 l0 l1 l2 l3 h) else (if x12 = 15 then (f_L_law_681 F K18 l0 l1 l2 l3 h) else (if x12 = 16 then (f_L_law_714 F K18 l0 l1 l2 l3 h) else (if x12 = 17 then (f_L_law_757 F K18 l0 l1 l2 l3 h) else (if x12 = 18 then (f_L_law_790 F K18 l0 l1 l2 l3 h) else (if x12 = 19 then (f_L_law_833 F K18 l0 l1 l2 l3 h) else (if x12 = 20 then (f_L_law_877 F K18 l0 l1 l2 l3 h) else (if x12 = 21 then (f_L_law_910 F K18 l0 l1 l2 l3 h) else (if x12 = 22 then (f_L_law_943 F K18 l0 l1 l2 l3 h) else (if x12 = 23 then (f_L_law_966 F K18 l0 l1 l2 l3 h) else (if x12 = 24 then (f_L_law_979 F K18 l0 l1 l2 l3 h) else (if x12 = 25 then (f_L_law_992 F K18 l0 l1 l2 l3 h) else (if x12 = 26 then (f_L_law_1015 F K18 l0 l1 l2 l3 h) else (if x12 = 27 then (f_L_law_1038 F K18 l0 l1 l2 l3 h) else (if x12 = 28 then (f_L_law_1081 F K18 l0 l1 l2 l3 h) else (if x12 = 29 then (f_L_law_1134 F K18 l0 l1 l2 l3 h) else (if x12 = 30 then (f_L_law_1187 F K18 l0 l1 l2 l3 h) else (if x12 = 31 then (f_L_law_1230 F K18 l0 l1 l2 l3 h) else (if x12 = 32 then (f_L_law_1273 F K18 l0 l1 l2 l3 h) else (if x12 = 33 then (f_L_law_1306 F K18 l0 l1 l2 l3 h) else (if x12 = 34 then (f_L_law_1339 F K18 l0 l1 l2 l3 h) else (if x12 = 35 then (f_L_law_1392 F K18 l0 l1 l2 l3 h) else (if x12 = 36 then (f_L_law_1425 F K18 l0 l1 l2 l3 h) else (if x12 = 37 then (f_L_law_1468 F K18 l0 l1 l2 l3 h) else (if x12 = 38 then (f_L_law_1542 F K18 l0 l1 l2 l3 h) else (if x12 = 39 then (f_L_law_1585 F K18 l0 l1 l2 l3 h) else (if x12 = 40 then (f_L_law_1608 F K18 l0 l1 l2 l3 h) else (if x12 = 41 then (f_L_law_1631 F K18 l0 l1 l2 l3 h) else (f_L_law_1654 F K18 l0 l1 l2 l3 h)))))))))))))))))))))))))))))))))))))))))))
set_option maxRecDepth 100000 in
set_option maxHeartbeats 4000000 in
theorem T_L_law_18_b (F : Nat) {K18 : Nat → Nat → Nat → Int32 → Hp → Option (Int32 × Hp)} (hK18 : ∀ (l0 : Nat) (l1 : Nat) (l2 : Nat) (l3 : Int32) (h : Hp), G rvI I_L_law 77 18 [(0, .ref l0), (1, .ref l1), (2, .ref l2), (3, .int l3)] [] h (K18 l0 l1 l2 l3 h)) (l0 : Nat) (l1 : Nat) (l2 : Nat) (l3 : Int32) (h : Hp) : G rvI I_L_law 77 18 [(0, .ref l0), (1, .ref l1), (2, .ref l2), (3, .int l3)] [] h (f_L_law_18_b F K18 l0 l1 l2 l3 h) := by
  delta f_L_law_18_b
  refine g_iload_n 3 dL_law_18 rfl ?_
  refine g_aload_n 0 dL_law_19 rfl ?_
  refine g_alenX dL_law_20 (fun v9 => ?_)
  refine g_bipush (v := 6) dL_law_21 (by decide) ?_
  refine g_isub dL_law_23 ?_
  refine g_icmp_gt (tgt := 1660) dL_law_24 (by decide) (fun c10 => ?_) (fun c10 => ?_)
  · refine g_iconst (v := 1) dL_law_1660 (by decide) ?_
    exact g_zret (ty := .boolean) rfl rfl dL_law_1661
  · refine g_aload_n 0 dL_law_27 rfl ?_
    refine g_iload_n 3 dL_law_28 rfl ?_
    refine g_ialdX dL_law_29 (fun v11 => ?_)
    refine g_bipush (v := 63) dL_law_30 (by decide) ?_
    refine g_iand dL_law_32 ?_
    refine G_lti (fun x12 => ?_)
    refine G_ite (fun c13 => ?_) (fun c13 => ?_)
    · refine g_tin 0 (183) dL_law_33 c13 (by decide) (by decide) (by decide) (by decide) (tgt := 216) ?_
      refine G_lv [0, 1, 2, 3] rfl ?_
      exact T_L_law_216 F hK18 l0 l1 l2 l3 h
    · refine G_ite (fun c29 => ?_) (fun c29 => ?_)
      · refine g_tin 1 (246) dL_law_33 c29 (by decide) (by decide) (by decide) (by decide) (tgt := 279) ?_
        refine G_lv [0, 1, 2, 3] rfl ?_
        exact T_L_law_279 F hK18 l0 l1 l2 l3 h
      · refine G_ite (fun c37 => ?_) (fun c37 => ?_)
        · refine g_tin 2 (269) dL_law_33 c37 (by decide) (by decide) (by decide) (by decide) (tgt := 302) ?_
          refine G_lv [0, 1, 2, 3] rfl ?_
          exact T_L_law_302 F hK18 l0 l1 l2 l3 h
        · refine G_ite (fun c45 => ?_) (fun c45 => ?_)
          · refine g_tin 3 (292) dL_law_33 c45 (by decide) (by decide) (by decide) (by decide) (tgt := 325) ?_
            refine G_lv [0, 1, 2, 3] rfl ?_
            exact T_L_law_325 F hK18 l0 l1 l2 l3 h
          · refine G_ite (fun c55 => ?_) (fun c55 => ?_)
            · refine g_tin 4 (325) dL_law_33 c55 (by decide) (by decide) (by decide) (by decide) (tgt := 358) ?_
              refine G_lv [0, 1, 2, 3] rfl ?_
              exact T_L_law_358 F hK18 l0 l1 l2 l3 h
            · refine G_ite (fun c65 => ?_) (fun c65 => ?_)
              · refine g_tin 5 (358) dL_law_33 c65 (by decide) (by decide) (by decide) (by decide) (tgt := 391) ?_
                refine G_lv [0, 1, 2, 3] rfl ?_
                exact T_L_law_391 F hK18 l0 l1 l2 l3 h
              · refine G_ite (fun c73 => ?_) (fun c73 => ?_)
                · refine g_tin 6 (381) dL_law_33 c73 (by decide) (by decide) (by decide) (by decide) (tgt := 414) ?_
                  refine G_lv [0, 1, 2, 3] rfl ?_
                  exact T_L_law_414 F hK18 l0 l1 l2 l3 h
                · refine G_ite (fun c85 => ?_) (fun c85 => ?_)
                  · refine g_tin 7 (424) dL_law_33 c85 (by decide) (by decide) (by decide) (by decide) (tgt := 457) ?_
                    refine G_lv [0, 1, 2, 3] rfl ?_
                    exact T_L_law_457 F hK18 l0 l1 l2 l3 h
                  · refine G_ite (fun c95 => ?_) (fun c95 => ?_)
                    · refine g_tin 8 (457) dL_law_33 c95 (by decide) (by decide) (by decide) (by decide) (tgt := 490) ?_
                      refine G_lv [0, 1, 2, 3] rfl ?_
                      exact T_L_law_490 F hK18 l0 l1 l2 l3 h
                    · refine G_ite (fun c103 => ?_) (fun c103 => ?_)
                      · refine g_tin 9 (480) dL_law_33 c103 (by decide) (by decide) (by decide) (by decide) (tgt := 513) ?_
                        refine G_lv [0, 1, 2, 3] rfl ?_
                        exact T_L_law_513 F hK18 l0 l1 l2 l3 h
                      · refine G_ite (fun c113 => ?_) (fun c113 => ?_)
                        · refine g_tin 10 (513) dL_law_33 c113 (by decide) (by decide) (by decide) (by decide) (tgt := 546) ?_
                          refine G_lv [0, 1, 2, 3] rfl ?_
                          exact T_L_law_546 F hK18 l0 l1 l2 l3 h
                        · refine G_ite (fun c121 => ?_) (fun c121 => ?_)
                          · refine g_tin 11 (536) dL_law_33 c121 (by decide) (by decide) (by decide) (by decide) (tgt := 569) ?_
                            refine G_lv [0, 1, 2, 3] rfl ?_
                            exact T_L_law_569 F hK18 l0 l1 l2 l3 h
                          · refine G_ite (fun c129 => ?_) (fun c129 => ?_)
                            · refine g_tin 12 (559) dL_law_33 c129 (by decide) (by decide) (by decide) (by decide) (tgt := 592) ?_
                              refine G_lv [0, 1, 2, 3] rfl ?_
                              exact T_L_law_592 F hK18 l0 l1 l2 l3 h
                            · refine G_ite (fun c139 => ?_) (fun c139 => ?_)
                              · refine g_tin 13 (592) dL_law_33 c139 (by decide) (by decide) (by decide) (by decide) (tgt := 625) ?_
                                refine G_lv [0, 1, 2, 3] rfl ?_
                                exact T_L_law_625 F hK18 l0 l1 l2 l3 h
                              · refine G_ite (fun c147 => ?_) (fun c147 => ?_)
                                · refine g_tin 14 (615) dL_law_33 c147 (by decide) (by decide) (by decide) (by decide) (tgt := 648) ?_
                                  refine G_lv [0, 1, 2, 3] rfl ?_
                                  exact T_L_law_648 F hK18 l0 l1 l2 l3 h
                                · refine G_ite (fun c157 => ?_) (fun c157 => ?_)
                                  · refine g_tin 15 (648) dL_law_33 c157 (by decide) (by decide) (by decide) (by decide) (tgt := 681) ?_
                                    refine G_lv [0, 1, 2, 3] rfl ?_
                                    exact T_L_law_681 F hK18 l0 l1 l2 l3 h
                                  · refine G_ite (fun c167 => ?_) (fun c167 => ?_)
                                    · refine g_tin 16 (681) dL_law_33 c167 (by decide) (by decide) (by decide) (by decide) (tgt := 714) ?_
                                      refine G_lv [0, 1, 2, 3] rfl ?_
                                      exact T_L_law_714 F hK18 l0 l1 l2 l3 h
                                    · refine G_ite (fun c179 => ?_) (fun c179 => ?_)
                                      · refine g_tin 17 (724) dL_law_33 c179 (by decide) (by decide) (by decide) (by decide) (tgt := 757) ?_
                                        refine G_lv [0, 1, 2, 3] rfl ?_
                                        exact T_L_law_757 F hK18 l0 l1 l2 l3 h
                                      · refine G_ite (fun c189 => ?_) (fun c189 => ?_)
                                        · refine g_tin 18 (757) dL_law_33 c189 (by decide) (by decide) (by decide) (by decide) (tgt := 790) ?_
                                          refine G_lv [0, 1, 2, 3] rfl ?_
                                          exact T_L_law_790 F hK18 l0 l1 l2 l3 h
                                        · refine G_ite (fun c201 => ?_) (fun c201 => ?_)
                                          · refine g_tin 19 (800) dL_law_33 c201 (by decide) (by decide) (by decide) (by decide) (tgt := 833) ?_
                                            refine G_lv [0, 1, 2, 3] rfl ?_
                                            exact T_L_law_833 F hK18 l0 l1 l2 l3 h
                                          · refine G_ite (fun c213 => ?_) (fun c213 => ?_)
                                            · refine g_tin 20 (844) dL_law_33 c213 (by decide) (by decide) (by decide) (by decide) (tgt := 877) ?_
                                              refine G_lv [0, 1, 2, 3] rfl ?_
                                              exact T_L_law_877 F hK18 l0 l1 l2 l3 h
                                            · refine G_ite (fun c223 => ?_) (fun c223 => ?_)
                                              · refine g_tin 21 (877) dL_law_33 c223 (by decide) (by decide) (by decide) (by decide) (tgt := 910) ?_
                                                refine G_lv [0, 1, 2, 3] rfl ?_
                                                exact T_L_law_910 F hK18 l0 l1 l2 l3 h
                                              · refine G_ite (fun c233 => ?_) (fun c233 => ?_)
                                                · refine g_tin 22 (910) dL_law_33 c233 (by decide) (by decide) (by decide) (by decide) (tgt := 943) ?_
                                                  refine G_lv [0, 1, 2, 3] rfl ?_
                                                  exact T_L_law_943 F hK18 l0 l1 l2 l3 h
                                                · refine G_ite (fun c241 => ?_) (fun c241 => ?_)
                                                  · refine g_tin 23 (933) dL_law_33 c241 (by decide) (by decide) (by decide) (by decide) (tgt := 966) ?_
                                                    refine G_lv [0, 1, 2, 3] rfl ?_
                                                    exact T_L_law_966 F hK18 l0 l1 l2 l3 h
                                                  · refine G_ite (fun c247 => ?_) (fun c247 => ?_)
                                                    · refine g_tin 24 (946) dL_law_33 c247 (by decide) (by decide) (by decide) (by decide) (tgt := 979) ?_
                                                      refine G_lv [0, 1, 2, 3] rfl ?_
                                                      exact T_L_law_979 F hK18 l0 l1 l2 l3 h
                                                    · refine G_ite (fun c253 => ?_) (fun c253 => ?_)
                                                      · refine g_tin 25 (959) dL_law_33 c253 (by decide) (by decide) (by decide) (by decide) (tgt := 992) ?_
                                                        refine G_lv [0, 1, 2, 3] rfl ?_
                                                        exact T_L_law_992 F hK18 l0 l1 l2 l3 h
                                                      · refine G_ite (fun c261 => ?_) (fun c261 => ?_)
                                                        · refine g_tin 26 (982) dL_law_33 c261 (by decide) (by decide) (by decide) (by decide) (tgt := 1015) ?_
                                                          refine G_lv [0, 1, 2, 3] rfl ?_
                                                          exact T_L_law_1015 F hK18 l0 l1 l2 l3 h
                                                        · refine G_ite (fun c269 => ?_) (fun c269 => ?_)
                                                          · refine g_tin 27 (1005) dL_law_33 c269 (by decide) (by decide) (by decide) (by decide) (tgt := 1038) ?_
                                                            refine G_lv [0, 1, 2, 3] rfl ?_
                                                            exact T_L_law_1038 F hK18 l0 l1 l2 l3 h
                                                          · refine G_ite (fun c281 => ?_) (fun c281 => ?_)
                                                            · refine g_tin 28 (1048) dL_law_33 c281 (by decide) (by decide) (by decide) (by decide) (tgt := 1081) ?_
                                                              refine G_lv [0, 1, 2, 3] rfl ?_
                                                              exact T_L_law_1081 F hK18 l0 l1 l2 l3 h
                                                            · refine G_ite (fun c295 => ?_) (fun c295 => ?_)
                                                              · refine g_tin 29 (1101) dL_law_33 c295 (by decide) (by decide) (by decide) (by decide) (tgt := 1134) ?_
                                                                refine G_lv [0, 1, 2, 3] rfl ?_
                                                                exact T_L_law_1134 F hK18 l0 l1 l2 l3 h
                                                              · refine G_ite (fun c309 => ?_) (fun c309 => ?_)
                                                                · refine g_tin 30 (1154) dL_law_33 c309 (by decide) (by decide) (by decide) (by decide) (tgt := 1187) ?_
                                                                  refine G_lv [0, 1, 2, 3] rfl ?_
                                                                  exact T_L_law_1187 F hK18 l0 l1 l2 l3 h
                                                                · refine G_ite (fun c321 => ?_) (fun c321 => ?_)
                                                                  · refine g_tin 31 (1197) dL_law_33 c321 (by decide) (by decide) (by decide) (by decide) (tgt := 1230) ?_
                                                                    refine G_lv [0, 1, 2, 3] rfl ?_
                                                                    exact T_L_law_1230 F hK18 l0 l1 l2 l3 h
                                                                  · refine G_ite (fun c333 => ?_) (fun c333 => ?_)
                                                                    · refine g_tin 32 (1240) dL_law_33 c333 (by decide) (by decide) (by decide) (by decide) (tgt := 1273) ?_
                                                                      refine G_lv [0, 1, 2, 3] rfl ?_
                                                                      exact T_L_law_1273 F hK18 l0 l1 l2 l3 h
                                                                    · refine G_ite (fun c343 => ?_) (fun c343 => ?_)
                                                                      · refine g_tin 33 (1273) dL_law_33 c343 (by decide) (by decide) (by decide) (by decide) (tgt := 1306) ?_
                                                                        refine G_lv [0, 1, 2, 3] rfl ?_
                                                                        exact T_L_law_1306 F hK18 l0 l1 l2 l3 h
                                                                      · refine G_ite (fun c353 => ?_) (fun c353 => ?_)
                                                                        · refine g_tin 34 (1306) dL_law_33 c353 (by decide) (by decide) (by decide) (by decide) (tgt := 1339) ?_
                                                                          refine G_lv [0, 1, 2, 3] rfl ?_
                                                                          exact T_L_law_1339 F hK18 l0 l1 l2 l3 h
                                                                        · refine G_ite (fun c367 => ?_) (fun c367 => ?_)
                                                                          · refine g_tin 35 (1359) dL_law_33 c367 (by decide) (by decide) (by decide) (by decide) (tgt := 1392) ?_
                                                                            refine G_lv [0, 1, 2, 3] rfl ?_
                                                                            exact T_L_law_1392 F hK18 l0 l1 l2 l3 h
                                                                          · refine G_ite (fun c377 => ?_) (fun c377 => ?_)
                                                                            · refine g_tin 36 (1392) dL_law_33 c377 (by decide) (by decide) (by decide) (by decide) (tgt := 1425) ?_
                                                                              refine G_lv [0, 1, 2, 3] rfl ?_
                                                                              exact T_L_law_1425 F hK18 l0 l1 l2 l3 h
                                                                            · refine G_ite (fun c389 => ?_) (fun c389 => ?_)
                                                                              · refine g_tin 37 (1435) dL_law_33 c389 (by decide) (by decide) (by decide) (by decide) (tgt := 1468) ?_
                                                                                refine G_lv [0, 1, 2, 3] rfl ?_
                                                                                exact T_L_law_1468 F hK18 l0 l1 l2 l3 h
                                                                              · refine G_ite (fun c403 => ?_) (fun c403 => ?_)
                                                                                · refine g_tin 38 (1509) dL_law_33 c403 (by decide) (by decide) (by decide) (by decide) (tgt := 1542) ?_
                                                                                  refine G_lv [0, 1, 2, 3] rfl ?_
                                                                                  exact T_L_law_1542 F hK18 l0 l1 l2 l3 h
                                                                                · refine G_ite (fun c415 => ?_) (fun c415 => ?_)
                                                                                  · refine g_tin 39 (1552) dL_law_33 c415 (by decide) (by decide) (by decide) (by decide) (tgt := 1585) ?_
                                                                                    refine G_lv [0, 1, 2, 3] rfl ?_
                                                                                    exact T_L_law_1585 F hK18 l0 l1 l2 l3 h
                                                                                  · refine G_ite (fun c423 => ?_) (fun c423 => ?_)
                                                                                    · refine g_tin 40 (1575) dL_law_33 c423 (by decide) (by decide) (by decide) (by decide) (tgt := 1608) ?_
                                                                                      refine G_lv [0, 1, 2, 3] rfl ?_
                                                                                      exact T_L_law_1608 F hK18 l0 l1 l2 l3 h
                                                                                    · refine G_ite (fun c431 => ?_) (fun c431 => ?_)
                                                                                      · refine g_tin 41 (1598) dL_law_33 c431 (by decide) (by decide) (by decide) (by decide) (tgt := 1631) ?_
                                                                                        refine G_lv [0, 1, 2, 3] rfl ?_
                                                                                        exact T_L_law_1631 F hK18 l0 l1 l2 l3 h
                                                                                      · refine g_tout (tgt := 1654) dL_law_33 (by have z0 := lv_neT c13 (show (0 : Int32).toInt = 0 by decide); have z1 := lv_neT c29 (show (1 : Int32).toInt = 1 by decide); have z2 := lv_neT c37 (show (2 : Int32).toInt = 2 by decide); have z3 := lv_neT c45 (show (3 : Int32).toInt = 3 by decide); have z4 := lv_neT c55 (show (4 : Int32).toInt = 4 by decide); have z5 := lv_neT c65 (show (5 : Int32).toInt = 5 by decide); have z6 := lv_neT c73 (show (6 : Int32).toInt = 6 by decide); have z7 := lv_neT c85 (show (7 : Int32).toInt = 7 by decide); have z8 := lv_neT c95 (show (8 : Int32).toInt = 8 by decide); have z9 := lv_neT c103 (show (9 : Int32).toInt = 9 by decide); have z10 := lv_neT c113 (show (10 : Int32).toInt = 10 by decide); have z11 := lv_neT c121 (show (11 : Int32).toInt = 11 by decide); have z12 := lv_neT c129 (show (12 : Int32).toInt = 12 by decide); have z13 := lv_neT c139 (show (13 : Int32).toInt = 13 by decide); have z14 := lv_neT c147 (show (14 : Int32).toInt = 14 by decide); have z15 := lv_neT c157 (show (15 : Int32).toInt = 15 by decide); have z16 := lv_neT c167 (show (16 : Int32).toInt = 16 by decide); have z17 := lv_neT c179 (show (17 : Int32).toInt = 17 by decide); have z18 := lv_neT c189 (show (18 : Int32).toInt = 18 by decide); have z19 := lv_neT c201 (show (19 : Int32).toInt = 19 by decide); have z20 := lv_neT c213 (show (20 : Int32).toInt = 20 by decide); have z21 := lv_neT c223 (show (21 : Int32).toInt = 21 by decide); have z22 := lv_neT c233 (show (22 : Int32).toInt = 22 by decide); have z23 := lv_neT c241 (show (23 : Int32).toInt = 23 by decide); have z24 := lv_neT c247 (show (24 : Int32).toInt = 24 by decide); have z25 := lv_neT c253 (show (25 : Int32).toInt = 25 by decide); have z26 := lv_neT c261 (show (26 : Int32).toInt = 26 by decide); have z27 := lv_neT c269 (show (27 : Int32).toInt = 27 by decide); have z28 := lv_neT c281 (show (28 : Int32).toInt = 28 by decide); have z29 := lv_neT c295 (show (29 : Int32).toInt = 29 by decide); have z30 := lv_neT c309 (show (30 : Int32).toInt = 30 by decide); have z31 := lv_neT c321 (show (31 : Int32).toInt = 31 by decide); have z32 := lv_neT c333 (show (32 : Int32).toInt = 32 by decide); have z33 := lv_neT c343 (show (33 : Int32).toInt = 33 by decide); have z34 := lv_neT c353 (show (34 : Int32).toInt = 34 by decide); have z35 := lv_neT c367 (show (35 : Int32).toInt = 35 by decide); have z36 := lv_neT c377 (show (36 : Int32).toInt = 36 by decide); have z37 := lv_neT c389 (show (37 : Int32).toInt = 37 by decide); have z38 := lv_neT c403 (show (38 : Int32).toInt = 38 by decide); have z39 := lv_neT c415 (show (39 : Int32).toInt = 39 by decide); have z40 := lv_neT c423 (show (40 : Int32).toInt = 40 by decide); have z41 := lv_neT c431 (show (41 : Int32).toInt = 41 by decide); omega) (by decide) ?_
                                                                                        refine G_lv [0, 1, 2, 3] rfl ?_
                                                                                        exact T_L_law_1654 F hK18 l0 l1 l2 l3 h
set_option maxRecDepth 100000 in
noncomputable def f_L_law_18 (F : Nat) : Nat → Nat → Nat → Nat → Int32 → Hp → Option (Int32 × Hp)
  | 0, _, _, _, _, _ => none
  | n + 1, l0, l1, l2, l3, h => f_L_law_18_b F (f_L_law_18 F n) l0 l1 l2 l3 h
set_option maxRecDepth 100000 in
set_option maxHeartbeats 4000000 in
theorem T_L_law_18 (F : Nat) : ∀ (n : Nat) (l0 : Nat) (l1 : Nat) (l2 : Nat) (l3 : Int32) (h : Hp), G rvI I_L_law 77 18 [(0, .ref l0), (1, .ref l1), (2, .ref l2), (3, .int l3)] [] h (f_L_law_18 F n l0 l1 l2 l3 h) := by
  intro n
  induction n with
  | zero => intros; exact G_none
  | succ n ih => intro l0 l1 l2 l3 h; exact T_L_law_18_b F ih l0 l1 l2 l3 h
set_option maxRecDepth 100000 in
noncomputable def f_L_law (F : Nat) (a0 : Nat) (h : Hp) : Option (Int32 × Hp) :=
  nO 12 h fun b1 h2 => bd (f_X11_init F b1 h2) fun _ h4 => nO 13 h4 fun b5 h6 => bd (f_X12_init F b5 h6) fun _ h8 => f_L_law_18 F F a0 b1 b5 0 h8
set_option maxRecDepth 100000 in
set_option maxHeartbeats 4000000 in
theorem T_L_law (F : Nat) (a0 : Nat) (h : Hp) : GM rvI I_L_law 77 [.ref a0] h (f_L_law F a0 h) := by
  delta f_L_law
  refine GM_of (lv := [(0, .ref a0)]) (by decide +kernel) (Nat.le_of_ble_eq_true rfl) rfl ?_
  refine g_new (by decide) (by decide) nl_RL_7 dL_law_0 (fun b1 h2 => ?_)
  refine g_dup dL_law_3 rfl ?_
  refine g_callI (J := I_X11_init) (As := []) (rest := [.ref b1]) mji_X11_init rfl ml_RL_9 (by decide) rfl rfl (Nat.le_of_ble_eq_true rfl) dL_law_4 (T_X11_init F b1 h2) (fun h4 => ?_)
  refine g_astore_n (lv' := [(1, .ref b1), (0, .ref a0)]) dL_law_7 (by decide) rfl ?_
  refine g_new (by decide) (by decide) nl_RL_10 dL_law_8 (fun b5 h6 => ?_)
  refine g_dup dL_law_11 rfl ?_
  refine g_callI (J := I_X12_init) (As := []) (rest := [.ref b5]) mji_X12_init rfl ml_RL_12 (by decide) rfl rfl (Nat.le_of_ble_eq_true rfl) dL_law_12 (T_X12_init F b5 h6) (fun h8 => ?_)
  refine g_astore_n (lv' := [(2, .ref b5), (1, .ref b1), (0, .ref a0)]) dL_law_15 (by decide) rfl ?_
  refine g_iconst (v := 0) dL_law_16 (by decide) ?_
  refine g_istore_n (lv' := [(3, .int 0), (2, .ref b5), (1, .ref b1), (0, .ref a0)]) dL_law_17 (by decide) rfl ?_
  refine G_lv [3, 2, 1, 0] rfl ?_
  exact T_L_law_18 F F a0 b1 b5 0 h8
