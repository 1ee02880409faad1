theorem aj_in {i L k : Nat} (h : i + 6 ≤ L) (hk : k < 6) (hL : L ≤ 3072) {x : Int32} (hx : x = nI i) (y : Int32) (hy : y = nI k) : vp_in (x + y) L ∧ (x + y).toNatClampNeg = i + k := by
  subst hx; subst hy
  have e : nI i + nI k = nI (i + k) := by
    apply Int32.toInt_inj.mp
    rw [Int32.toInt_add, nI_toInt (by omega), nI_toInt (by omega), nI_toInt (by omega)]
    rw [Int.bmod_eq_of_le (by omega) (by omega)]
    omega
  rw [e]
  exact ⟨vp_in_nI (by omega) (by omega), nI_clamp (by omega)⟩
set_option maxRecDepth 100000 in
set_option maxHeartbeats 4000000 in
theorem aj_case0 {G : aj_T} (C0 : aj_C G) {cells slots i : Nat} {F : Nat} {x3 : Int32} {σ τ : am_SS} {qC : Int32 × am_SS} {qM : Int32 × am_SS} (hi : i + 6 ≤ aj_N G) (hL : aj_N G ≤ 3072) (hx3 : x3 = nI i) (hC : C_state (aj_xs G (i + 1)) σ = qC) (hM : M_state (aj_xs G (i + 1)) τ = some qM) (he : qC.1 = qM.1) (hc : cells + 1 ≤ 600000) (hs : slots + 16 ≤ 7302250) (kk : aj_K G (cells + 0) (slots + 0) 1417 [(0, .ref (aj_b G)), (1, .ref (aj_bC G 0)), (2, .ref (aj_bM G 0)), (3, .int x3)] [] qC.2 qM.2) : aj_K G cells slots 204 [(0, .ref (aj_b G)), (1, .ref (aj_bC G 0)), (2, .ref (aj_bM G 0)), (3, .int x3)] [] σ τ := by
  refine aj_aload_n C0 dL_law_204 1 rfl ?_
  refine aj_aload_n C0 dL_law_205 0 rfl ?_
  refine aj_iload_n C0 dL_law_206 3 rfl ?_
  refine aj_iconst C0 dL_law_207 ci_1 ?_
  refine aj_iadd C0 dL_law_208 ?_
  have z209 := aj_in (k := 1) hi (by decide) hL hx3 1 rfl
  refine aj_sld C0 z209.1 dL_law_209 ?_
  rw [z209.2]
  refine aj_callC C0 (m_C_state (σ := σ) (Nat.le_refl _) (aj_xs G (i + 1)) hC) mm_yX9_state ln_RL_13 (As := fun _ => [.int (aj_xs G (i + 1))]) (fun _ => rfl) (fun _ => rfl) (loC_6_0 kC0).1 (loC_6_0 kC0).2.1 rfl (by decide) (by omega) (by omega) rfl (Nat.le_of_ble_eq_true rfl) dL_law_210 ?_
  refine aj_aload_n C0 dL_law_213 2 rfl ?_
  refine aj_aload_n C0 dL_law_214 0 rfl ?_
  refine aj_iload_n C0 dL_law_215 3 rfl ?_
  refine aj_iconst C0 dL_law_216 ci_1 ?_
  refine aj_iadd C0 dL_law_217 ?_
  have z218 := aj_in (k := 1) hi (by decide) hL hx3 1 rfl
  refine aj_sld C0 z218.1 dL_law_218 ?_
  rw [z218.2]
  refine aj_callM C0 (m_M_state (σ := τ) (Nat.le_refl _) (aj_xs G (i + 1)) hM) mm_yX10_state ln_RL_17 (As := fun _ => [.int (aj_xs G (i + 1))]) (fun _ => rfl) (fun _ => rfl) (loM_7_0 kM0).1 (loM_7_0 kM0).2.1 rfl (by decide) (by omega) (by omega) rfl (Nat.le_of_ble_eq_true rfl) dL_law_219 ?_
  refine aj_icmp_eq C0 dL_law_222 (tgt := 1417) (by decide) (by first | exact he | exact congrArg am_bI he) ?_
  exact kk
set_option maxRecDepth 100000 in
set_option maxHeartbeats 4000000 in
theorem aj_case1 {G : aj_T} (C0 : aj_C G) {cells slots i : Nat} {F : Nat} {x3 : Int32} {σ τ : am_SS} {qC : Int32 × am_SS} {qM : Int32 × am_SS} (hi : i + 6 ≤ aj_N G) (hL : aj_N G ≤ 3072) (hx3 : x3 = nI i) (hC : C_officer (aj_xs G (i + 1)) (aj_xs G (i + 2)) σ = some qC) (hM : M_officer F (aj_xs G (i + 1)) (aj_xs G (i + 2)) τ = some qM) (he : qC.1 = qM.1) (hc : cells + 1 ≤ 600000) (hs : slots + 16 ≤ 7302250) (kk : aj_K G (cells + 0) (slots + 0) 1417 [(0, .ref (aj_b G)), (1, .ref (aj_bC G 0)), (2, .ref (aj_bM G 0)), (3, .int x3)] [] qC.2 qM.2) : aj_K G cells slots 227 [(0, .ref (aj_b G)), (1, .ref (aj_bC G 0)), (2, .ref (aj_bM G 0)), (3, .int x3)] [] σ τ := by
  refine aj_aload_n C0 dL_law_227 1 rfl ?_
  refine aj_aload_n C0 dL_law_228 0 rfl ?_
  refine aj_iload_n C0 dL_law_229 3 rfl ?_
  refine aj_iconst C0 dL_law_230 ci_1 ?_
  refine aj_iadd C0 dL_law_231 ?_
  have z232 := aj_in (k := 1) hi (by decide) hL hx3 1 rfl
  refine aj_sld C0 z232.1 dL_law_232 ?_
  rw [z232.2]
  refine aj_aload_n C0 dL_law_233 0 rfl ?_
  refine aj_iload_n C0 dL_law_234 3 rfl ?_
  refine aj_iconst C0 dL_law_235 ci_2 ?_
  refine aj_iadd C0 dL_law_236 ?_
  have z237 := aj_in (k := 2) hi (by decide) hL hx3 2 rfl
  refine aj_sld C0 z237.1 dL_law_237 ?_
  rw [z237.2]
  refine aj_callC C0 (m_C_officer (σ := σ) (Nat.le_refl _) (aj_xs G (i + 1)) (aj_xs G (i + 2)) hC) mm_yX9_officer ln_RL_18 (As := fun _ => [.int (aj_xs G (i + 1)), .int (aj_xs G (i + 2))]) (fun _ => rfl) (fun _ => rfl) (loC_6_0 kC0).1 (loC_6_0 kC0).2.1 rfl (by decide) (by omega) (by omega) rfl (Nat.le_of_ble_eq_true rfl) dL_law_238 ?_
  refine aj_aload_n C0 dL_law_241 2 rfl ?_
  refine aj_aload_n C0 dL_law_242 0 rfl ?_
  refine aj_iload_n C0 dL_law_243 3 rfl ?_
  refine aj_iconst C0 dL_law_244 ci_1 ?_
  refine aj_iadd C0 dL_law_245 ?_
  have z246 := aj_in (k := 1) hi (by decide) hL hx3 1 rfl
  refine aj_sld C0 z246.1 dL_law_246 ?_
  rw [z246.2]
  refine aj_aload_n C0 dL_law_247 0 rfl ?_
  refine aj_iload_n C0 dL_law_248 3 rfl ?_
  refine aj_iconst C0 dL_law_249 ci_2 ?_
  refine aj_iadd C0 dL_law_250 ?_
  have z251 := aj_in (k := 2) hi (by decide) hL hx3 2 rfl
  refine aj_sld C0 z251.1 dL_law_251 ?_
  rw [z251.2]
  refine aj_callM C0 (m_M_officer (σ := τ) (Nat.le_refl _) F (aj_xs G (i + 1)) (aj_xs G (i + 2)) hM) mm_yX10_officer ln_RL_22 (As := fun _ => [.int (aj_xs G (i + 1)), .int (aj_xs G (i + 2))]) (fun _ => rfl) (fun _ => rfl) (loM_7_0 kM0).1 (loM_7_0 kM0).2.1 rfl (by decide) (by omega) (by omega) rfl (Nat.le_of_ble_eq_true rfl) dL_law_252 ?_
  refine aj_icmp_eq C0 dL_law_255 (tgt := 1417) (by decide) (by first | exact he | exact congrArg am_bI he) ?_
  exact kk
set_option maxRecDepth 100000 in
set_option maxHeartbeats 4000000 in
theorem aj_case2 {G : aj_T} (C0 : aj_C G) {cells slots i : Nat} {F : Nat} {x3 : Int32} {σ τ : am_SS} {qC : Int32 × am_SS} {qM : Int32 × am_SS} (hi : i + 6 ≤ aj_N G) (hL : aj_N G ≤ 3072) (hx3 : x3 = nI i) (hC : C_batman (aj_xs G (i + 1)) (aj_xs G (i + 2)) σ = some qC) (hM : M_batman (aj_xs G (i + 1)) (aj_xs G (i + 2)) τ = some qM) (he : qC.1 = qM.1) (hc : cells + 1 ≤ 600000) (hs : slots + 16 ≤ 7302250) (kk : aj_K G (cells + 0) (slots + 0) 1417 [(0, .ref (aj_b G)), (1, .ref (aj_bC G 0)), (2, .ref (aj_bM G 0)), (3, .int x3)] [] qC.2 qM.2) : aj_K G cells slots 260 [(0, .ref (aj_b G)), (1, .ref (aj_bC G 0)), (2, .ref (aj_bM G 0)), (3, .int x3)] [] σ τ := by
  refine aj_aload_n C0 dL_law_260 1 rfl ?_
  refine aj_aload_n C0 dL_law_261 0 rfl ?_
  refine aj_iload_n C0 dL_law_262 3 rfl ?_
  refine aj_iconst C0 dL_law_263 ci_1 ?_
  refine aj_iadd C0 dL_law_264 ?_
  have z265 := aj_in (k := 1) hi (by decide) hL hx3 1 rfl
  refine aj_sld C0 z265.1 dL_law_265 ?_
  rw [z265.2]
  refine aj_aload_n C0 dL_law_266 0 rfl ?_
  refine aj_iload_n C0 dL_law_267 3 rfl ?_
  refine aj_iconst C0 dL_law_268 ci_2 ?_
  refine aj_iadd C0 dL_law_269 ?_
  have z270 := aj_in (k := 2) hi (by decide) hL hx3 2 rfl
  refine aj_sld C0 z270.1 dL_law_270 ?_
  rw [z270.2]
  refine aj_callC C0 (m_C_batman (σ := σ) (Nat.le_refl _) (aj_xs G (i + 1)) (aj_xs G (i + 2)) hC) mm_yX9_batman ln_RL_23 (As := fun _ => [.int (aj_xs G (i + 1)), .int (aj_xs G (i + 2))]) (fun _ => rfl) (fun _ => rfl) (loC_6_0 kC0).1 (loC_6_0 kC0).2.1 rfl (by decide) (by omega) (by omega) rfl (Nat.le_of_ble_eq_true rfl) dL_law_271 ?_
  refine aj_aload_n C0 dL_law_274 2 rfl ?_
  refine aj_aload_n C0 dL_law_275 0 rfl ?_
  refine aj_iload_n C0 dL_law_276 3 rfl ?_
  refine aj_iconst C0 dL_law_277 ci_1 ?_
  refine aj_iadd C0 dL_law_278 ?_
  have z279 := aj_in (k := 1) hi (by decide) hL hx3 1 rfl
  refine aj_sld C0 z279.1 dL_law_279 ?_
  rw [z279.2]
  refine aj_aload_n C0 dL_law_280 0 rfl ?_
  refine aj_iload_n C0 dL_law_281 3 rfl ?_
  refine aj_iconst C0 dL_law_282 ci_2 ?_
  refine aj_iadd C0 dL_law_283 ?_
  have z284 := aj_in (k := 2) hi (by decide) hL hx3 2 rfl
  refine aj_sld C0 z284.1 dL_law_284 ?_
  rw [z284.2]
  refine aj_callM C0 (m_M_batman (σ := τ) (Nat.le_refl _) (aj_xs G (i + 1)) (aj_xs G (i + 2)) hM) mm_yX10_batman ln_RL_26 (As := fun _ => [.int (aj_xs G (i + 1)), .int (aj_xs G (i + 2))]) (fun _ => rfl) (fun _ => rfl) (loM_7_0 kM0).1 (loM_7_0 kM0).2.1 rfl (by decide) (by omega) (by omega) rfl (Nat.le_of_ble_eq_true rfl) dL_law_285 ?_
  refine aj_icmp_eq C0 dL_law_288 (tgt := 1417) (by decide) (by first | exact he | exact congrArg am_bI he) ?_
  exact kk
set_option maxRecDepth 100000 in
set_option maxHeartbeats 4000000 in
theorem aj_case3 {G : aj_T} (C0 : aj_C G) {cells slots i : Nat} {F : Nat} {x3 : Int32} {σ τ : am_SS} {qC : Bool × am_SS} {qM : Bool × am_SS} (hi : i + 6 ≤ aj_N G) (hL : aj_N G ≤ 3072) (hx3 : x3 = nI i) (hC : C_set (aj_xs G (i + 1)) (aj_xs G (i + 2)) (aj_xs G (i + 3)) σ = some qC) (hM : M_set (aj_xs G (i + 1)) (aj_xs G (i + 2)) (aj_xs G (i + 3)) τ = some qM) (he : qC.1 = qM.1) (hc : cells + 1 ≤ 600000) (hs : slots + 16 ≤ 7302250) (kk : aj_K G (cells + 0) (slots + 0) 1417 [(0, .ref (aj_b G)), (1, .ref (aj_bC G 0)), (2, .ref (aj_bM G 0)), (3, .int x3)] [] qC.2 qM.2) : aj_K G cells slots 293 [(0, .ref (aj_b G)), (1, .ref (aj_bC G 0)), (2, .ref (aj_bM G 0)), (3, .int x3)] [] σ τ := by
  refine aj_aload_n C0 dL_law_293 1 rfl ?_
  refine aj_aload_n C0 dL_law_294 0 rfl ?_
  refine aj_iload_n C0 dL_law_295 3 rfl ?_
  refine aj_iconst C0 dL_law_296 ci_1 ?_
  refine aj_iadd C0 dL_law_297 ?_
  have z298 := aj_in (k := 1) hi (by decide) hL hx3 1 rfl
  refine aj_sld C0 z298.1 dL_law_298 ?_
  rw [z298.2]
  refine aj_aload_n C0 dL_law_299 0 rfl ?_
  refine aj_iload_n C0 dL_law_300 3 rfl ?_
  refine aj_iconst C0 dL_law_301 ci_2 ?_
  refine aj_iadd C0 dL_law_302 ?_
  have z303 := aj_in (k := 2) hi (by decide) hL hx3 2 rfl
  refine aj_sld C0 z303.1 dL_law_303 ?_
  rw [z303.2]
  refine aj_aload_n C0 dL_law_304 0 rfl ?_
  refine aj_iload_n C0 dL_law_305 3 rfl ?_
  refine aj_iconst C0 dL_law_306 ci_3 ?_
  refine aj_iadd C0 dL_law_307 ?_
  have z308 := aj_in (k := 3) hi (by decide) hL hx3 3 rfl
  refine aj_sld C0 z308.1 dL_law_308 ?_
  rw [z308.2]
  refine aj_callC C0 (m_C_set (σ := σ) (Nat.le_refl _) (aj_xs G (i + 1)) (aj_xs G (i + 2)) (aj_xs G (i + 3)) hC) mm_yX9_set ln_RL_27 (As := fun _ => [.int (aj_xs G (i + 1)), .int (aj_xs G (i + 2)), .int (aj_xs G (i + 3))]) (fun _ => rfl) (fun _ => rfl) (loC_6_0 kC0).1 (loC_6_0 kC0).2.1 rfl (by decide) (by omega) (by omega) rfl (Nat.le_of_ble_eq_true rfl) dL_law_309 ?_
  refine aj_aload_n C0 dL_law_312 2 rfl ?_
  refine aj_aload_n C0 dL_law_313 0 rfl ?_
  refine aj_iload_n C0 dL_law_314 3 rfl ?_
  refine aj_iconst C0 dL_law_315 ci_1 ?_
  refine aj_iadd C0 dL_law_316 ?_
  have z317 := aj_in (k := 1) hi (by decide) hL hx3 1 rfl
  refine aj_sld C0 z317.1 dL_law_317 ?_
  rw [z317.2]
  refine aj_aload_n C0 dL_law_318 0 rfl ?_
  refine aj_iload_n C0 dL_law_319 3 rfl ?_
  refine aj_iconst C0 dL_law_320 ci_2 ?_
  refine aj_iadd C0 dL_law_321 ?_
  have z322 := aj_in (k := 2) hi (by decide) hL hx3 2 rfl
  refine aj_sld C0 z322.1 dL_law_322 ?_
  rw [z322.2]
  refine aj_aload_n C0 dL_law_323 0 rfl ?_
  refine aj_iload_n C0 dL_law_324 3 rfl ?_
  refine aj_iconst C0 dL_law_325 ci_3 ?_
  refine aj_iadd C0 dL_law_326 ?_
  have z327 := aj_in (k := 3) hi (by decide) hL hx3 3 rfl
  refine aj_sld C0 z327.1 dL_law_327 ?_
  rw [z327.2]
  refine aj_callM C0 (m_M_set (σ := τ) (Nat.le_refl _) (aj_xs G (i + 1)) (aj_xs G (i + 2)) (aj_xs G (i + 3)) hM) mm_yX10_set ln_RL_31 (As := fun _ => [.int (aj_xs G (i + 1)), .int (aj_xs G (i + 2)), .int (aj_xs G (i + 3))]) (fun _ => rfl) (fun _ => rfl) (loM_7_0 kM0).1 (loM_7_0 kM0).2.1 rfl (by decide) (by omega) (by omega) rfl (Nat.le_of_ble_eq_true rfl) dL_law_328 ?_
  refine aj_icmp_eq C0 dL_law_331 (tgt := 1417) (by decide) (by first | exact he | exact congrArg am_bI he) ?_
  exact kk
set_option maxRecDepth 100000 in
set_option maxHeartbeats 4000000 in
theorem aj_case4 {G : aj_T} (C0 : aj_C G) {cells slots i : Nat} {F : Nat} {x3 : Int32} {σ τ : am_SS} {qC : Bool × am_SS} {qM : Bool × am_SS} (hi : i + 6 ≤ aj_N G) (hL : aj_N G ≤ 3072) (hx3 : x3 = nI i) (hC : C_act F (aj_xs G (i + 1)) (aj_xs G (i + 2)) (aj_xs G (i + 3)) σ = some qC) (hM : M_act F (aj_xs G (i + 1)) (aj_xs G (i + 2)) (aj_xs G (i + 3)) τ = some qM) (he : qC.1 = qM.1) (hc : cells + 1 ≤ 600000) (hs : slots + 16 ≤ 7302250) (kk : aj_K G (cells + 0) (slots + 0) 1417 [(0, .ref (aj_b G)), (1, .ref (aj_bC G 0)), (2, .ref (aj_bM G 0)), (3, .int x3)] [] qC.2 qM.2) : aj_K G cells slots 336 [(0, .ref (aj_b G)), (1, .ref (aj_bC G 0)), (2, .ref (aj_bM G 0)), (3, .int x3)] [] σ τ := by
  refine aj_aload_n C0 dL_law_336 1 rfl ?_
  refine aj_aload_n C0 dL_law_337 0 rfl ?_
  refine aj_iload_n C0 dL_law_338 3 rfl ?_
  refine aj_iconst C0 dL_law_339 ci_1 ?_
  refine aj_iadd C0 dL_law_340 ?_
  have z341 := aj_in (k := 1) hi (by decide) hL hx3 1 rfl
  refine aj_sld C0 z341.1 dL_law_341 ?_
  rw [z341.2]
  refine aj_aload_n C0 dL_law_342 0 rfl ?_
  refine aj_iload_n C0 dL_law_343 3 rfl ?_
  refine aj_iconst C0 dL_law_344 ci_2 ?_
  refine aj_iadd C0 dL_law_345 ?_
  have z346 := aj_in (k := 2) hi (by decide) hL hx3 2 rfl
  refine aj_sld C0 z346.1 dL_law_346 ?_
  rw [z346.2]
  refine aj_aload_n C0 dL_law_347 0 rfl ?_
  refine aj_iload_n C0 dL_law_348 3 rfl ?_
  refine aj_iconst C0 dL_law_349 ci_3 ?_
  refine aj_iadd C0 dL_law_350 ?_
  have z351 := aj_in (k := 3) hi (by decide) hL hx3 3 rfl
  refine aj_sld C0 z351.1 dL_law_351 ?_
  rw [z351.2]
  refine aj_callC C0 (m_C_act (σ := σ) (Nat.le_refl _) F (aj_xs G (i + 1)) (aj_xs G (i + 2)) (aj_xs G (i + 3)) hC) mm_yX9_act ln_RL_32 (As := fun _ => [.int (aj_xs G (i + 1)), .int (aj_xs G (i + 2)), .int (aj_xs G (i + 3))]) (fun _ => rfl) (fun _ => rfl) (loC_6_0 kC0).1 (loC_6_0 kC0).2.1 rfl (by decide) (by omega) (by omega) rfl (Nat.le_of_ble_eq_true rfl) dL_law_352 ?_
  refine aj_aload_n C0 dL_law_355 2 rfl ?_
  refine aj_aload_n C0 dL_law_356 0 rfl ?_
  refine aj_iload_n C0 dL_law_357 3 rfl ?_
  refine aj_iconst C0 dL_law_358 ci_1 ?_
  refine aj_iadd C0 dL_law_359 ?_
  have z360 := aj_in (k := 1) hi (by decide) hL hx3 1 rfl
  refine aj_sld C0 z360.1 dL_law_360 ?_
  rw [z360.2]
  refine aj_aload_n C0 dL_law_361 0 rfl ?_
  refine aj_iload_n C0 dL_law_362 3 rfl ?_
  refine aj_iconst C0 dL_law_363 ci_2 ?_
  refine aj_iadd C0 dL_law_364 ?_
  have z365 := aj_in (k := 2) hi (by decide) hL hx3 2 rfl
  refine aj_sld C0 z365.1 dL_law_365 ?_
  rw [z365.2]
  refine aj_aload_n C0 dL_law_366 0 rfl ?_
  refine aj_iload_n C0 dL_law_367 3 rfl ?_
  refine aj_iconst C0 dL_law_368 ci_3 ?_
  refine aj_iadd C0 dL_law_369 ?_
  have z370 := aj_in (k := 3) hi (by decide) hL hx3 3 rfl
  refine aj_sld C0 z370.1 dL_law_370 ?_
  rw [z370.2]
  refine aj_callM C0 (m_M_act (σ := τ) (Nat.le_refl _) F (aj_xs G (i + 1)) (aj_xs G (i + 2)) (aj_xs G (i + 3)) hM) mm_yX10_act ln_RL_35 (As := fun _ => [.int (aj_xs G (i + 1)), .int (aj_xs G (i + 2)), .int (aj_xs G (i + 3))]) (fun _ => rfl) (fun _ => rfl) (loM_7_0 kM0).1 (loM_7_0 kM0).2.1 rfl (by decide) (by omega) (by omega) rfl (Nat.le_of_ble_eq_true rfl) dL_law_371 ?_
  refine aj_icmp_eq C0 dL_law_374 (tgt := 1417) (by decide) (by first | exact he | exact congrArg am_bI he) ?_
  exact kk
set_option maxRecDepth 100000 in
set_option maxHeartbeats 4000000 in
theorem aj_case5 {G : aj_T} (C0 : aj_C G) {cells slots i : Nat} {F : Nat} {x3 : Int32} {σ τ : am_SS} {qC : Int32 × am_SS} {qM : Int32 × am_SS} (hi : i + 6 ≤ aj_N G) (hL : aj_N G ≤ 3072) (hx3 : x3 = nI i) (hC : C_days F (aj_xs G (i + 1)) σ = some qC) (hM : M_days F (aj_xs G (i + 1)) τ = some qM) (he : qC.1 = qM.1) (hc : cells + 1 ≤ 600000) (hs : slots + 16 ≤ 7302250) (kk : aj_K G (cells + 0) (slots + 0) 1417 [(0, .ref (aj_b G)), (1, .ref (aj_bC G 0)), (2, .ref (aj_bM G 0)), (3, .int x3)] [] qC.2 qM.2) : aj_K G cells slots 379 [(0, .ref (aj_b G)), (1, .ref (aj_bC G 0)), (2, .ref (aj_bM G 0)), (3, .int x3)] [] σ τ := by
  refine aj_aload_n C0 dL_law_379 1 rfl ?_
  refine aj_aload_n C0 dL_law_380 0 rfl ?_
  refine aj_iload_n C0 dL_law_381 3 rfl ?_
  refine aj_iconst C0 dL_law_382 ci_1 ?_
  refine aj_iadd C0 dL_law_383 ?_
  have z384 := aj_in (k := 1) hi (by decide) hL hx3 1 rfl
  refine aj_sld C0 z384.1 dL_law_384 ?_
  rw [z384.2]
  refine aj_callC C0 (m_C_days (σ := σ) (Nat.le_refl _) F (aj_xs G (i + 1)) hC) mm_yX9_days ln_RL_36 (As := fun _ => [.int (aj_xs G (i + 1))]) (fun _ => rfl) (fun _ => rfl) (loC_6_0 kC0).1 (loC_6_0 kC0).2.1 rfl (by decide) (by omega) (by omega) rfl (Nat.le_of_ble_eq_true rfl) dL_law_385 ?_
  refine aj_aload_n C0 dL_law_388 2 rfl ?_
  refine aj_aload_n C0 dL_law_389 0 rfl ?_
  refine aj_iload_n C0 dL_law_390 3 rfl ?_
  refine aj_iconst C0 dL_law_391 ci_1 ?_
  refine aj_iadd C0 dL_law_392 ?_
  have z393 := aj_in (k := 1) hi (by decide) hL hx3 1 rfl
  refine aj_sld C0 z393.1 dL_law_393 ?_
  rw [z393.2]
  refine aj_callM C0 (m_M_days (σ := τ) (Nat.le_refl _) F (aj_xs G (i + 1)) hM) mm_yX10_days ln_RL_39 (As := fun _ => [.int (aj_xs G (i + 1))]) (fun _ => rfl) (fun _ => rfl) (loM_7_0 kM0).1 (loM_7_0 kM0).2.1 rfl (by decide) (by omega) (by omega) rfl (Nat.le_of_ble_eq_true rfl) dL_law_394 ?_
  refine aj_icmp_eq C0 dL_law_397 (tgt := 1417) (by decide) (by first | exact he | exact congrArg am_bI he) ?_
  exact kk
set_option maxRecDepth 100000 in
set_option maxHeartbeats 4000000 in
theorem aj_case6 {G : aj_T} (C0 : aj_C G) {cells slots i : Nat} {F : Nat} {x3 : Int32} {σ τ : am_SS} {qC : Int32 × am_SS} {qM : Int32 × am_SS} (hi : i + 6 ≤ aj_N G) (hL : aj_N G ≤ 3072) (hx3 : x3 = nI i) (hC : C_feed F (aj_xs G (i + 1)) (aj_xs G (i + 2)) (aj_xs G (i + 3)) (aj_xs G (i + 4)) (aj_xs G (i + 5)) σ = some qC) (hM : M_feed F (aj_xs G (i + 1)) (aj_xs G (i + 2)) (aj_xs G (i + 3)) (aj_xs G (i + 4)) (aj_xs G (i + 5)) τ = some qM) (he : qC.1 = qM.1) (hc : cells + 1 ≤ 600000) (hs : slots + 16 ≤ 7302250) (kk : aj_K G (cells + 0) (slots + 0) 1417 [(0, .ref (aj_b G)), (1, .ref (aj_bC G 0)), (2, .ref (aj_bM G 0)), (3, .int x3)] [] qC.2 qM.2) : aj_K G cells slots 402 [(0, .ref (aj_b G)), (1, .ref (aj_bC G 0)), (2, .ref (aj_bM G 0)), (3, .int x3)] [] σ τ := by
  refine aj_aload_n C0 dL_law_402 1 rfl ?_
  refine aj_aload_n C0 dL_law_403 0 rfl ?_
  refine aj_iload_n C0 dL_law_404 3 rfl ?_
  refine aj_iconst C0 dL_law_405 ci_1 ?_
  refine aj_iadd C0 dL_law_406 ?_
  have z407 := aj_in (k := 1) hi (by decide) hL hx3 1 rfl
  refine aj_sld C0 z407.1 dL_law_407 ?_
  rw [z407.2]
  refine aj_aload_n C0 dL_law_408 0 rfl ?_
  refine aj_iload_n C0 dL_law_409 3 rfl ?_
  refine aj_iconst C0 dL_law_410 ci_2 ?_
  refine aj_iadd C0 dL_law_411 ?_
  have z412 := aj_in (k := 2) hi (by decide) hL hx3 2 rfl
  refine aj_sld C0 z412.1 dL_law_412 ?_
  rw [z412.2]
  refine aj_aload_n C0 dL_law_413 0 rfl ?_
  refine aj_iload_n C0 dL_law_414 3 rfl ?_
  refine aj_iconst C0 dL_law_415 ci_3 ?_
  refine aj_iadd C0 dL_law_416 ?_
  have z417 := aj_in (k := 3) hi (by decide) hL hx3 3 rfl
  refine aj_sld C0 z417.1 dL_law_417 ?_
  rw [z417.2]
  refine aj_aload_n C0 dL_law_418 0 rfl ?_
  refine aj_iload_n C0 dL_law_419 3 rfl ?_
  refine aj_iconst C0 dL_law_420 ci_4 ?_
  refine aj_iadd C0 dL_law_421 ?_
  have z422 := aj_in (k := 4) hi (by decide) hL hx3 4 rfl
  refine aj_sld C0 z422.1 dL_law_422 ?_
  rw [z422.2]
  refine aj_aload_n C0 dL_law_423 0 rfl ?_
  refine aj_iload_n C0 dL_law_424 3 rfl ?_
  refine aj_iconst C0 dL_law_425 ci_5 ?_
  refine aj_iadd C0 dL_law_426 ?_
  have z427 := aj_in (k := 5) hi (by decide) hL hx3 5 rfl
  refine aj_sld C0 z427.1 dL_law_427 ?_
  rw [z427.2]
  refine aj_callC C0 (m_C_feed (σ := σ) (Nat.le_refl _) F (aj_xs G (i + 1)) (aj_xs G (i + 2)) (aj_xs G (i + 3)) (aj_xs G (i + 4)) (aj_xs G (i + 5)) hC) mm_yX9_feed ln_RL_40 (As := fun _ => [.int (aj_xs G (i + 1)), .int (aj_xs G (i + 2)), .int (aj_xs G (i + 3)), .int (aj_xs G (i + 4)), .int (aj_xs G (i + 5))]) (fun _ => rfl) (fun _ => rfl) (loC_6_0 kC0).1 (loC_6_0 kC0).2.1 rfl (by decide) (by omega) (by omega) rfl (Nat.le_of_ble_eq_true rfl) dL_law_428 ?_
  refine aj_aload_n C0 dL_law_431 2 rfl ?_
  refine aj_aload_n C0 dL_law_432 0 rfl ?_
  refine aj_iload_n C0 dL_law_433 3 rfl ?_
  refine aj_iconst C0 dL_law_434 ci_1 ?_
  refine aj_iadd C0 dL_law_435 ?_
  have z436 := aj_in (k := 1) hi (by decide) hL hx3 1 rfl
  refine aj_sld C0 z436.1 dL_law_436 ?_
  rw [z436.2]
  refine aj_aload_n C0 dL_law_437 0 rfl ?_
  refine aj_iload_n C0 dL_law_438 3 rfl ?_
  refine aj_iconst C0 dL_law_439 ci_2 ?_
  refine aj_iadd C0 dL_law_440 ?_
  have z441 := aj_in (k := 2) hi (by decide) hL hx3 2 rfl
  refine aj_sld C0 z441.1 dL_law_441 ?_
  rw [z441.2]
  refine aj_aload_n C0 dL_law_442 0 rfl ?_
  refine aj_iload_n C0 dL_law_443 3 rfl ?_
  refine aj_iconst C0 dL_law_444 ci_3 ?_
  refine aj_iadd C0 dL_law_445 ?_
  have z446 := aj_in (k := 3) hi (by decide) hL hx3 3 rfl
  refine aj_sld C0 z446.1 dL_law_446 ?_
  rw [z446.2]
  refine aj_aload_n C0 dL_law_447 0 rfl ?_
  refine aj_iload_n C0 dL_law_448 3 rfl ?_
  refine aj_iconst C0 dL_law_449 ci_4 ?_
  refine aj_iadd C0 dL_law_450 ?_
  have z451 := aj_in (k := 4) hi (by decide) hL hx3 4 rfl
  refine aj_sld C0 z451.1 dL_law_451 ?_
  rw [z451.2]
  refine aj_aload_n C0 dL_law_452 0 rfl ?_
  refine aj_iload_n C0 dL_law_453 3 rfl ?_
  refine aj_iconst C0 dL_law_454 ci_5 ?_
  refine aj_iadd C0 dL_law_455 ?_
  have z456 := aj_in (k := 5) hi (by decide) hL hx3 5 rfl
  refine aj_sld C0 z456.1 dL_law_456 ?_
  rw [z456.2]
  refine aj_callM C0 (m_M_feed (σ := τ) (Nat.le_refl _) F (aj_xs G (i + 1)) (aj_xs G (i + 2)) (aj_xs G (i + 3)) (aj_xs G (i + 4)) (aj_xs G (i + 5)) hM) mm_yX10_feed ln_RL_44 (As := fun _ => [.int (aj_xs G (i + 1)), .int (aj_xs G (i + 2)), .int (aj_xs G (i + 3)), .int (aj_xs G (i + 4)), .int (aj_xs G (i + 5))]) (fun _ => rfl) (fun _ => rfl) (loM_7_0 kM0).1 (loM_7_0 kM0).2.1 rfl (by decide) (by omega) (by omega) rfl (Nat.le_of_ble_eq_true rfl) dL_law_457 ?_
  refine aj_icmp_eq C0 dL_law_460 (tgt := 1417) (by decide) (by first | exact he | exact congrArg am_bI he) ?_
  exact kk
set_option maxRecDepth 100000 in
set_option maxHeartbeats 4000000 in
theorem aj_case7 {G : aj_T} (C0 : aj_C G) {cells slots i : Nat} {F : Nat} {x3 : Int32} {σ τ : am_SS} {qC : Bool × am_SS} {qM : Bool × am_SS} (hi : i + 6 ≤ aj_N G) (hL : aj_N G ≤ 3072) (hx3 : x3 = nI i) (hC : C_end (aj_xs G (i + 1)) σ = qC) (hM : M_end (aj_xs G (i + 1)) τ = qM) (he : qC.1 = qM.1) (hc : cells + 1 ≤ 600000) (hs : slots + 16 ≤ 7302250) (kk : aj_K G (cells + 0) (slots + 0) 1417 [(0, .ref (aj_b G)), (1, .ref (aj_bC G 0)), (2, .ref (aj_bM G 0)), (3, .int x3)] [] qC.2 qM.2) : aj_K G cells slots 465 [(0, .ref (aj_b G)), (1, .ref (aj_bC G 0)), (2, .ref (aj_bM G 0)), (3, .int x3)] [] σ τ := by
  refine aj_aload_n C0 dL_law_465 1 rfl ?_
  refine aj_aload_n C0 dL_law_466 0 rfl ?_
  refine aj_iload_n C0 dL_law_467 3 rfl ?_
  refine aj_iconst C0 dL_law_468 ci_1 ?_
  refine aj_iadd C0 dL_law_469 ?_
  have z470 := aj_in (k := 1) hi (by decide) hL hx3 1 rfl
  refine aj_sld C0 z470.1 dL_law_470 ?_
  rw [z470.2]
  refine aj_callC C0 (m_C_end (σ := σ) (Nat.le_refl _) (aj_xs G (i + 1)) hC) mm_yX9_end ln_RL_45 (As := fun _ => [.int (aj_xs G (i + 1))]) (fun _ => rfl) (fun _ => rfl) (loC_6_0 kC0).1 (loC_6_0 kC0).2.1 rfl (by decide) (by omega) (by omega) rfl (Nat.le_of_ble_eq_true rfl) dL_law_471 ?_
  refine aj_aload_n C0 dL_law_474 2 rfl ?_
  refine aj_aload_n C0 dL_law_475 0 rfl ?_
  refine aj_iload_n C0 dL_law_476 3 rfl ?_
  refine aj_iconst C0 dL_law_477 ci_1 ?_
  refine aj_iadd C0 dL_law_478 ?_
  have z479 := aj_in (k := 1) hi (by decide) hL hx3 1 rfl
  refine aj_sld C0 z479.1 dL_law_479 ?_
  rw [z479.2]
  refine aj_callM C0 (m_M_end (σ := τ) (Nat.le_refl _) (aj_xs G (i + 1)) hM) mm_yX10_end ln_RL_49 (As := fun _ => [.int (aj_xs G (i + 1))]) (fun _ => rfl) (fun _ => rfl) (loM_7_0 kM0).1 (loM_7_0 kM0).2.1 rfl (by decide) (by omega) (by omega) rfl (Nat.le_of_ble_eq_true rfl) dL_law_480 ?_
  refine aj_icmp_eq C0 dL_law_483 (tgt := 1417) (by decide) (by first | exact he | exact congrArg am_bI he) ?_
  exact kk
set_option maxRecDepth 100000 in
set_option maxHeartbeats 4000000 in
theorem aj_case8 {G : aj_T} (C0 : aj_C G) {cells slots i : Nat} {F : Nat} {x3 : Int32} {σ τ : am_SS} {qC : Int32 × am_SS} {qM : Int32 × am_SS} (hi : i + 6 ≤ aj_N G) (hL : aj_N G ≤ 3072) (hx3 : x3 = nI i) (hC : C_text F (aj_xs G (i + 1)) σ = some qC) (hM : M_text F (aj_xs G (i + 1)) τ = some qM) (he : qC.1 = qM.1) (hc : cells + 1 ≤ 600000) (hs : slots + 16 ≤ 7302250) (kk : aj_K G (cells + 0) (slots + 0) 1417 [(0, .ref (aj_b G)), (1, .ref (aj_bC G 0)), (2, .ref (aj_bM G 0)), (3, .int x3)] [] qC.2 qM.2) : aj_K G cells slots 488 [(0, .ref (aj_b G)), (1, .ref (aj_bC G 0)), (2, .ref (aj_bM G 0)), (3, .int x3)] [] σ τ := by
  refine aj_aload_n C0 dL_law_488 1 rfl ?_
  refine aj_aload_n C0 dL_law_489 0 rfl ?_
  refine aj_iload_n C0 dL_law_490 3 rfl ?_
  refine aj_iconst C0 dL_law_491 ci_1 ?_
  refine aj_iadd C0 dL_law_492 ?_
  have z493 := aj_in (k := 1) hi (by decide) hL hx3 1 rfl
  refine aj_sld C0 z493.1 dL_law_493 ?_
  rw [z493.2]
  refine aj_callC C0 (m_C_text (σ := σ) (Nat.le_refl _) F (aj_xs G (i + 1)) hC) mm_yX9_text ln_RL_50 (As := fun _ => [.int (aj_xs G (i + 1))]) (fun _ => rfl) (fun _ => rfl) (loC_6_0 kC0).1 (loC_6_0 kC0).2.1 rfl (by decide) (by omega) (by omega) rfl (Nat.le_of_ble_eq_true rfl) dL_law_494 ?_
  refine aj_aload_n C0 dL_law_497 2 rfl ?_
  refine aj_aload_n C0 dL_law_498 0 rfl ?_
  refine aj_iload_n C0 dL_law_499 3 rfl ?_
  refine aj_iconst C0 dL_law_500 ci_1 ?_
  refine aj_iadd C0 dL_law_501 ?_
  have z502 := aj_in (k := 1) hi (by decide) hL hx3 1 rfl
  refine aj_sld C0 z502.1 dL_law_502 ?_
  rw [z502.2]
  refine aj_callM C0 (m_M_text (σ := τ) (Nat.le_refl _) F (aj_xs G (i + 1)) hM) mm_yX10_text ln_RL_53 (As := fun _ => [.int (aj_xs G (i + 1))]) (fun _ => rfl) (fun _ => rfl) (loM_7_0 kM0).1 (loM_7_0 kM0).2.1 rfl (by decide) (by omega) (by omega) rfl (Nat.le_of_ble_eq_true rfl) dL_law_503 ?_
  refine aj_icmp_eq C0 dL_law_506 (tgt := 1417) (by decide) (by first | exact he | exact congrArg am_bI he) ?_
  exact kk
set_option maxRecDepth 100000 in
set_option maxHeartbeats 4000000 in
theorem aj_case9 {G : aj_T} (C0 : aj_C G) {cells slots i : Nat} {F : Nat} {x3 : Int32} {σ τ : am_SS} {qC : Int32} {qM : Int32 × am_SS} (hi : i + 6 ≤ aj_N G) (hL : aj_N G ≤ 3072) (hx3 : x3 = nI i) (hC : C_fault (aj_xs G (i + 1)) σ = qC) (hM : M_fault (aj_xs G (i + 1)) τ = qM) (he : qC = qM.1) (hc : cells + 1 ≤ 600000) (hs : slots + 16 ≤ 7302250) (kk : aj_K G (cells + 0) (slots + 0) 1417 [(0, .ref (aj_b G)), (1, .ref (aj_bC G 0)), (2, .ref (aj_bM G 0)), (3, .int x3)] [] σ qM.2) : aj_K G cells slots 511 [(0, .ref (aj_b G)), (1, .ref (aj_bC G 0)), (2, .ref (aj_bM G 0)), (3, .int x3)] [] σ τ := by
  refine aj_aload_n C0 dL_law_511 1 rfl ?_
  refine aj_aload_n C0 dL_law_512 0 rfl ?_
  refine aj_iload_n C0 dL_law_513 3 rfl ?_
  refine aj_iconst C0 dL_law_514 ci_1 ?_
  refine aj_iadd C0 dL_law_515 ?_
  have z516 := aj_in (k := 1) hi (by decide) hL hx3 1 rfl
  refine aj_sld C0 z516.1 dL_law_516 ?_
  rw [z516.2]
  refine aj_callC C0 (m_C_fault (σ := σ) (Nat.le_refl _) (aj_xs G (i + 1)) hC) mm_yX9_fault ln_RL_54 (As := fun _ => [.int (aj_xs G (i + 1))]) (fun _ => rfl) (fun _ => rfl) (loC_6_0 kC0).1 (loC_6_0 kC0).2.1 rfl (by decide) (by omega) (by omega) rfl (Nat.le_of_ble_eq_true rfl) dL_law_517 ?_
  refine aj_aload_n C0 dL_law_520 2 rfl ?_
  refine aj_aload_n C0 dL_law_521 0 rfl ?_
  refine aj_iload_n C0 dL_law_522 3 rfl ?_
  refine aj_iconst C0 dL_law_523 ci_1 ?_
  refine aj_iadd C0 dL_law_524 ?_
  have z525 := aj_in (k := 1) hi (by decide) hL hx3 1 rfl
  refine aj_sld C0 z525.1 dL_law_525 ?_
  rw [z525.2]
  refine aj_callM C0 (m_M_fault (σ := τ) (Nat.le_refl _) (aj_xs G (i + 1)) hM) mm_yX10_fault ln_RL_57 (As := fun _ => [.int (aj_xs G (i + 1))]) (fun _ => rfl) (fun _ => rfl) (loM_7_0 kM0).1 (loM_7_0 kM0).2.1 rfl (by decide) (by omega) (by omega) rfl (Nat.le_of_ble_eq_true rfl) dL_law_526 ?_
  refine aj_icmp_eq C0 dL_law_529 (tgt := 1417) (by decide) (by first | exact he | exact congrArg am_bI he) ?_
  exact kk
set_option maxRecDepth 100000 in
set_option maxHeartbeats 4000000 in
theorem aj_case10 {G : aj_T} (C0 : aj_C G) {cells slots i : Nat} {F : Nat} {x3 : Int32} {σ τ : am_SS} {qC : Int32 × am_SS} {qM : Int32 × am_SS} (hi : i + 6 ≤ aj_N G) (hL : aj_N G ≤ 3072) (hx3 : x3 = nI i) (hC : C_of F (aj_xs G (i + 1)) (aj_xs G (i + 2)) σ = some qC) (hM : M_of F (aj_xs G (i + 1)) (aj_xs G (i + 2)) τ = some qM) (he : qC.1 = qM.1) (hc : cells + 1 ≤ 600000) (hs : slots + 16 ≤ 7302250) (kk : aj_K G (cells + 0) (slots + 0) 1417 [(0, .ref (aj_b G)), (1, .ref (aj_bC G 0)), (2, .ref (aj_bM G 0)), (3, .int x3)] [] qC.2 qM.2) : aj_K G cells slots 534 [(0, .ref (aj_b G)), (1, .ref (aj_bC G 0)), (2, .ref (aj_bM G 0)), (3, .int x3)] [] σ τ := by
  refine aj_aload_n C0 dL_law_534 1 rfl ?_
  refine aj_aload_n C0 dL_law_535 0 rfl ?_
  refine aj_iload_n C0 dL_law_536 3 rfl ?_
  refine aj_iconst C0 dL_law_537 ci_1 ?_
  refine aj_iadd C0 dL_law_538 ?_
  have z539 := aj_in (k := 1) hi (by decide) hL hx3 1 rfl
  refine aj_sld C0 z539.1 dL_law_539 ?_
  rw [z539.2]
  refine aj_aload_n C0 dL_law_540 0 rfl ?_
  refine aj_iload_n C0 dL_law_541 3 rfl ?_
  refine aj_iconst C0 dL_law_542 ci_2 ?_
  refine aj_iadd C0 dL_law_543 ?_
  have z544 := aj_in (k := 2) hi (by decide) hL hx3 2 rfl
  refine aj_sld C0 z544.1 dL_law_544 ?_
  rw [z544.2]
  refine aj_callC C0 (m_C_of (σ := σ) (Nat.le_refl _) F (aj_xs G (i + 1)) (aj_xs G (i + 2)) hC) mm_yX9_of ln_RL_58 (As := fun _ => [.int (aj_xs G (i + 1)), .int (aj_xs G (i + 2))]) (fun _ => rfl) (fun _ => rfl) (loC_6_0 kC0).1 (loC_6_0 kC0).2.1 rfl (by decide) (by omega) (by omega) rfl (Nat.le_of_ble_eq_true rfl) dL_law_545 ?_
  refine aj_aload_n C0 dL_law_548 2 rfl ?_
  refine aj_aload_n C0 dL_law_549 0 rfl ?_
  refine aj_iload_n C0 dL_law_550 3 rfl ?_
  refine aj_iconst C0 dL_law_551 ci_1 ?_
  refine aj_iadd C0 dL_law_552 ?_
  have z553 := aj_in (k := 1) hi (by decide) hL hx3 1 rfl
  refine aj_sld C0 z553.1 dL_law_553 ?_
  rw [z553.2]
  refine aj_aload_n C0 dL_law_554 0 rfl ?_
  refine aj_iload_n C0 dL_law_555 3 rfl ?_
  refine aj_iconst C0 dL_law_556 ci_2 ?_
  refine aj_iadd C0 dL_law_557 ?_
  have z558 := aj_in (k := 2) hi (by decide) hL hx3 2 rfl
  refine aj_sld C0 z558.1 dL_law_558 ?_
  rw [z558.2]
  refine aj_callM C0 (m_M_of (σ := τ) (Nat.le_refl _) F (aj_xs G (i + 1)) (aj_xs G (i + 2)) hM) mm_yX10_of ln_RL_61 (As := fun _ => [.int (aj_xs G (i + 1)), .int (aj_xs G (i + 2))]) (fun _ => rfl) (fun _ => rfl) (loM_7_0 kM0).1 (loM_7_0 kM0).2.1 rfl (by decide) (by omega) (by omega) rfl (Nat.le_of_ble_eq_true rfl) dL_law_559 ?_
  refine aj_icmp_eq C0 dL_law_562 (tgt := 1417) (by decide) (by first | exact he | exact congrArg am_bI he) ?_
  exact kk
set_option maxRecDepth 100000 in
set_option maxHeartbeats 4000000 in
theorem aj_case11 {G : aj_T} (C0 : aj_C G) {cells slots i : Nat} {F : Nat} {x3 : Int32} {σ τ : am_SS} {qC : Int32} {qM : Int32 × am_SS} (hi : i + 6 ≤ aj_N G) (hL : aj_N G ≤ 3072) (hx3 : x3 = nI i) (hC : C_who F (aj_xs G (i + 1)) (aj_xs G (i + 2)) σ = some qC) (hM : M_who F (aj_xs G (i + 1)) (aj_xs G (i + 2)) τ = some qM) (he : qC = qM.1) (hc : cells + 1 ≤ 600000) (hs : slots + 16 ≤ 7302250) (kk : aj_K G (cells + 0) (slots + 0) 1417 [(0, .ref (aj_b G)), (1, .ref (aj_bC G 0)), (2, .ref (aj_bM G 0)), (3, .int x3)] [] σ qM.2) : aj_K G cells slots 567 [(0, .ref (aj_b G)), (1, .ref (aj_bC G 0)), (2, .ref (aj_bM G 0)), (3, .int x3)] [] σ τ := by
  refine aj_aload_n C0 dL_law_567 1 rfl ?_
  refine aj_aload_n C0 dL_law_568 0 rfl ?_
  refine aj_iload_n C0 dL_law_569 3 rfl ?_
  refine aj_iconst C0 dL_law_570 ci_1 ?_
  refine aj_iadd C0 dL_law_571 ?_
  have z572 := aj_in (k := 1) hi (by decide) hL hx3 1 rfl
  refine aj_sld C0 z572.1 dL_law_572 ?_
  rw [z572.2]
  refine aj_aload_n C0 dL_law_573 0 rfl ?_
  refine aj_iload_n C0 dL_law_574 3 rfl ?_
  refine aj_iconst C0 dL_law_575 ci_2 ?_
  refine aj_iadd C0 dL_law_576 ?_
  have z577 := aj_in (k := 2) hi (by decide) hL hx3 2 rfl
  refine aj_sld C0 z577.1 dL_law_577 ?_
  rw [z577.2]
  refine aj_callC C0 (m_C_who (σ := σ) (Nat.le_refl _) F (aj_xs G (i + 1)) (aj_xs G (i + 2)) hC) mm_yX9_who ln_RL_62 (As := fun _ => [.int (aj_xs G (i + 1)), .int (aj_xs G (i + 2))]) (fun _ => rfl) (fun _ => rfl) (loC_6_0 kC0).1 (loC_6_0 kC0).2.1 rfl (by decide) (by omega) (by omega) rfl (Nat.le_of_ble_eq_true rfl) dL_law_578 ?_
  refine aj_aload_n C0 dL_law_581 2 rfl ?_
  refine aj_aload_n C0 dL_law_582 0 rfl ?_
  refine aj_iload_n C0 dL_law_583 3 rfl ?_
  refine aj_iconst C0 dL_law_584 ci_1 ?_
  refine aj_iadd C0 dL_law_585 ?_
  have z586 := aj_in (k := 1) hi (by decide) hL hx3 1 rfl
  refine aj_sld C0 z586.1 dL_law_586 ?_
  rw [z586.2]
  refine aj_aload_n C0 dL_law_587 0 rfl ?_
  refine aj_iload_n C0 dL_law_588 3 rfl ?_
  refine aj_iconst C0 dL_law_589 ci_2 ?_
  refine aj_iadd C0 dL_law_590 ?_
  have z591 := aj_in (k := 2) hi (by decide) hL hx3 2 rfl
  refine aj_sld C0 z591.1 dL_law_591 ?_
  rw [z591.2]
  refine aj_callM C0 (m_M_who (σ := τ) (Nat.le_refl _) F (aj_xs G (i + 1)) (aj_xs G (i + 2)) hM) mm_yX10_who ln_RL_65 (As := fun _ => [.int (aj_xs G (i + 1)), .int (aj_xs G (i + 2))]) (fun _ => rfl) (fun _ => rfl) (loM_7_0 kM0).1 (loM_7_0 kM0).2.1 rfl (by decide) (by omega) (by omega) rfl (Nat.le_of_ble_eq_true rfl) dL_law_592 ?_
  refine aj_icmp_eq C0 dL_law_595 (tgt := 1417) (by decide) (by first | exact he | exact congrArg am_bI he) ?_
  exact kk
set_option maxRecDepth 100000 in
set_option maxHeartbeats 4000000 in
theorem aj_case12 {G : aj_T} (C0 : aj_C G) {cells slots i : Nat} {F : Nat} {x3 : Int32} {σ τ : am_SS} {qC : Int32} {qM : Int32 × am_SS} (hi : i + 6 ≤ aj_N G) (hL : aj_N G ≤ 3072) (hx3 : x3 = nI i) (hC : C_book (aj_xs G (i + 1)) (aj_xs G (i + 2)) σ = some qC) (hM : M_book (aj_xs G (i + 1)) (aj_xs G (i + 2)) τ = some qM) (he : qC = qM.1) (hc : cells + 1 ≤ 600000) (hs : slots + 16 ≤ 7302250) (kk : aj_K G (cells + 0) (slots + 0) 1417 [(0, .ref (aj_b G)), (1, .ref (aj_bC G 0)), (2, .ref (aj_bM G 0)), (3, .int x3)] [] σ qM.2) : aj_K G cells slots 600 [(0, .ref (aj_b G)), (1, .ref (aj_bC G 0)), (2, .ref (aj_bM G 0)), (3, .int x3)] [] σ τ := by
  refine aj_aload_n C0 dL_law_600 1 rfl ?_
  refine aj_aload_n C0 dL_law_601 0 rfl ?_
  refine aj_iload_n C0 dL_law_602 3 rfl ?_
  refine aj_iconst C0 dL_law_603 ci_1 ?_
  refine aj_iadd C0 dL_law_604 ?_
  have z605 := aj_in (k := 1) hi (by decide) hL hx3 1 rfl
  refine aj_sld C0 z605.1 dL_law_605 ?_
  rw [z605.2]
  refine aj_aload_n C0 dL_law_606 0 rfl ?_
  refine aj_iload_n C0 dL_law_607 3 rfl ?_
  refine aj_iconst C0 dL_law_608 ci_2 ?_
  refine aj_iadd C0 dL_law_609 ?_
  have z610 := aj_in (k := 2) hi (by decide) hL hx3 2 rfl
  refine aj_sld C0 z610.1 dL_law_610 ?_
  rw [z610.2]
  refine aj_callC C0 (m_C_book (σ := σ) (Nat.le_refl _) (aj_xs G (i + 1)) (aj_xs G (i + 2)) hC) mm_yX9_book ln_RL_66 (As := fun _ => [.int (aj_xs G (i + 1)), .int (aj_xs G (i + 2))]) (fun _ => rfl) (fun _ => rfl) (loC_6_0 kC0).1 (loC_6_0 kC0).2.1 rfl (by decide) (by omega) (by omega) rfl (Nat.le_of_ble_eq_true rfl) dL_law_611 ?_
  refine aj_aload_n C0 dL_law_614 2 rfl ?_
  refine aj_aload_n C0 dL_law_615 0 rfl ?_
  refine aj_iload_n C0 dL_law_616 3 rfl ?_
  refine aj_iconst C0 dL_law_617 ci_1 ?_
  refine aj_iadd C0 dL_law_618 ?_
  have z619 := aj_in (k := 1) hi (by decide) hL hx3 1 rfl
  refine aj_sld C0 z619.1 dL_law_619 ?_
  rw [z619.2]
  refine aj_aload_n C0 dL_law_620 0 rfl ?_
  refine aj_iload_n C0 dL_law_621 3 rfl ?_
  refine aj_iconst C0 dL_law_622 ci_2 ?_
  refine aj_iadd C0 dL_law_623 ?_
  have z624 := aj_in (k := 2) hi (by decide) hL hx3 2 rfl
  refine aj_sld C0 z624.1 dL_law_624 ?_
  rw [z624.2]
  refine aj_callM C0 (m_M_book (σ := τ) (Nat.le_refl _) (aj_xs G (i + 1)) (aj_xs G (i + 2)) hM) mm_yX10_book ln_RL_69 (As := fun _ => [.int (aj_xs G (i + 1)), .int (aj_xs G (i + 2))]) (fun _ => rfl) (fun _ => rfl) (loM_7_0 kM0).1 (loM_7_0 kM0).2.1 rfl (by decide) (by omega) (by omega) rfl (Nat.le_of_ble_eq_true rfl) dL_law_625 ?_
  refine aj_icmp_eq C0 dL_law_628 (tgt := 1417) (by decide) (by first | exact he | exact congrArg am_bI he) ?_
  exact kk
set_option maxRecDepth 100000 in
set_option maxHeartbeats 4000000 in
theorem aj_case13 {G : aj_T} (C0 : aj_C G) {cells slots i : Nat} {F : Nat} {x3 : Int32} {σ τ : am_SS} {qC : Int32 × am_SS} {qM : Int32 × am_SS} (hi : i + 6 ≤ aj_N G) (hL : aj_N G ≤ 3072) (hx3 : x3 = nI i) (hC : C_goes F (aj_xs G (i + 1)) (aj_xs G (i + 2)) σ = some qC) (hM : M_goes F (aj_xs G (i + 1)) (aj_xs G (i + 2)) τ = some qM) (he : qC.1 = qM.1) (hc : cells + 1 ≤ 600000) (hs : slots + 16 ≤ 7302250) (kk : aj_K G (cells + 0) (slots + 0) 1417 [(0, .ref (aj_b G)), (1, .ref (aj_bC G 0)), (2, .ref (aj_bM G 0)), (3, .int x3)] [] qC.2 qM.2) : aj_K G cells slots 633 [(0, .ref (aj_b G)), (1, .ref (aj_bC G 0)), (2, .ref (aj_bM G 0)), (3, .int x3)] [] σ τ := by
  refine aj_aload_n C0 dL_law_633 1 rfl ?_
  refine aj_aload_n C0 dL_law_634 0 rfl ?_
  refine aj_iload_n C0 dL_law_635 3 rfl ?_
  refine aj_iconst C0 dL_law_636 ci_1 ?_
  refine aj_iadd C0 dL_law_637 ?_
  have z638 := aj_in (k := 1) hi (by decide) hL hx3 1 rfl
  refine aj_sld C0 z638.1 dL_law_638 ?_
  rw [z638.2]
  refine aj_aload_n C0 dL_law_639 0 rfl ?_
  refine aj_iload_n C0 dL_law_640 3 rfl ?_
  refine aj_iconst C0 dL_law_641 ci_2 ?_
  refine aj_iadd C0 dL_law_642 ?_
  have z643 := aj_in (k := 2) hi (by decide) hL hx3 2 rfl
  refine aj_sld C0 z643.1 dL_law_643 ?_
  rw [z643.2]
  refine aj_callC C0 (m_C_goes (σ := σ) (Nat.le_refl _) F (aj_xs G (i + 1)) (aj_xs G (i + 2)) hC) mm_yX9_goes ln_RL_70 (As := fun _ => [.int (aj_xs G (i + 1)), .int (aj_xs G (i + 2))]) (fun _ => rfl) (fun _ => rfl) (loC_6_0 kC0).1 (loC_6_0 kC0).2.1 rfl (by decide) (by omega) (by omega) rfl (Nat.le_of_ble_eq_true rfl) dL_law_644 ?_
  refine aj_aload_n C0 dL_law_647 2 rfl ?_
  refine aj_aload_n C0 dL_law_648 0 rfl ?_
  refine aj_iload_n C0 dL_law_649 3 rfl ?_
  refine aj_iconst C0 dL_law_650 ci_1 ?_
  refine aj_iadd C0 dL_law_651 ?_
  have z652 := aj_in (k := 1) hi (by decide) hL hx3 1 rfl
  refine aj_sld C0 z652.1 dL_law_652 ?_
  rw [z652.2]
  refine aj_aload_n C0 dL_law_653 0 rfl ?_
  refine aj_iload_n C0 dL_law_654 3 rfl ?_
  refine aj_iconst C0 dL_law_655 ci_2 ?_
  refine aj_iadd C0 dL_law_656 ?_
  have z657 := aj_in (k := 2) hi (by decide) hL hx3 2 rfl
  refine aj_sld C0 z657.1 dL_law_657 ?_
  rw [z657.2]
  refine aj_callM C0 (m_M_goes (σ := τ) (Nat.le_refl _) F (aj_xs G (i + 1)) (aj_xs G (i + 2)) hM) mm_yX10_goes ln_RL_73 (As := fun _ => [.int (aj_xs G (i + 1)), .int (aj_xs G (i + 2))]) (fun _ => rfl) (fun _ => rfl) (loM_7_0 kM0).1 (loM_7_0 kM0).2.1 rfl (by decide) (by omega) (by omega) rfl (Nat.le_of_ble_eq_true rfl) dL_law_658 ?_
  refine aj_icmp_eq C0 dL_law_661 (tgt := 1417) (by decide) (by first | exact he | exact congrArg am_bI he) ?_
  exact kk
set_option maxRecDepth 100000 in
set_option maxHeartbeats 4000000 in
theorem aj_case14 {G : aj_T} (C0 : aj_C G) {cells slots i : Nat} {F : Nat} {x3 : Int32} {σ τ : am_SS} {qC : Int32 × am_SS} {qM : Int32 × am_SS} (hi : i + 6 ≤ aj_N G) (hL : aj_N G ≤ 3072) (hx3 : x3 = nI i) (hC : C_peace F  σ = some qC) (hM : M_peace F  τ = some qM) (he : qC.1 = qM.1) (hc : cells + 1 ≤ 600000) (hs : slots + 16 ≤ 7302250) (kk : aj_K G (cells + 0) (slots + 0) 1417 [(0, .ref (aj_b G)), (1, .ref (aj_bC G 0)), (2, .ref (aj_bM G 0)), (3, .int x3)] [] qC.2 qM.2) : aj_K G cells slots 666 [(0, .ref (aj_b G)), (1, .ref (aj_bC G 0)), (2, .ref (aj_bM G 0)), (3, .int x3)] [] σ τ := by
  refine aj_aload_n C0 dL_law_666 1 rfl ?_
  refine aj_callC C0 (m_C_peace (σ := σ) (Nat.le_refl _) F  hC) mm_yX9_peace ln_RL_74 (As := fun _ => []) (fun _ => rfl) (fun _ => rfl) (loC_6_0 kC0).1 (loC_6_0 kC0).2.1 rfl (by decide) (by omega) (by omega) rfl (Nat.le_of_ble_eq_true rfl) dL_law_667 ?_
  refine aj_aload_n C0 dL_law_670 2 rfl ?_
  refine aj_callM C0 (m_M_peace (σ := τ) (Nat.le_refl _) F  hM) mm_yX10_peace ln_RL_78 (As := fun _ => []) (fun _ => rfl) (fun _ => rfl) (loM_7_0 kM0).1 (loM_7_0 kM0).2.1 rfl (by decide) (by omega) (by omega) rfl (Nat.le_of_ble_eq_true rfl) dL_law_671 ?_
  refine aj_icmp_eq C0 dL_law_674 (tgt := 1417) (by decide) (by first | exact he | exact congrArg am_bI he) ?_
  exact kk
set_option maxRecDepth 100000 in
set_option maxHeartbeats 4000000 in
theorem aj_case15 {G : aj_T} (C0 : aj_C G) {cells slots i : Nat} {F : Nat} {x3 : Int32} {σ τ : am_SS} {qC : Int32 × am_SS} {qM : Int32 × am_SS} (hi : i + 6 ≤ aj_N G) (hL : aj_N G ≤ 3072) (hx3 : x3 = nI i) (hC : C_guess F (aj_xs G (i + 1)) (aj_xs G (i + 2)) (aj_xs G (i + 3)) σ = some qC) (hM : M_guess F (aj_xs G (i + 1)) (aj_xs G (i + 2)) (aj_xs G (i + 3)) τ = some qM) (he : qC.1 = qM.1) (hc : cells + 1 ≤ 600000) (hs : slots + 16 ≤ 7302250) (kk : aj_K G (cells + 0) (slots + 0) 1417 [(0, .ref (aj_b G)), (1, .ref (aj_bC G 0)), (2, .ref (aj_bM G 0)), (3, .int x3)] [] qC.2 qM.2) : aj_K G cells slots 679 [(0, .ref (aj_b G)), (1, .ref (aj_bC G 0)), (2, .ref (aj_bM G 0)), (3, .int x3)] [] σ τ := by
  refine aj_aload_n C0 dL_law_679 1 rfl ?_
  refine aj_aload_n C0 dL_law_680 0 rfl ?_
  refine aj_iload_n C0 dL_law_681 3 rfl ?_
  refine aj_iconst C0 dL_law_682 ci_1 ?_
  refine aj_iadd C0 dL_law_683 ?_
  have z684 := aj_in (k := 1) hi (by decide) hL hx3 1 rfl
  refine aj_sld C0 z684.1 dL_law_684 ?_
  rw [z684.2]
  refine aj_aload_n C0 dL_law_685 0 rfl ?_
  refine aj_iload_n C0 dL_law_686 3 rfl ?_
  refine aj_iconst C0 dL_law_687 ci_2 ?_
  refine aj_iadd C0 dL_law_688 ?_
  have z689 := aj_in (k := 2) hi (by decide) hL hx3 2 rfl
  refine aj_sld C0 z689.1 dL_law_689 ?_
  rw [z689.2]
  refine aj_aload_n C0 dL_law_690 0 rfl ?_
  refine aj_iload_n C0 dL_law_691 3 rfl ?_
  refine aj_iconst C0 dL_law_692 ci_3 ?_
  refine aj_iadd C0 dL_law_693 ?_
  have z694 := aj_in (k := 3) hi (by decide) hL hx3 3 rfl
  refine aj_sld C0 z694.1 dL_law_694 ?_
  rw [z694.2]
  refine aj_callC C0 (m_C_guess (σ := σ) (Nat.le_refl _) F (aj_xs G (i + 1)) (aj_xs G (i + 2)) (aj_xs G (i + 3)) hC) mm_yX9_guess ln_RL_79 (As := fun _ => [.int (aj_xs G (i + 1)), .int (aj_xs G (i + 2)), .int (aj_xs G (i + 3))]) (fun _ => rfl) (fun _ => rfl) (loC_6_0 kC0).1 (loC_6_0 kC0).2.1 rfl (by decide) (by omega) (by omega) rfl (Nat.le_of_ble_eq_true rfl) dL_law_695 ?_
  refine aj_aload_n C0 dL_law_698 2 rfl ?_
  refine aj_aload_n C0 dL_law_699 0 rfl ?_
  refine aj_iload_n C0 dL_law_700 3 rfl ?_
  refine aj_iconst C0 dL_law_701 ci_1 ?_
  refine aj_iadd C0 dL_law_702 ?_
  have z703 := aj_in (k := 1) hi (by decide) hL hx3 1 rfl
  refine aj_sld C0 z703.1 dL_law_703 ?_
  rw [z703.2]
  refine aj_aload_n C0 dL_law_704 0 rfl ?_
  refine aj_iload_n C0 dL_law_705 3 rfl ?_
  refine aj_iconst C0 dL_law_706 ci_2 ?_
  refine aj_iadd C0 dL_law_707 ?_
  have z708 := aj_in (k := 2) hi (by decide) hL hx3 2 rfl
  refine aj_sld C0 z708.1 dL_law_708 ?_
  rw [z708.2]
  refine aj_aload_n C0 dL_law_709 0 rfl ?_
  refine aj_iload_n C0 dL_law_710 3 rfl ?_
  refine aj_iconst C0 dL_law_711 ci_3 ?_
  refine aj_iadd C0 dL_law_712 ?_
  have z713 := aj_in (k := 3) hi (by decide) hL hx3 3 rfl
  refine aj_sld C0 z713.1 dL_law_713 ?_
  rw [z713.2]
  refine aj_callM C0 (m_M_guess (σ := τ) (Nat.le_refl _) F (aj_xs G (i + 1)) (aj_xs G (i + 2)) (aj_xs G (i + 3)) hM) mm_yX10_guess ln_RL_83 (As := fun _ => [.int (aj_xs G (i + 1)), .int (aj_xs G (i + 2)), .int (aj_xs G (i + 3))]) (fun _ => rfl) (fun _ => rfl) (loM_7_0 kM0).1 (loM_7_0 kM0).2.1 rfl (by decide) (by omega) (by omega) rfl (Nat.le_of_ble_eq_true rfl) dL_law_714 ?_
  refine aj_icmp_eq C0 dL_law_717 (tgt := 1417) (by decide) (by first | exact he | exact congrArg am_bI he) ?_
  exact kk
set_option maxRecDepth 100000 in
set_option maxHeartbeats 4000000 in
theorem aj_case16 {G : aj_T} (C0 : aj_C G) {cells slots i : Nat} {F : Nat} {x3 : Int32} {σ τ : am_SS} {qC : Int32} {qM : Int32 × am_SS} (hi : i + 6 ≤ aj_N G) (hL : aj_N G ≤ 3072) (hx3 : x3 = nI i) (hC : C_words F (aj_xs G (i + 1)) σ = some qC) (hM : M_words F (aj_xs G (i + 1)) τ = some qM) (he : qC = qM.1) (hc : cells + 1 ≤ 600000) (hs : slots + 16 ≤ 7302250) (kk : aj_K G (cells + 0) (slots + 0) 1417 [(0, .ref (aj_b G)), (1, .ref (aj_bC G 0)), (2, .ref (aj_bM G 0)), (3, .int x3)] [] σ qM.2) : aj_K G cells slots 722 [(0, .ref (aj_b G)), (1, .ref (aj_bC G 0)), (2, .ref (aj_bM G 0)), (3, .int x3)] [] σ τ := by
  refine aj_aload_n C0 dL_law_722 1 rfl ?_
  refine aj_aload_n C0 dL_law_723 0 rfl ?_
  refine aj_iload_n C0 dL_law_724 3 rfl ?_
  refine aj_iconst C0 dL_law_725 ci_1 ?_
  refine aj_iadd C0 dL_law_726 ?_
  have z727 := aj_in (k := 1) hi (by decide) hL hx3 1 rfl
  refine aj_sld C0 z727.1 dL_law_727 ?_
  rw [z727.2]
  refine aj_callC C0 (m_C_words (σ := σ) (Nat.le_refl _) F (aj_xs G (i + 1)) hC) mm_yX9_words ln_RL_84 (As := fun _ => [.int (aj_xs G (i + 1))]) (fun _ => rfl) (fun _ => rfl) (loC_6_0 kC0).1 (loC_6_0 kC0).2.1 rfl (by decide) (by omega) (by omega) rfl (Nat.le_of_ble_eq_true rfl) dL_law_728 ?_
  refine aj_aload_n C0 dL_law_731 2 rfl ?_
  refine aj_aload_n C0 dL_law_732 0 rfl ?_
  refine aj_iload_n C0 dL_law_733 3 rfl ?_
  refine aj_iconst C0 dL_law_734 ci_1 ?_
  refine aj_iadd C0 dL_law_735 ?_
  have z736 := aj_in (k := 1) hi (by decide) hL hx3 1 rfl
  refine aj_sld C0 z736.1 dL_law_736 ?_
  rw [z736.2]
  refine aj_callM C0 (m_M_words (σ := τ) (Nat.le_refl _) F (aj_xs G (i + 1)) hM) mm_yX10_words ln_RL_87 (As := fun _ => [.int (aj_xs G (i + 1))]) (fun _ => rfl) (fun _ => rfl) (loM_7_0 kM0).1 (loM_7_0 kM0).2.1 rfl (by decide) (by omega) (by omega) rfl (Nat.le_of_ble_eq_true rfl) dL_law_737 ?_
  refine aj_icmp_eq C0 dL_law_740 (tgt := 1417) (by decide) (by first | exact he | exact congrArg am_bI he) ?_
  exact kk
set_option maxRecDepth 100000 in
set_option maxHeartbeats 4000000 in
theorem aj_case17 {G : aj_T} (C0 : aj_C G) {cells slots i : Nat} {F : Nat} {x3 : Int32} {σ τ : am_SS} {qC : Int32} {qM : Int32 × am_SS} (hi : i + 6 ≤ aj_N G) (hL : aj_N G ≤ 3072) (hx3 : x3 = nI i) (hC : C_boots F (aj_xs G (i + 1)) (aj_xs G (i + 2)) (aj_xs G (i + 3)) = some qC) (hM : M_boots F (aj_xs G (i + 1)) (aj_xs G (i + 2)) (aj_xs G (i + 3)) τ = some qM) (he : qC = qM.1) (hc : cells + 1 ≤ 600000) (hs : slots + 16 ≤ 7302250) (kk : aj_K G (cells + 0) (slots + 0) 1417 [(0, .ref (aj_b G)), (1, .ref (aj_bC G 0)), (2, .ref (aj_bM G 0)), (3, .int x3)] [] σ qM.2) : aj_K G cells slots 745 [(0, .ref (aj_b G)), (1, .ref (aj_bC G 0)), (2, .ref (aj_bM G 0)), (3, .int x3)] [] σ τ := by
  refine aj_aload_n C0 dL_law_745 1 rfl ?_
  refine aj_aload_n C0 dL_law_746 0 rfl ?_
  refine aj_iload_n C0 dL_law_747 3 rfl ?_
  refine aj_iconst C0 dL_law_748 ci_1 ?_
  refine aj_iadd C0 dL_law_749 ?_
  have z750 := aj_in (k := 1) hi (by decide) hL hx3 1 rfl
  refine aj_sld C0 z750.1 dL_law_750 ?_
  rw [z750.2]
  refine aj_aload_n C0 dL_law_751 0 rfl ?_
  refine aj_iload_n C0 dL_law_752 3 rfl ?_
  refine aj_iconst C0 dL_law_753 ci_2 ?_
  refine aj_iadd C0 dL_law_754 ?_
  have z755 := aj_in (k := 2) hi (by decide) hL hx3 2 rfl
  refine aj_sld C0 z755.1 dL_law_755 ?_
  rw [z755.2]
  refine aj_aload_n C0 dL_law_756 0 rfl ?_
  refine aj_iload_n C0 dL_law_757 3 rfl ?_
  refine aj_iconst C0 dL_law_758 ci_3 ?_
  refine aj_iadd C0 dL_law_759 ?_
  have z760 := aj_in (k := 3) hi (by decide) hL hx3 3 rfl
  refine aj_sld C0 z760.1 dL_law_760 ?_
  rw [z760.2]
  refine aj_callC C0 (m_C_boots (σ := σ) (Nat.le_refl _) F (aj_xs G (i + 1)) (aj_xs G (i + 2)) (aj_xs G (i + 3)) hC) mm_yX9_boots ln_RL_88 (As := fun _ => [.int (aj_xs G (i + 1)), .int (aj_xs G (i + 2)), .int (aj_xs G (i + 3))]) (fun _ => rfl) (fun _ => rfl) (loC_6_0 kC0).1 (loC_6_0 kC0).2.1 rfl (by decide) (by omega) (by omega) rfl (Nat.le_of_ble_eq_true rfl) dL_law_761 ?_
  refine aj_aload_n C0 dL_law_764 2 rfl ?_
  refine aj_aload_n C0 dL_law_765 0 rfl ?_
  refine aj_iload_n C0 dL_law_766 3 rfl ?_
  refine aj_iconst C0 dL_law_767 ci_1 ?_
  refine aj_iadd C0 dL_law_768 ?_
  have z769 := aj_in (k := 1) hi (by decide) hL hx3 1 rfl
  refine aj_sld C0 z769.1 dL_law_769 ?_
  rw [z769.2]
  refine aj_aload_n C0 dL_law_770 0 rfl ?_
  refine aj_iload_n C0 dL_law_771 3 rfl ?_
  refine aj_iconst C0 dL_law_772 ci_2 ?_
  refine aj_iadd C0 dL_law_773 ?_
  have z774 := aj_in (k := 2) hi (by decide) hL hx3 2 rfl
  refine aj_sld C0 z774.1 dL_law_774 ?_
  rw [z774.2]
  refine aj_aload_n C0 dL_law_775 0 rfl ?_
  refine aj_iload_n C0 dL_law_776 3 rfl ?_
  refine aj_iconst C0 dL_law_777 ci_3 ?_
  refine aj_iadd C0 dL_law_778 ?_
  have z779 := aj_in (k := 3) hi (by decide) hL hx3 3 rfl
  refine aj_sld C0 z779.1 dL_law_779 ?_
  rw [z779.2]
  refine aj_callM C0 (m_M_boots (σ := τ) (Nat.le_refl _) F (aj_xs G (i + 1)) (aj_xs G (i + 2)) (aj_xs G (i + 3)) hM) mm_yX10_boots ln_RL_91 (As := fun _ => [.int (aj_xs G (i + 1)), .int (aj_xs G (i + 2)), .int (aj_xs G (i + 3))]) (fun _ => rfl) (fun _ => rfl) (loM_7_0 kM0).1 (loM_7_0 kM0).2.1 rfl (by decide) (by omega) (by omega) rfl (Nat.le_of_ble_eq_true rfl) dL_law_780 ?_
  refine aj_icmp_eq C0 dL_law_783 (tgt := 1417) (by decide) (by first | exact he | exact congrArg am_bI he) ?_
  exact kk
set_option maxRecDepth 100000 in
set_option maxHeartbeats 4000000 in
theorem aj_case18 {G : aj_T} (C0 : aj_C G) {cells slots i : Nat} {F : Nat} {x3 : Int32} {σ τ : am_SS} {qC : Int32} {qM : Int32 × am_SS} (hi : i + 6 ≤ aj_N G) (hL : aj_N G ≤ 3072) (hx3 : x3 = nI i) (hC : C_moves F (aj_xs G (i + 1)) = some qC) (hM : M_moves F (aj_xs G (i + 1)) τ = some qM) (he : qC = qM.1) (hc : cells + 1 ≤ 600000) (hs : slots + 16 ≤ 7302250) (kk : aj_K G (cells + 0) (slots + 0) 1417 [(0, .ref (aj_b G)), (1, .ref (aj_bC G 0)), (2, .ref (aj_bM G 0)), (3, .int x3)] [] σ qM.2) : aj_K G cells slots 788 [(0, .ref (aj_b G)), (1, .ref (aj_bC G 0)), (2, .ref (aj_bM G 0)), (3, .int x3)] [] σ τ := by
  refine aj_aload_n C0 dL_law_788 1 rfl ?_
  refine aj_aload_n C0 dL_law_789 0 rfl ?_
  refine aj_iload_n C0 dL_law_790 3 rfl ?_
  refine aj_iconst C0 dL_law_791 ci_1 ?_
  refine aj_iadd C0 dL_law_792 ?_
  have z793 := aj_in (k := 1) hi (by decide) hL hx3 1 rfl
  refine aj_sld C0 z793.1 dL_law_793 ?_
  rw [z793.2]
  refine aj_callC C0 (m_C_moves (σ := σ) (Nat.le_refl _) F (aj_xs G (i + 1)) hC) mm_yX9_moves ln_RL_92 (As := fun _ => [.int (aj_xs G (i + 1))]) (fun _ => rfl) (fun _ => rfl) (loC_6_0 kC0).1 (loC_6_0 kC0).2.1 rfl (by decide) (by omega) (by omega) rfl (Nat.le_of_ble_eq_true rfl) dL_law_794 ?_
  refine aj_aload_n C0 dL_law_797 2 rfl ?_
  refine aj_aload_n C0 dL_law_798 0 rfl ?_
  refine aj_iload_n C0 dL_law_799 3 rfl ?_
  refine aj_iconst C0 dL_law_800 ci_1 ?_
  refine aj_iadd C0 dL_law_801 ?_
  have z802 := aj_in (k := 1) hi (by decide) hL hx3 1 rfl
  refine aj_sld C0 z802.1 dL_law_802 ?_
  rw [z802.2]
  refine aj_callM C0 (m_M_moves (σ := τ) (Nat.le_refl _) F (aj_xs G (i + 1)) hM) mm_yX10_moves ln_RL_95 (As := fun _ => [.int (aj_xs G (i + 1))]) (fun _ => rfl) (fun _ => rfl) (loM_7_0 kM0).1 (loM_7_0 kM0).2.1 rfl (by decide) (by omega) (by omega) rfl (Nat.le_of_ble_eq_true rfl) dL_law_803 ?_
  refine aj_icmp_eq C0 dL_law_806 (tgt := 1417) (by decide) (by first | exact he | exact congrArg am_bI he) ?_
  exact kk
set_option maxRecDepth 100000 in
set_option maxHeartbeats 4000000 in
theorem aj_case19 {G : aj_T} (C0 : aj_C G) {cells slots i : Nat} {F : Nat} {x3 : Int32} {σ τ : am_SS} {qC : Int32} {qM : Int32 × am_SS} (hi : i + 6 ≤ aj_N G) (hL : aj_N G ≤ 3072) (hx3 : x3 = nI i) (hC : C_billets F (aj_xs G (i + 1)) (aj_xs G (i + 2)) = some qC) (hM : M_billets F (aj_xs G (i + 1)) (aj_xs G (i + 2)) τ = some qM) (he : qC = qM.1) (hc : cells + 1 ≤ 600000) (hs : slots + 16 ≤ 7302250) (kk : aj_K G (cells + 0) (slots + 0) 1417 [(0, .ref (aj_b G)), (1, .ref (aj_bC G 0)), (2, .ref (aj_bM G 0)), (3, .int x3)] [] σ qM.2) : aj_K G cells slots 811 [(0, .ref (aj_b G)), (1, .ref (aj_bC G 0)), (2, .ref (aj_bM G 0)), (3, .int x3)] [] σ τ := by
  refine aj_aload_n C0 dL_law_811 1 rfl ?_
  refine aj_aload_n C0 dL_law_812 0 rfl ?_
  refine aj_iload_n C0 dL_law_813 3 rfl ?_
  refine aj_iconst C0 dL_law_814 ci_1 ?_
  refine aj_iadd C0 dL_law_815 ?_
  have z816 := aj_in (k := 1) hi (by decide) hL hx3 1 rfl
  refine aj_sld C0 z816.1 dL_law_816 ?_
  rw [z816.2]
  refine aj_aload_n C0 dL_law_817 0 rfl ?_
  refine aj_iload_n C0 dL_law_818 3 rfl ?_
  refine aj_iconst C0 dL_law_819 ci_2 ?_
  refine aj_iadd C0 dL_law_820 ?_
  have z821 := aj_in (k := 2) hi (by decide) hL hx3 2 rfl
  refine aj_sld C0 z821.1 dL_law_821 ?_
  rw [z821.2]
  refine aj_callC C0 (m_C_billets (σ := σ) (Nat.le_refl _) F (aj_xs G (i + 1)) (aj_xs G (i + 2)) hC) mm_yX9_billets ln_RL_96 (As := fun _ => [.int (aj_xs G (i + 1)), .int (aj_xs G (i + 2))]) (fun _ => rfl) (fun _ => rfl) (loC_6_0 kC0).1 (loC_6_0 kC0).2.1 rfl (by decide) (by omega) (by omega) rfl (Nat.le_of_ble_eq_true rfl) dL_law_822 ?_
  refine aj_aload_n C0 dL_law_825 2 rfl ?_
  refine aj_aload_n C0 dL_law_826 0 rfl ?_
  refine aj_iload_n C0 dL_law_827 3 rfl ?_
  refine aj_iconst C0 dL_law_828 ci_1 ?_
  refine aj_iadd C0 dL_law_829 ?_
  have z830 := aj_in (k := 1) hi (by decide) hL hx3 1 rfl
  refine aj_sld C0 z830.1 dL_law_830 ?_
  rw [z830.2]
  refine aj_aload_n C0 dL_law_831 0 rfl ?_
  refine aj_iload_n C0 dL_law_832 3 rfl ?_
  refine aj_iconst C0 dL_law_833 ci_2 ?_
  refine aj_iadd C0 dL_law_834 ?_
  have z835 := aj_in (k := 2) hi (by decide) hL hx3 2 rfl
  refine aj_sld C0 z835.1 dL_law_835 ?_
  rw [z835.2]
  refine aj_callM C0 (m_M_billets (σ := τ) (Nat.le_refl _) F (aj_xs G (i + 1)) (aj_xs G (i + 2)) hM) mm_yX10_billets ln_RL_99 (As := fun _ => [.int (aj_xs G (i + 1)), .int (aj_xs G (i + 2))]) (fun _ => rfl) (fun _ => rfl) (loM_7_0 kM0).1 (loM_7_0 kM0).2.1 rfl (by decide) (by omega) (by omega) rfl (Nat.le_of_ble_eq_true rfl) dL_law_836 ?_
  refine aj_icmp_eq C0 dL_law_839 (tgt := 1417) (by decide) (by first | exact he | exact congrArg am_bI he) ?_
  exact kk
set_option maxRecDepth 100000 in
set_option maxHeartbeats 4000000 in
theorem aj_case20 {G : aj_T} (C0 : aj_C G) {cells slots i : Nat} {F : Nat} {x3 : Int32} {σ τ : am_SS} {qC : Int32} {qM : Int32 × am_SS} (hi : i + 6 ≤ aj_N G) (hL : aj_N G ≤ 3072) (hx3 : x3 = nI i) (hC : C_pairs F (aj_xs G (i + 1)) (aj_xs G (i + 2)) = some qC) (hM : M_pairs F (aj_xs G (i + 1)) (aj_xs G (i + 2)) τ = some qM) (he : qC = qM.1) (hc : cells + 1 ≤ 600000) (hs : slots + 16 ≤ 7302250) (kk : aj_K G (cells + 0) (slots + 0) 1417 [(0, .ref (aj_b G)), (1, .ref (aj_bC G 0)), (2, .ref (aj_bM G 0)), (3, .int x3)] [] σ qM.2) : aj_K G cells slots 844 [(0, .ref (aj_b G)), (1, .ref (aj_bC G 0)), (2, .ref (aj_bM G 0)), (3, .int x3)] [] σ τ := by
  refine aj_aload_n C0 dL_law_844 1 rfl ?_
  refine aj_aload_n C0 dL_law_845 0 rfl ?_
  refine aj_iload_n C0 dL_law_846 3 rfl ?_
  refine aj_iconst C0 dL_law_847 ci_1 ?_
  refine aj_iadd C0 dL_law_848 ?_
  have z849 := aj_in (k := 1) hi (by decide) hL hx3 1 rfl
  refine aj_sld C0 z849.1 dL_law_849 ?_
  rw [z849.2]
  refine aj_aload_n C0 dL_law_850 0 rfl ?_
  refine aj_iload_n C0 dL_law_851 3 rfl ?_
  refine aj_iconst C0 dL_law_852 ci_2 ?_
  refine aj_iadd C0 dL_law_853 ?_
  have z854 := aj_in (k := 2) hi (by decide) hL hx3 2 rfl
  refine aj_sld C0 z854.1 dL_law_854 ?_
  rw [z854.2]
  refine aj_callC C0 (m_C_pairs (σ := σ) (Nat.le_refl _) F (aj_xs G (i + 1)) (aj_xs G (i + 2)) hC) mm_yX9_pairs ln_RL_100 (As := fun _ => [.int (aj_xs G (i + 1)), .int (aj_xs G (i + 2))]) (fun _ => rfl) (fun _ => rfl) (loC_6_0 kC0).1 (loC_6_0 kC0).2.1 rfl (by decide) (by omega) (by omega) rfl (Nat.le_of_ble_eq_true rfl) dL_law_855 ?_
  refine aj_aload_n C0 dL_law_858 2 rfl ?_
  refine aj_aload_n C0 dL_law_859 0 rfl ?_
  refine aj_iload_n C0 dL_law_860 3 rfl ?_
  refine aj_iconst C0 dL_law_861 ci_1 ?_
  refine aj_iadd C0 dL_law_862 ?_
  have z863 := aj_in (k := 1) hi (by decide) hL hx3 1 rfl
  refine aj_sld C0 z863.1 dL_law_863 ?_
  rw [z863.2]
  refine aj_aload_n C0 dL_law_864 0 rfl ?_
  refine aj_iload_n C0 dL_law_865 3 rfl ?_
  refine aj_iconst C0 dL_law_866 ci_2 ?_
  refine aj_iadd C0 dL_law_867 ?_
  have z868 := aj_in (k := 2) hi (by decide) hL hx3 2 rfl
  refine aj_sld C0 z868.1 dL_law_868 ?_
  rw [z868.2]
  refine aj_callM C0 (m_M_pairs (σ := τ) (Nat.le_refl _) F (aj_xs G (i + 1)) (aj_xs G (i + 2)) hM) mm_yX10_pairs ln_RL_103 (As := fun _ => [.int (aj_xs G (i + 1)), .int (aj_xs G (i + 2))]) (fun _ => rfl) (fun _ => rfl) (loM_7_0 kM0).1 (loM_7_0 kM0).2.1 rfl (by decide) (by omega) (by omega) rfl (Nat.le_of_ble_eq_true rfl) dL_law_869 ?_
  refine aj_icmp_eq C0 dL_law_872 (tgt := 1417) (by decide) (by first | exact he | exact congrArg am_bI he) ?_
  exact kk
set_option maxRecDepth 100000 in
set_option maxHeartbeats 4000000 in
theorem aj_case21 {G : aj_T} (C0 : aj_C G) {cells slots i : Nat} {F : Nat} {x3 : Int32} {σ τ : am_SS} {qC : Int32} {qM : Int32 × am_SS} (hi : i + 6 ≤ aj_N G) (hL : aj_N G ≤ 3072) (hx3 : x3 = nI i) (hC : C_ahead F (aj_xs G (i + 1)) (aj_xs G (i + 2)) (aj_xs G (i + 3)) = some qC) (hM : M_ahead F (aj_xs G (i + 1)) (aj_xs G (i + 2)) (aj_xs G (i + 3)) τ = some qM) (he : qC = qM.1) (hc : cells + 1 ≤ 600000) (hs : slots + 16 ≤ 7302250) (kk : aj_K G (cells + 0) (slots + 0) 1417 [(0, .ref (aj_b G)), (1, .ref (aj_bC G 0)), (2, .ref (aj_bM G 0)), (3, .int x3)] [] σ qM.2) : aj_K G cells slots 877 [(0, .ref (aj_b G)), (1, .ref (aj_bC G 0)), (2, .ref (aj_bM G 0)), (3, .int x3)] [] σ τ := by
  refine aj_aload_n C0 dL_law_877 1 rfl ?_
  refine aj_aload_n C0 dL_law_878 0 rfl ?_
  refine aj_iload_n C0 dL_law_879 3 rfl ?_
  refine aj_iconst C0 dL_law_880 ci_1 ?_
  refine aj_iadd C0 dL_law_881 ?_
  have z882 := aj_in (k := 1) hi (by decide) hL hx3 1 rfl
  refine aj_sld C0 z882.1 dL_law_882 ?_
  rw [z882.2]
  refine aj_aload_n C0 dL_law_883 0 rfl ?_
  refine aj_iload_n C0 dL_law_884 3 rfl ?_
  refine aj_iconst C0 dL_law_885 ci_2 ?_
  refine aj_iadd C0 dL_law_886 ?_
  have z887 := aj_in (k := 2) hi (by decide) hL hx3 2 rfl
  refine aj_sld C0 z887.1 dL_law_887 ?_
  rw [z887.2]
  refine aj_aload_n C0 dL_law_888 0 rfl ?_
  refine aj_iload_n C0 dL_law_889 3 rfl ?_
  refine aj_iconst C0 dL_law_890 ci_3 ?_
  refine aj_iadd C0 dL_law_891 ?_
  have z892 := aj_in (k := 3) hi (by decide) hL hx3 3 rfl
  refine aj_sld C0 z892.1 dL_law_892 ?_
  rw [z892.2]
  refine aj_callC C0 (m_C_ahead (σ := σ) (Nat.le_refl _) F (aj_xs G (i + 1)) (aj_xs G (i + 2)) (aj_xs G (i + 3)) hC) mm_yX9_ahead ln_RL_104 (As := fun _ => [.int (aj_xs G (i + 1)), .int (aj_xs G (i + 2)), .int (aj_xs G (i + 3))]) (fun _ => rfl) (fun _ => rfl) (loC_6_0 kC0).1 (loC_6_0 kC0).2.1 rfl (by decide) (by omega) (by omega) rfl (Nat.le_of_ble_eq_true rfl) dL_law_893 ?_
  refine aj_aload_n C0 dL_law_896 2 rfl ?_
  refine aj_aload_n C0 dL_law_897 0 rfl ?_
  refine aj_iload_n C0 dL_law_898 3 rfl ?_
  refine aj_iconst C0 dL_law_899 ci_1 ?_
  refine aj_iadd C0 dL_law_900 ?_
  have z901 := aj_in (k := 1) hi (by decide) hL hx3 1 rfl
  refine aj_sld C0 z901.1 dL_law_901 ?_
  rw [z901.2]
  refine aj_aload_n C0 dL_law_902 0 rfl ?_
  refine aj_iload_n C0 dL_law_903 3 rfl ?_
  refine aj_iconst C0 dL_law_904 ci_2 ?_
  refine aj_iadd C0 dL_law_905 ?_
  have z906 := aj_in (k := 2) hi (by decide) hL hx3 2 rfl
  refine aj_sld C0 z906.1 dL_law_906 ?_
  rw [z906.2]
  refine aj_aload_n C0 dL_law_907 0 rfl ?_
  refine aj_iload_n C0 dL_law_908 3 rfl ?_
  refine aj_iconst C0 dL_law_909 ci_3 ?_
  refine aj_iadd C0 dL_law_910 ?_
  have z911 := aj_in (k := 3) hi (by decide) hL hx3 3 rfl
  refine aj_sld C0 z911.1 dL_law_911 ?_
  rw [z911.2]
  refine aj_callM C0 (m_M_ahead (σ := τ) (Nat.le_refl _) F (aj_xs G (i + 1)) (aj_xs G (i + 2)) (aj_xs G (i + 3)) hM) mm_yX10_ahead ln_RL_107 (As := fun _ => [.int (aj_xs G (i + 1)), .int (aj_xs G (i + 2)), .int (aj_xs G (i + 3))]) (fun _ => rfl) (fun _ => rfl) (loM_7_0 kM0).1 (loM_7_0 kM0).2.1 rfl (by decide) (by omega) (by omega) rfl (Nat.le_of_ble_eq_true rfl) dL_law_912 ?_
  refine aj_icmp_eq C0 dL_law_915 (tgt := 1417) (by decide) (by first | exact he | exact congrArg am_bI he) ?_
  exact kk
set_option maxRecDepth 100000 in
set_option maxHeartbeats 4000000 in
theorem aj_case22 {G : aj_T} (C0 : aj_C G) {cells slots i : Nat} {F : Nat} {x3 : Int32} {σ τ : am_SS} {qC : Int32} {qM : Int32 × am_SS} (hi : i + 6 ≤ aj_N G) (hL : aj_N G ≤ 3072) (hx3 : x3 = nI i) (hC : C_feast (aj_xs G (i + 1)) (aj_xs G (i + 2)) = qC) (hM : M_feast (aj_xs G (i + 1)) (aj_xs G (i + 2)) τ = qM) (he : qC = qM.1) (hc : cells + 1 ≤ 600000) (hs : slots + 16 ≤ 7302250) (kk : aj_K G (cells + 0) (slots + 0) 1417 [(0, .ref (aj_b G)), (1, .ref (aj_bC G 0)), (2, .ref (aj_bM G 0)), (3, .int x3)] [] σ qM.2) : aj_K G cells slots 920 [(0, .ref (aj_b G)), (1, .ref (aj_bC G 0)), (2, .ref (aj_bM G 0)), (3, .int x3)] [] σ τ := by
  refine aj_aload_n C0 dL_law_920 1 rfl ?_
  refine aj_aload_n C0 dL_law_921 0 rfl ?_
  refine aj_iload_n C0 dL_law_922 3 rfl ?_
  refine aj_iconst C0 dL_law_923 ci_1 ?_
  refine aj_iadd C0 dL_law_924 ?_
  have z925 := aj_in (k := 1) hi (by decide) hL hx3 1 rfl
  refine aj_sld C0 z925.1 dL_law_925 ?_
  rw [z925.2]
  refine aj_aload_n C0 dL_law_926 0 rfl ?_
  refine aj_iload_n C0 dL_law_927 3 rfl ?_
  refine aj_iconst C0 dL_law_928 ci_2 ?_
  refine aj_iadd C0 dL_law_929 ?_
  have z930 := aj_in (k := 2) hi (by decide) hL hx3 2 rfl
  refine aj_sld C0 z930.1 dL_law_930 ?_
  rw [z930.2]
  refine aj_callC C0 (m_C_feast (σ := σ) (Nat.le_refl _) (aj_xs G (i + 1)) (aj_xs G (i + 2)) hC) mm_yX9_feast ln_RL_108 (As := fun _ => [.int (aj_xs G (i + 1)), .int (aj_xs G (i + 2))]) (fun _ => rfl) (fun _ => rfl) (loC_6_0 kC0).1 (loC_6_0 kC0).2.1 rfl (by decide) (by omega) (by omega) rfl (Nat.le_of_ble_eq_true rfl) dL_law_931 ?_
  refine aj_aload_n C0 dL_law_934 2 rfl ?_
  refine aj_aload_n C0 dL_law_935 0 rfl ?_
  refine aj_iload_n C0 dL_law_936 3 rfl ?_
  refine aj_iconst C0 dL_law_937 ci_1 ?_
  refine aj_iadd C0 dL_law_938 ?_
  have z939 := aj_in (k := 1) hi (by decide) hL hx3 1 rfl
  refine aj_sld C0 z939.1 dL_law_939 ?_
  rw [z939.2]
  refine aj_aload_n C0 dL_law_940 0 rfl ?_
  refine aj_iload_n C0 dL_law_941 3 rfl ?_
  refine aj_iconst C0 dL_law_942 ci_2 ?_
  refine aj_iadd C0 dL_law_943 ?_
  have z944 := aj_in (k := 2) hi (by decide) hL hx3 2 rfl
  refine aj_sld C0 z944.1 dL_law_944 ?_
  rw [z944.2]
  refine aj_callM C0 (m_M_feast (σ := τ) (Nat.le_refl _) (aj_xs G (i + 1)) (aj_xs G (i + 2)) hM) mm_yX10_feast ln_RL_111 (As := fun _ => [.int (aj_xs G (i + 1)), .int (aj_xs G (i + 2))]) (fun _ => rfl) (fun _ => rfl) (loM_7_0 kM0).1 (loM_7_0 kM0).2.1 rfl (by decide) (by omega) (by omega) rfl (Nat.le_of_ble_eq_true rfl) dL_law_945 ?_
  refine aj_icmp_eq C0 dL_law_948 (tgt := 1417) (by decide) (by first | exact he | exact congrArg am_bI he) ?_
  exact kk
set_option maxRecDepth 100000 in
set_option maxHeartbeats 4000000 in
theorem aj_case23 {G : aj_T} (C0 : aj_C G) {cells slots i : Nat} {F : Nat} {x3 : Int32} {σ τ : am_SS} {qC : Int32} {qM : Int32 × am_SS} (hi : i + 6 ≤ aj_N G) (hL : aj_N G ≤ 3072) (hx3 : x3 = nI i) (hC : C_happy F (aj_xs G (i + 1)) (aj_xs G (i + 2)) = some qC) (hM : M_happy F (aj_xs G (i + 1)) (aj_xs G (i + 2)) τ = some qM) (he : qC = qM.1) (hc : cells + 1 ≤ 600000) (hs : slots + 16 ≤ 7302250) (kk : aj_K G (cells + 0) (slots + 0) 1417 [(0, .ref (aj_b G)), (1, .ref (aj_bC G 0)), (2, .ref (aj_bM G 0)), (3, .int x3)] [] σ qM.2) : aj_K G cells slots 953 [(0, .ref (aj_b G)), (1, .ref (aj_bC G 0)), (2, .ref (aj_bM G 0)), (3, .int x3)] [] σ τ := by
  refine aj_aload_n C0 dL_law_953 1 rfl ?_
  refine aj_aload_n C0 dL_law_954 0 rfl ?_
  refine aj_iload_n C0 dL_law_955 3 rfl ?_
  refine aj_iconst C0 dL_law_956 ci_1 ?_
  refine aj_iadd C0 dL_law_957 ?_
  have z958 := aj_in (k := 1) hi (by decide) hL hx3 1 rfl
  refine aj_sld C0 z958.1 dL_law_958 ?_
  rw [z958.2]
  refine aj_aload_n C0 dL_law_959 0 rfl ?_
  refine aj_iload_n C0 dL_law_960 3 rfl ?_
  refine aj_iconst C0 dL_law_961 ci_2 ?_
  refine aj_iadd C0 dL_law_962 ?_
  have z963 := aj_in (k := 2) hi (by decide) hL hx3 2 rfl
  refine aj_sld C0 z963.1 dL_law_963 ?_
  rw [z963.2]
  refine aj_callC C0 (m_C_happy (σ := σ) (Nat.le_refl _) F (aj_xs G (i + 1)) (aj_xs G (i + 2)) hC) mm_yX9_happy ln_RL_112 (As := fun _ => [.int (aj_xs G (i + 1)), .int (aj_xs G (i + 2))]) (fun _ => rfl) (fun _ => rfl) (loC_6_0 kC0).1 (loC_6_0 kC0).2.1 rfl (by decide) (by omega) (by omega) rfl (Nat.le_of_ble_eq_true rfl) dL_law_964 ?_
  refine aj_aload_n C0 dL_law_967 2 rfl ?_
  refine aj_aload_n C0 dL_law_968 0 rfl ?_
  refine aj_iload_n C0 dL_law_969 3 rfl ?_
  refine aj_iconst C0 dL_law_970 ci_1 ?_
  refine aj_iadd C0 dL_law_971 ?_
  have z972 := aj_in (k := 1) hi (by decide) hL hx3 1 rfl
  refine aj_sld C0 z972.1 dL_law_972 ?_
  rw [z972.2]
  refine aj_aload_n C0 dL_law_973 0 rfl ?_
  refine aj_iload_n C0 dL_law_974 3 rfl ?_
  refine aj_iconst C0 dL_law_975 ci_2 ?_
  refine aj_iadd C0 dL_law_976 ?_
  have z977 := aj_in (k := 2) hi (by decide) hL hx3 2 rfl
  refine aj_sld C0 z977.1 dL_law_977 ?_
  rw [z977.2]
  refine aj_callM C0 (m_M_happy (σ := τ) (Nat.le_refl _) F (aj_xs G (i + 1)) (aj_xs G (i + 2)) hM) mm_yX10_happy ln_RL_115 (As := fun _ => [.int (aj_xs G (i + 1)), .int (aj_xs G (i + 2))]) (fun _ => rfl) (fun _ => rfl) (loM_7_0 kM0).1 (loM_7_0 kM0).2.1 rfl (by decide) (by omega) (by omega) rfl (Nat.le_of_ble_eq_true rfl) dL_law_978 ?_
  refine aj_icmp_eq C0 dL_law_981 (tgt := 1417) (by decide) (by first | exact he | exact congrArg am_bI he) ?_
  exact kk
set_option maxRecDepth 100000 in
set_option maxHeartbeats 4000000 in
theorem aj_case24 {G : aj_T} (C0 : aj_C G) {cells slots i : Nat} {F : Nat} {x3 : Int32} {σ τ : am_SS} {qC : Int32 × am_SS} {qM : Int32 × am_SS} (hi : i + 6 ≤ aj_N G) (hL : aj_N G ≤ 3072) (hx3 : x3 = nI i) (hC : C_letter F (aj_xs G (i + 1)) (aj_xs G (i + 2)) σ = some qC) (hM : M_letter (aj_xs G (i + 1)) (aj_xs G (i + 2)) τ = some qM) (he : qC.1 = qM.1) (hc : cells + 1 ≤ 600000) (hs : slots + 16 ≤ 7302250) (kk : aj_K G (cells + 0) (slots + 0) 1417 [(0, .ref (aj_b G)), (1, .ref (aj_bC G 0)), (2, .ref (aj_bM G 0)), (3, .int x3)] [] qC.2 qM.2) : aj_K G cells slots 986 [(0, .ref (aj_b G)), (1, .ref (aj_bC G 0)), (2, .ref (aj_bM G 0)), (3, .int x3)] [] σ τ := by
  refine aj_aload_n C0 dL_law_986 1 rfl ?_
  refine aj_aload_n C0 dL_law_987 0 rfl ?_
  refine aj_iload_n C0 dL_law_988 3 rfl ?_
  refine aj_iconst C0 dL_law_989 ci_1 ?_
  refine aj_iadd C0 dL_law_990 ?_
  have z991 := aj_in (k := 1) hi (by decide) hL hx3 1 rfl
  refine aj_sld C0 z991.1 dL_law_991 ?_
  rw [z991.2]
  refine aj_aload_n C0 dL_law_992 0 rfl ?_
  refine aj_iload_n C0 dL_law_993 3 rfl ?_
  refine aj_iconst C0 dL_law_994 ci_2 ?_
  refine aj_iadd C0 dL_law_995 ?_
  have z996 := aj_in (k := 2) hi (by decide) hL hx3 2 rfl
  refine aj_sld C0 z996.1 dL_law_996 ?_
  rw [z996.2]
  refine aj_callC C0 (m_C_letter (σ := σ) (Nat.le_refl _) F (aj_xs G (i + 1)) (aj_xs G (i + 2)) hC) mm_yX9_letter ln_RL_116 (As := fun _ => [.int (aj_xs G (i + 1)), .int (aj_xs G (i + 2))]) (fun _ => rfl) (fun _ => rfl) (loC_6_0 kC0).1 (loC_6_0 kC0).2.1 rfl (by decide) (by omega) (by omega) rfl (Nat.le_of_ble_eq_true rfl) dL_law_997 ?_
  refine aj_aload_n C0 dL_law_1000 2 rfl ?_
  refine aj_aload_n C0 dL_law_1001 0 rfl ?_
  refine aj_iload_n C0 dL_law_1002 3 rfl ?_
  refine aj_iconst C0 dL_law_1003 ci_1 ?_
  refine aj_iadd C0 dL_law_1004 ?_
  have z1005 := aj_in (k := 1) hi (by decide) hL hx3 1 rfl
  refine aj_sld C0 z1005.1 dL_law_1005 ?_
  rw [z1005.2]
  refine aj_aload_n C0 dL_law_1006 0 rfl ?_
  refine aj_iload_n C0 dL_law_1007 3 rfl ?_
  refine aj_iconst C0 dL_law_1008 ci_2 ?_
  refine aj_iadd C0 dL_law_1009 ?_
  have z1010 := aj_in (k := 2) hi (by decide) hL hx3 2 rfl
  refine aj_sld C0 z1010.1 dL_law_1010 ?_
  rw [z1010.2]
  refine aj_callM C0 (m_M_letter (σ := τ) (Nat.le_refl _) (aj_xs G (i + 1)) (aj_xs G (i + 2)) hM) mm_yX10_letter ln_RL_119 (As := fun _ => [.int (aj_xs G (i + 1)), .int (aj_xs G (i + 2))]) (fun _ => rfl) (fun _ => rfl) (loM_7_0 kM0).1 (loM_7_0 kM0).2.1 rfl (by decide) (by omega) (by omega) rfl (Nat.le_of_ble_eq_true rfl) dL_law_1011 ?_
  refine aj_icmp_eq C0 dL_law_1014 (tgt := 1417) (by decide) (by first | exact he | exact congrArg am_bI he) ?_
  exact kk
set_option maxRecDepth 100000 in
set_option maxHeartbeats 4000000 in
theorem aj_case25 {G : aj_T} (C0 : aj_C G) {cells slots i : Nat} {F : Nat} {x3 : Int32} {σ τ : am_SS} {qC : Int32} {qM : Int32 × am_SS} (hi : i + 6 ≤ aj_N G) (hL : aj_N G ≤ 3072) (hx3 : x3 = nI i) (hC : C_message F (aj_xs G (i + 1)) (aj_xs G (i + 2)) σ = some qC) (hM : M_message F (aj_xs G (i + 1)) (aj_xs G (i + 2)) τ = some qM) (he : qC = qM.1) (hc : cells + 1 ≤ 600000) (hs : slots + 16 ≤ 7302250) (kk : aj_K G (cells + 0) (slots + 0) 1417 [(0, .ref (aj_b G)), (1, .ref (aj_bC G 0)), (2, .ref (aj_bM G 0)), (3, .int x3)] [] σ qM.2) : aj_K G cells slots 1019 [(0, .ref (aj_b G)), (1, .ref (aj_bC G 0)), (2, .ref (aj_bM G 0)), (3, .int x3)] [] σ τ := by
  refine aj_aload_n C0 dL_law_1019 1 rfl ?_
  refine aj_aload_n C0 dL_law_1020 0 rfl ?_
  refine aj_iload_n C0 dL_law_1021 3 rfl ?_
  refine aj_iconst C0 dL_law_1022 ci_1 ?_
  refine aj_iadd C0 dL_law_1023 ?_
  have z1024 := aj_in (k := 1) hi (by decide) hL hx3 1 rfl
  refine aj_sld C0 z1024.1 dL_law_1024 ?_
  rw [z1024.2]
  refine aj_aload_n C0 dL_law_1025 0 rfl ?_
  refine aj_iload_n C0 dL_law_1026 3 rfl ?_
  refine aj_iconst C0 dL_law_1027 ci_2 ?_
  refine aj_iadd C0 dL_law_1028 ?_
  have z1029 := aj_in (k := 2) hi (by decide) hL hx3 2 rfl
  refine aj_sld C0 z1029.1 dL_law_1029 ?_
  rw [z1029.2]
  refine aj_callC C0 (m_C_message (σ := σ) (Nat.le_refl _) F (aj_xs G (i + 1)) (aj_xs G (i + 2)) hC) mm_yX9_message ln_RL_120 (As := fun _ => [.int (aj_xs G (i + 1)), .int (aj_xs G (i + 2))]) (fun _ => rfl) (fun _ => rfl) (loC_6_0 kC0).1 (loC_6_0 kC0).2.1 rfl (by decide) (by omega) (by omega) rfl (Nat.le_of_ble_eq_true rfl) dL_law_1030 ?_
  refine aj_aload_n C0 dL_law_1033 2 rfl ?_
  refine aj_aload_n C0 dL_law_1034 0 rfl ?_
  refine aj_iload_n C0 dL_law_1035 3 rfl ?_
  refine aj_iconst C0 dL_law_1036 ci_1 ?_
  refine aj_iadd C0 dL_law_1037 ?_
  have z1038 := aj_in (k := 1) hi (by decide) hL hx3 1 rfl
  refine aj_sld C0 z1038.1 dL_law_1038 ?_
  rw [z1038.2]
  refine aj_aload_n C0 dL_law_1039 0 rfl ?_
  refine aj_iload_n C0 dL_law_1040 3 rfl ?_
  refine aj_iconst C0 dL_law_1041 ci_2 ?_
  refine aj_iadd C0 dL_law_1042 ?_
  have z1043 := aj_in (k := 2) hi (by decide) hL hx3 2 rfl
  refine aj_sld C0 z1043.1 dL_law_1043 ?_
  rw [z1043.2]
  refine aj_callM C0 (m_M_message (σ := τ) (Nat.le_refl _) F (aj_xs G (i + 1)) (aj_xs G (i + 2)) hM) mm_yX10_message ln_RL_123 (As := fun _ => [.int (aj_xs G (i + 1)), .int (aj_xs G (i + 2))]) (fun _ => rfl) (fun _ => rfl) (loM_7_0 kM0).1 (loM_7_0 kM0).2.1 rfl (by decide) (by omega) (by omega) rfl (Nat.le_of_ble_eq_true rfl) dL_law_1044 ?_
  refine aj_icmp_eq C0 dL_law_1047 (tgt := 1417) (by decide) (by first | exact he | exact congrArg am_bI he) ?_
  exact kk
set_option maxRecDepth 100000 in
set_option maxHeartbeats 4000000 in
theorem aj_case26 {G : aj_T} (C0 : aj_C G) {cells slots i : Nat} {F : Nat} {x3 : Int32} {σ τ : am_SS} {qC : Int32 × am_SS} {qM : Int32 × am_SS} (hi : i + 6 ≤ aj_N G) (hL : aj_N G ≤ 3072) (hx3 : x3 = nI i) (hC : C_bit F (aj_xs G (i + 1)) σ = some qC) (hM : M_bit (aj_xs G (i + 1)) τ = some qM) (he : qC.1 = qM.1) (hc : cells + 1 ≤ 600000) (hs : slots + 16 ≤ 7302250) (kk : aj_K G (cells + 0) (slots + 0) 1417 [(0, .ref (aj_b G)), (1, .ref (aj_bC G 0)), (2, .ref (aj_bM G 0)), (3, .int x3)] [] qC.2 qM.2) : aj_K G cells slots 1052 [(0, .ref (aj_b G)), (1, .ref (aj_bC G 0)), (2, .ref (aj_bM G 0)), (3, .int x3)] [] σ τ := by
  refine aj_aload_n C0 dL_law_1052 1 rfl ?_
  refine aj_aload_n C0 dL_law_1053 0 rfl ?_
  refine aj_iload_n C0 dL_law_1054 3 rfl ?_
  refine aj_iconst C0 dL_law_1055 ci_1 ?_
  refine aj_iadd C0 dL_law_1056 ?_
  have z1057 := aj_in (k := 1) hi (by decide) hL hx3 1 rfl
  refine aj_sld C0 z1057.1 dL_law_1057 ?_
  rw [z1057.2]
  refine aj_callC C0 (m_C_bit (σ := σ) (Nat.le_refl _) F (aj_xs G (i + 1)) hC) mm_yX9_bit ln_RL_124 (As := fun _ => [.int (aj_xs G (i + 1))]) (fun _ => rfl) (fun _ => rfl) (loC_6_0 kC0).1 (loC_6_0 kC0).2.1 rfl (by decide) (by omega) (by omega) rfl (Nat.le_of_ble_eq_true rfl) dL_law_1058 ?_
  refine aj_aload_n C0 dL_law_1061 2 rfl ?_
  refine aj_aload_n C0 dL_law_1062 0 rfl ?_
  refine aj_iload_n C0 dL_law_1063 3 rfl ?_
  refine aj_iconst C0 dL_law_1064 ci_1 ?_
  refine aj_iadd C0 dL_law_1065 ?_
  have z1066 := aj_in (k := 1) hi (by decide) hL hx3 1 rfl
  refine aj_sld C0 z1066.1 dL_law_1066 ?_
  rw [z1066.2]
  refine aj_callM C0 (m_M_bit (σ := τ) (Nat.le_refl _) (aj_xs G (i + 1)) hM) mm_yX10_bit ln_RL_127 (As := fun _ => [.int (aj_xs G (i + 1))]) (fun _ => rfl) (fun _ => rfl) (loM_7_0 kM0).1 (loM_7_0 kM0).2.1 rfl (by decide) (by omega) (by omega) rfl (Nat.le_of_ble_eq_true rfl) dL_law_1067 ?_
  refine aj_icmp_eq C0 dL_law_1070 (tgt := 1417) (by decide) (by first | exact he | exact congrArg am_bI he) ?_
  exact kk
set_option maxRecDepth 100000 in
set_option maxHeartbeats 4000000 in
theorem aj_case27 {G : aj_T} (C0 : aj_C G) {cells slots i : Nat} {F : Nat} {x3 : Int32} {σ τ : am_SS} {qC : Int32} {qM : Int32 × am_SS} (hi : i + 6 ≤ aj_N G) (hL : aj_N G ≤ 3072) (hx3 : x3 = nI i) (hC : C_anew F (aj_xs G (i + 1)) σ = some qC) (hM : M_anew F (aj_xs G (i + 1)) τ = some qM) (he : qC = qM.1) (hc : cells + 1 ≤ 600000) (hs : slots + 16 ≤ 7302250) (kk : aj_K G (cells + 1) (slots + 16) 1417 [(0, .ref (aj_b G)), (1, .ref (aj_bC G 0)), (2, .ref (aj_bM G 0)), (3, .int x3)] [] σ qM.2) : aj_K G cells slots 1075 [(0, .ref (aj_b G)), (1, .ref (aj_bC G 0)), (2, .ref (aj_bM G 0)), (3, .int x3)] [] σ τ := by
  refine aj_aload_n C0 dL_law_1075 1 rfl ?_
  refine aj_aload_n C0 dL_law_1076 0 rfl ?_
  refine aj_iload_n C0 dL_law_1077 3 rfl ?_
  refine aj_iconst C0 dL_law_1078 ci_1 ?_
  refine aj_iadd C0 dL_law_1079 ?_
  have z1080 := aj_in (k := 1) hi (by decide) hL hx3 1 rfl
  refine aj_sld C0 z1080.1 dL_law_1080 ?_
  rw [z1080.2]
  refine aj_callC C0 (m_C_anew (σ := σ) (Nat.le_refl _) F (aj_xs G (i + 1)) hC) mm_yX9_anew ln_RL_128 (As := fun _ => [.int (aj_xs G (i + 1))]) (fun _ => rfl) (fun _ => rfl) (loC_6_0 kC0).1 (loC_6_0 kC0).2.1 rfl (by decide) (by omega) (by omega) rfl (Nat.le_of_ble_eq_true rfl) dL_law_1081 ?_
  refine aj_aload_n C0 dL_law_1084 2 rfl ?_
  refine aj_aload_n C0 dL_law_1085 0 rfl ?_
  refine aj_iload_n C0 dL_law_1086 3 rfl ?_
  refine aj_iconst C0 dL_law_1087 ci_1 ?_
  refine aj_iadd C0 dL_law_1088 ?_
  have z1089 := aj_in (k := 1) hi (by decide) hL hx3 1 rfl
  refine aj_sld C0 z1089.1 dL_law_1089 ?_
  rw [z1089.2]
  refine aj_callM C0 (m_M_anew (σ := τ) (Nat.le_refl _) F (aj_xs G (i + 1)) hM) mm_yX10_anew ln_RL_131 (As := fun _ => [.int (aj_xs G (i + 1))]) (fun _ => rfl) (fun _ => rfl) (loM_7_0 kM0).1 (loM_7_0 kM0).2.1 rfl (by decide) (by omega) (by omega) rfl (Nat.le_of_ble_eq_true rfl) dL_law_1090 ?_
  refine aj_icmp_eq C0 dL_law_1093 (tgt := 1417) (by decide) (by first | exact he | exact congrArg am_bI he) ?_
  exact kk
set_option maxRecDepth 100000 in
set_option maxHeartbeats 4000000 in
theorem aj_case28 {G : aj_T} (C0 : aj_C G) {cells slots i : Nat} {F : Nat} {x3 : Int32} {σ τ : am_SS} {qC : Int32 × am_SS} {qM : Int32 × am_SS} (hi : i + 6 ≤ aj_N G) (hL : aj_N G ≤ 3072) (hx3 : x3 = nI i) (hC : C_queen F (aj_xs G (i + 1)) (aj_xs G (i + 2)) σ = some qC) (hM : M_queen F (aj_xs G (i + 1)) (aj_xs G (i + 2)) τ = some qM) (he : qC.1 = qM.1) (hc : cells + 1 ≤ 600000) (hs : slots + 16 ≤ 7302250) (kk : aj_K G (cells + 0) (slots + 0) 1417 [(0, .ref (aj_b G)), (1, .ref (aj_bC G 0)), (2, .ref (aj_bM G 0)), (3, .int x3)] [] qC.2 qM.2) : aj_K G cells slots 1098 [(0, .ref (aj_b G)), (1, .ref (aj_bC G 0)), (2, .ref (aj_bM G 0)), (3, .int x3)] [] σ τ := by
  refine aj_aload_n C0 dL_law_1098 1 rfl ?_
  refine aj_aload_n C0 dL_law_1099 0 rfl ?_
  refine aj_iload_n C0 dL_law_1100 3 rfl ?_
  refine aj_iconst C0 dL_law_1101 ci_1 ?_
  refine aj_iadd C0 dL_law_1102 ?_
  have z1103 := aj_in (k := 1) hi (by decide) hL hx3 1 rfl
  refine aj_sld C0 z1103.1 dL_law_1103 ?_
  rw [z1103.2]
  refine aj_aload_n C0 dL_law_1104 0 rfl ?_
  refine aj_iload_n C0 dL_law_1105 3 rfl ?_
  refine aj_iconst C0 dL_law_1106 ci_2 ?_
  refine aj_iadd C0 dL_law_1107 ?_
  have z1108 := aj_in (k := 2) hi (by decide) hL hx3 2 rfl
  refine aj_sld C0 z1108.1 dL_law_1108 ?_
  rw [z1108.2]
  refine aj_callC C0 (m_C_queen (σ := σ) (Nat.le_refl _) F (aj_xs G (i + 1)) (aj_xs G (i + 2)) hC) mm_yX9_queen ln_RL_132 (As := fun _ => [.int (aj_xs G (i + 1)), .int (aj_xs G (i + 2))]) (fun _ => rfl) (fun _ => rfl) (loC_6_0 kC0).1 (loC_6_0 kC0).2.1 rfl (by decide) (by omega) (by omega) rfl (Nat.le_of_ble_eq_true rfl) dL_law_1109 ?_
  refine aj_aload_n C0 dL_law_1112 2 rfl ?_
  refine aj_aload_n C0 dL_law_1113 0 rfl ?_
  refine aj_iload_n C0 dL_law_1114 3 rfl ?_
  refine aj_iconst C0 dL_law_1115 ci_1 ?_
  refine aj_iadd C0 dL_law_1116 ?_
  have z1117 := aj_in (k := 1) hi (by decide) hL hx3 1 rfl
  refine aj_sld C0 z1117.1 dL_law_1117 ?_
  rw [z1117.2]
  refine aj_aload_n C0 dL_law_1118 0 rfl ?_
  refine aj_iload_n C0 dL_law_1119 3 rfl ?_
  refine aj_iconst C0 dL_law_1120 ci_2 ?_
  refine aj_iadd C0 dL_law_1121 ?_
  have z1122 := aj_in (k := 2) hi (by decide) hL hx3 2 rfl
  refine aj_sld C0 z1122.1 dL_law_1122 ?_
  rw [z1122.2]
  refine aj_callM C0 (m_M_queen (σ := τ) (Nat.le_refl _) F (aj_xs G (i + 1)) (aj_xs G (i + 2)) hM) mm_yX10_queen ln_RL_135 (As := fun _ => [.int (aj_xs G (i + 1)), .int (aj_xs G (i + 2))]) (fun _ => rfl) (fun _ => rfl) (loM_7_0 kM0).1 (loM_7_0 kM0).2.1 rfl (by decide) (by omega) (by omega) rfl (Nat.le_of_ble_eq_true rfl) dL_law_1123 ?_
  refine aj_icmp_eq C0 dL_law_1126 (tgt := 1417) (by decide) (by first | exact he | exact congrArg am_bI he) ?_
  exact kk
set_option maxRecDepth 100000 in
set_option maxHeartbeats 4000000 in
theorem aj_case29 {G : aj_T} (C0 : aj_C G) {cells slots i : Nat} {F : Nat} {x3 : Int32} {σ τ : am_SS} {qC : Int32} {qM : Int32 × am_SS} (hi : i + 6 ≤ aj_N G) (hL : aj_N G ≤ 3072) (hx3 : x3 = nI i) (hC : C_queens F (aj_xs G (i + 1)) σ = some qC) (hM : M_queens F (aj_xs G (i + 1)) τ = some qM) (he : qC = qM.1) (hc : cells + 1 ≤ 600000) (hs : slots + 16 ≤ 7302250) (kk : aj_K G (cells + 0) (slots + 0) 1417 [(0, .ref (aj_b G)), (1, .ref (aj_bC G 0)), (2, .ref (aj_bM G 0)), (3, .int x3)] [] σ qM.2) : aj_K G cells slots 1131 [(0, .ref (aj_b G)), (1, .ref (aj_bC G 0)), (2, .ref (aj_bM G 0)), (3, .int x3)] [] σ τ := by
  refine aj_aload_n C0 dL_law_1131 1 rfl ?_
  refine aj_aload_n C0 dL_law_1132 0 rfl ?_
  refine aj_iload_n C0 dL_law_1133 3 rfl ?_
  refine aj_iconst C0 dL_law_1134 ci_1 ?_
  refine aj_iadd C0 dL_law_1135 ?_
  have z1136 := aj_in (k := 1) hi (by decide) hL hx3 1 rfl
  refine aj_sld C0 z1136.1 dL_law_1136 ?_
  rw [z1136.2]
  refine aj_callC C0 (m_C_queens (σ := σ) (Nat.le_refl _) F (aj_xs G (i + 1)) hC) mm_yX9_queens ln_RL_136 (As := fun _ => [.int (aj_xs G (i + 1))]) (fun _ => rfl) (fun _ => rfl) (loC_6_0 kC0).1 (loC_6_0 kC0).2.1 rfl (by decide) (by omega) (by omega) rfl (Nat.le_of_ble_eq_true rfl) dL_law_1137 ?_
  refine aj_aload_n C0 dL_law_1140 2 rfl ?_
  refine aj_aload_n C0 dL_law_1141 0 rfl ?_
  refine aj_iload_n C0 dL_law_1142 3 rfl ?_
  refine aj_iconst C0 dL_law_1143 ci_1 ?_
  refine aj_iadd C0 dL_law_1144 ?_
  have z1145 := aj_in (k := 1) hi (by decide) hL hx3 1 rfl
  refine aj_sld C0 z1145.1 dL_law_1145 ?_
  rw [z1145.2]
  refine aj_callM C0 (m_M_queens (σ := τ) (Nat.le_refl _) F (aj_xs G (i + 1)) hM) mm_yX10_queens ln_RL_139 (As := fun _ => [.int (aj_xs G (i + 1))]) (fun _ => rfl) (fun _ => rfl) (loM_7_0 kM0).1 (loM_7_0 kM0).2.1 rfl (by decide) (by omega) (by omega) rfl (Nat.le_of_ble_eq_true rfl) dL_law_1146 ?_
  refine aj_icmp_eq C0 dL_law_1149 (tgt := 1417) (by decide) (by first | exact he | exact congrArg am_bI he) ?_
  exact kk
set_option maxRecDepth 100000 in
set_option maxHeartbeats 4000000 in
theorem aj_case30 {G : aj_T} (C0 : aj_C G) {cells slots i : Nat} {F : Nat} {x3 : Int32} {σ τ : am_SS} {qC : Int32 × am_SS} {qM : Int32 × am_SS} (hi : i + 6 ≤ aj_N G) (hL : aj_N G ≤ 3072) (hx3 : x3 = nI i) (hC : C_corner F (aj_xs G (i + 1)) (aj_xs G (i + 2)) σ = some qC) (hM : M_corner (aj_xs G (i + 1)) (aj_xs G (i + 2)) τ = some qM) (he : qC.1 = qM.1) (hc : cells + 1 ≤ 600000) (hs : slots + 16 ≤ 7302250) (kk : aj_K G (cells + 0) (slots + 0) 1417 [(0, .ref (aj_b G)), (1, .ref (aj_bC G 0)), (2, .ref (aj_bM G 0)), (3, .int x3)] [] qC.2 qM.2) : aj_K G cells slots 1154 [(0, .ref (aj_b G)), (1, .ref (aj_bC G 0)), (2, .ref (aj_bM G 0)), (3, .int x3)] [] σ τ := by
  refine aj_aload_n C0 dL_law_1154 1 rfl ?_
  refine aj_aload_n C0 dL_law_1155 0 rfl ?_
  refine aj_iload_n C0 dL_law_1156 3 rfl ?_
  refine aj_iconst C0 dL_law_1157 ci_1 ?_
  refine aj_iadd C0 dL_law_1158 ?_
  have z1159 := aj_in (k := 1) hi (by decide) hL hx3 1 rfl
  refine aj_sld C0 z1159.1 dL_law_1159 ?_
  rw [z1159.2]
  refine aj_aload_n C0 dL_law_1160 0 rfl ?_
  refine aj_iload_n C0 dL_law_1161 3 rfl ?_
  refine aj_iconst C0 dL_law_1162 ci_2 ?_
  refine aj_iadd C0 dL_law_1163 ?_
  have z1164 := aj_in (k := 2) hi (by decide) hL hx3 2 rfl
  refine aj_sld C0 z1164.1 dL_law_1164 ?_
  rw [z1164.2]
  refine aj_callC C0 (m_C_corner (σ := σ) (Nat.le_refl _) F (aj_xs G (i + 1)) (aj_xs G (i + 2)) hC) mm_yX9_corner ln_RL_140 (As := fun _ => [.int (aj_xs G (i + 1)), .int (aj_xs G (i + 2))]) (fun _ => rfl) (fun _ => rfl) (loC_6_0 kC0).1 (loC_6_0 kC0).2.1 rfl (by decide) (by omega) (by omega) rfl (Nat.le_of_ble_eq_true rfl) dL_law_1165 ?_
  refine aj_aload_n C0 dL_law_1168 2 rfl ?_
  refine aj_aload_n C0 dL_law_1169 0 rfl ?_
  refine aj_iload_n C0 dL_law_1170 3 rfl ?_
  refine aj_iconst C0 dL_law_1171 ci_1 ?_
  refine aj_iadd C0 dL_law_1172 ?_
  have z1173 := aj_in (k := 1) hi (by decide) hL hx3 1 rfl
  refine aj_sld C0 z1173.1 dL_law_1173 ?_
  rw [z1173.2]
  refine aj_aload_n C0 dL_law_1174 0 rfl ?_
  refine aj_iload_n C0 dL_law_1175 3 rfl ?_
  refine aj_iconst C0 dL_law_1176 ci_2 ?_
  refine aj_iadd C0 dL_law_1177 ?_
  have z1178 := aj_in (k := 2) hi (by decide) hL hx3 2 rfl
  refine aj_sld C0 z1178.1 dL_law_1178 ?_
  rw [z1178.2]
  refine aj_callM C0 (m_M_corner (σ := τ) (Nat.le_refl _) (aj_xs G (i + 1)) (aj_xs G (i + 2)) hM) mm_yX10_corner ln_RL_143 (As := fun _ => [.int (aj_xs G (i + 1)), .int (aj_xs G (i + 2))]) (fun _ => rfl) (fun _ => rfl) (loM_7_0 kM0).1 (loM_7_0 kM0).2.1 rfl (by decide) (by omega) (by omega) rfl (Nat.le_of_ble_eq_true rfl) dL_law_1179 ?_
  refine aj_icmp_eq C0 dL_law_1182 (tgt := 1417) (by decide) (by first | exact he | exact congrArg am_bI he) ?_
  exact kk
set_option maxRecDepth 100000 in
set_option maxHeartbeats 4000000 in
theorem aj_case31 {G : aj_T} (C0 : aj_C G) {cells slots i : Nat} {F : Nat} {x3 : Int32} {σ τ : am_SS} {qC : Int32} {qM : Int32 × am_SS} (hi : i + 6 ≤ aj_N G) (hL : aj_N G ≤ 3072) (hx3 : x3 = nI i) (hC : C_within F (aj_xs G (i + 1)) (aj_xs G (i + 2)) σ = some qC) (hM : M_within F (aj_xs G (i + 1)) (aj_xs G (i + 2)) τ = some qM) (he : qC = qM.1) (hc : cells + 1 ≤ 600000) (hs : slots + 16 ≤ 7302250) (kk : aj_K G (cells + 0) (slots + 0) 1417 [(0, .ref (aj_b G)), (1, .ref (aj_bC G 0)), (2, .ref (aj_bM G 0)), (3, .int x3)] [] σ qM.2) : aj_K G cells slots 1187 [(0, .ref (aj_b G)), (1, .ref (aj_bC G 0)), (2, .ref (aj_bM G 0)), (3, .int x3)] [] σ τ := by
  refine aj_aload_n C0 dL_law_1187 1 rfl ?_
  refine aj_aload_n C0 dL_law_1188 0 rfl ?_
  refine aj_iload_n C0 dL_law_1189 3 rfl ?_
  refine aj_iconst C0 dL_law_1190 ci_1 ?_
  refine aj_iadd C0 dL_law_1191 ?_
  have z1192 := aj_in (k := 1) hi (by decide) hL hx3 1 rfl
  refine aj_sld C0 z1192.1 dL_law_1192 ?_
  rw [z1192.2]
  refine aj_aload_n C0 dL_law_1193 0 rfl ?_
  refine aj_iload_n C0 dL_law_1194 3 rfl ?_
  refine aj_iconst C0 dL_law_1195 ci_2 ?_
  refine aj_iadd C0 dL_law_1196 ?_
  have z1197 := aj_in (k := 2) hi (by decide) hL hx3 2 rfl
  refine aj_sld C0 z1197.1 dL_law_1197 ?_
  rw [z1197.2]
  refine aj_callC C0 (m_C_within (σ := σ) (Nat.le_refl _) F (aj_xs G (i + 1)) (aj_xs G (i + 2)) hC) mm_yX9_within ln_RL_144 (As := fun _ => [.int (aj_xs G (i + 1)), .int (aj_xs G (i + 2))]) (fun _ => rfl) (fun _ => rfl) (loC_6_0 kC0).1 (loC_6_0 kC0).2.1 rfl (by decide) (by omega) (by omega) rfl (Nat.le_of_ble_eq_true rfl) dL_law_1198 ?_
  refine aj_aload_n C0 dL_law_1201 2 rfl ?_
  refine aj_aload_n C0 dL_law_1202 0 rfl ?_
  refine aj_iload_n C0 dL_law_1203 3 rfl ?_
  refine aj_iconst C0 dL_law_1204 ci_1 ?_
  refine aj_iadd C0 dL_law_1205 ?_
  have z1206 := aj_in (k := 1) hi (by decide) hL hx3 1 rfl
  refine aj_sld C0 z1206.1 dL_law_1206 ?_
  rw [z1206.2]
  refine aj_aload_n C0 dL_law_1207 0 rfl ?_
  refine aj_iload_n C0 dL_law_1208 3 rfl ?_
  refine aj_iconst C0 dL_law_1209 ci_2 ?_
  refine aj_iadd C0 dL_law_1210 ?_
  have z1211 := aj_in (k := 2) hi (by decide) hL hx3 2 rfl
  refine aj_sld C0 z1211.1 dL_law_1211 ?_
  rw [z1211.2]
  refine aj_callM C0 (m_M_within (σ := τ) (Nat.le_refl _) F (aj_xs G (i + 1)) (aj_xs G (i + 2)) hM) mm_yX10_within ln_RL_147 (As := fun _ => [.int (aj_xs G (i + 1)), .int (aj_xs G (i + 2))]) (fun _ => rfl) (fun _ => rfl) (loM_7_0 kM0).1 (loM_7_0 kM0).2.1 rfl (by decide) (by omega) (by omega) rfl (Nat.le_of_ble_eq_true rfl) dL_law_1212 ?_
  refine aj_icmp_eq C0 dL_law_1215 (tgt := 1417) (by decide) (by first | exact he | exact congrArg am_bI he) ?_
  exact kk
set_option maxRecDepth 100000 in
set_option maxHeartbeats 4000000 in
theorem aj_case32 {G : aj_T} (C0 : aj_C G) {cells slots i : Nat} {F : Nat} {x3 : Int32} {σ τ : am_SS} {qC : Int32} {qM : Int32 × am_SS} (hi : i + 6 ≤ aj_N G) (hL : aj_N G ≤ 3072) (hx3 : x3 = nI i) (hC : C_area F  σ = some qC) (hM : M_area F  τ = some qM) (he : qC = qM.1) (hc : cells + 1 ≤ 600000) (hs : slots + 16 ≤ 7302250) (kk : aj_K G (cells + 0) (slots + 0) 1417 [(0, .ref (aj_b G)), (1, .ref (aj_bC G 0)), (2, .ref (aj_bM G 0)), (3, .int x3)] [] σ qM.2) : aj_K G cells slots 1220 [(0, .ref (aj_b G)), (1, .ref (aj_bC G 0)), (2, .ref (aj_bM G 0)), (3, .int x3)] [] σ τ := by
  refine aj_aload_n C0 dL_law_1220 1 rfl ?_
  refine aj_callC C0 (m_C_area (σ := σ) (Nat.le_refl _) F  hC) mm_yX9_area ln_RL_148 (As := fun _ => []) (fun _ => rfl) (fun _ => rfl) (loC_6_0 kC0).1 (loC_6_0 kC0).2.1 rfl (by decide) (by omega) (by omega) rfl (Nat.le_of_ble_eq_true rfl) dL_law_1221 ?_
  refine aj_aload_n C0 dL_law_1224 2 rfl ?_
  refine aj_callM C0 (m_M_area (σ := τ) (Nat.le_refl _) F  hM) mm_yX10_area ln_RL_151 (As := fun _ => []) (fun _ => rfl) (fun _ => rfl) (loM_7_0 kM0).1 (loM_7_0 kM0).2.1 rfl (by decide) (by omega) (by omega) rfl (Nat.le_of_ble_eq_true rfl) dL_law_1225 ?_
  refine aj_icmp_eq C0 dL_law_1228 (tgt := 1417) (by decide) (by first | exact he | exact congrArg am_bI he) ?_
  exact kk
set_option maxRecDepth 100000 in
set_option maxHeartbeats 4000000 in
theorem aj_case33 {G : aj_T} (C0 : aj_C G) {cells slots i : Nat} {F : Nat} {x3 : Int32} {σ τ : am_SS} {qC : Int32} {qM : Int32 × am_SS} (hi : i + 6 ≤ aj_N G) (hL : aj_N G ≤ 3072) (hx3 : x3 = nI i) (hC : C_parts F (aj_xs G (i + 1)) (aj_xs G (i + 2)) = some qC) (hM : M_parts F (aj_xs G (i + 1)) (aj_xs G (i + 2)) τ = some qM) (he : qC = qM.1) (hc : cells + 1 ≤ 600000) (hs : slots + 16 ≤ 7302250) (kk : aj_K G (cells + 0) (slots + 0) 1417 [(0, .ref (aj_b G)), (1, .ref (aj_bC G 0)), (2, .ref (aj_bM G 0)), (3, .int x3)] [] σ qM.2) : aj_K G cells slots 1233 [(0, .ref (aj_b G)), (1, .ref (aj_bC G 0)), (2, .ref (aj_bM G 0)), (3, .int x3)] [] σ τ := by
  refine aj_aload_n C0 dL_law_1233 1 rfl ?_
  refine aj_aload_n C0 dL_law_1234 0 rfl ?_
  refine aj_iload_n C0 dL_law_1235 3 rfl ?_
  refine aj_iconst C0 dL_law_1236 ci_1 ?_
  refine aj_iadd C0 dL_law_1237 ?_
  have z1238 := aj_in (k := 1) hi (by decide) hL hx3 1 rfl
  refine aj_sld C0 z1238.1 dL_law_1238 ?_
  rw [z1238.2]
  refine aj_aload_n C0 dL_law_1239 0 rfl ?_
  refine aj_iload_n C0 dL_law_1240 3 rfl ?_
  refine aj_iconst C0 dL_law_1241 ci_2 ?_
  refine aj_iadd C0 dL_law_1242 ?_
  have z1243 := aj_in (k := 2) hi (by decide) hL hx3 2 rfl
  refine aj_sld C0 z1243.1 dL_law_1243 ?_
  rw [z1243.2]
  refine aj_callC C0 (m_C_parts (σ := σ) (Nat.le_refl _) F (aj_xs G (i + 1)) (aj_xs G (i + 2)) hC) mm_yX9_parts ln_RL_152 (As := fun _ => [.int (aj_xs G (i + 1)), .int (aj_xs G (i + 2))]) (fun _ => rfl) (fun _ => rfl) (loC_6_0 kC0).1 (loC_6_0 kC0).2.1 rfl (by decide) (by omega) (by omega) rfl (Nat.le_of_ble_eq_true rfl) dL_law_1244 ?_
  refine aj_aload_n C0 dL_law_1247 2 rfl ?_
  refine aj_aload_n C0 dL_law_1248 0 rfl ?_
  refine aj_iload_n C0 dL_law_1249 3 rfl ?_
  refine aj_iconst C0 dL_law_1250 ci_1 ?_
  refine aj_iadd C0 dL_law_1251 ?_
  have z1252 := aj_in (k := 1) hi (by decide) hL hx3 1 rfl
  refine aj_sld C0 z1252.1 dL_law_1252 ?_
  rw [z1252.2]
  refine aj_aload_n C0 dL_law_1253 0 rfl ?_
  refine aj_iload_n C0 dL_law_1254 3 rfl ?_
  refine aj_iconst C0 dL_law_1255 ci_2 ?_
  refine aj_iadd C0 dL_law_1256 ?_
  have z1257 := aj_in (k := 2) hi (by decide) hL hx3 2 rfl
  refine aj_sld C0 z1257.1 dL_law_1257 ?_
  rw [z1257.2]
  refine aj_callM C0 (m_M_parts (σ := τ) (Nat.le_refl _) F (aj_xs G (i + 1)) (aj_xs G (i + 2)) hM) mm_yX10_parts ln_RL_155 (As := fun _ => [.int (aj_xs G (i + 1)), .int (aj_xs G (i + 2))]) (fun _ => rfl) (fun _ => rfl) (loM_7_0 kM0).1 (loM_7_0 kM0).2.1 rfl (by decide) (by omega) (by omega) rfl (Nat.le_of_ble_eq_true rfl) dL_law_1258 ?_
  refine aj_icmp_eq C0 dL_law_1261 (tgt := 1417) (by decide) (by first | exact he | exact congrArg am_bI he) ?_
  exact kk
set_option maxRecDepth 100000 in
set_option maxHeartbeats 4000000 in
theorem aj_case34 {G : aj_T} (C0 : aj_C G) {cells slots i : Nat} {F : Nat} {x3 : Int32} {σ τ : am_SS} {qC : Int32} {qM : Int32 × am_SS} (hi : i + 6 ≤ aj_N G) (hL : aj_N G ≤ 3072) (hx3 : x3 = nI i) (hC : C_brackets F (aj_xs G (i + 1)) (aj_xs G (i + 2)) (aj_xs G (i + 3)) = some qC) (hM : M_brackets F (aj_xs G (i + 1)) (aj_xs G (i + 2)) (aj_xs G (i + 3)) τ = some qM) (he : qC = qM.1) (hc : cells + 1 ≤ 600000) (hs : slots + 16 ≤ 7302250) (kk : aj_K G (cells + 0) (slots + 0) 1417 [(0, .ref (aj_b G)), (1, .ref (aj_bC G 0)), (2, .ref (aj_bM G 0)), (3, .int x3)] [] σ qM.2) : aj_K G cells slots 1266 [(0, .ref (aj_b G)), (1, .ref (aj_bC G 0)), (2, .ref (aj_bM G 0)), (3, .int x3)] [] σ τ := by
  refine aj_aload_n C0 dL_law_1266 1 rfl ?_
  refine aj_aload_n C0 dL_law_1267 0 rfl ?_
  refine aj_iload_n C0 dL_law_1268 3 rfl ?_
  refine aj_iconst C0 dL_law_1269 ci_1 ?_
  refine aj_iadd C0 dL_law_1270 ?_
  have z1271 := aj_in (k := 1) hi (by decide) hL hx3 1 rfl
  refine aj_sld C0 z1271.1 dL_law_1271 ?_
  rw [z1271.2]
  refine aj_aload_n C0 dL_law_1272 0 rfl ?_
  refine aj_iload_n C0 dL_law_1273 3 rfl ?_
  refine aj_iconst C0 dL_law_1274 ci_2 ?_
  refine aj_iadd C0 dL_law_1275 ?_
  have z1276 := aj_in (k := 2) hi (by decide) hL hx3 2 rfl
  refine aj_sld C0 z1276.1 dL_law_1276 ?_
  rw [z1276.2]
  refine aj_aload_n C0 dL_law_1277 0 rfl ?_
  refine aj_iload_n C0 dL_law_1278 3 rfl ?_
  refine aj_iconst C0 dL_law_1279 ci_3 ?_
  refine aj_iadd C0 dL_law_1280 ?_
  have z1281 := aj_in (k := 3) hi (by decide) hL hx3 3 rfl
  refine aj_sld C0 z1281.1 dL_law_1281 ?_
  rw [z1281.2]
  refine aj_callC C0 (m_C_brackets (σ := σ) (Nat.le_refl _) F (aj_xs G (i + 1)) (aj_xs G (i + 2)) (aj_xs G (i + 3)) hC) mm_yX9_brackets ln_RL_156 (As := fun _ => [.int (aj_xs G (i + 1)), .int (aj_xs G (i + 2)), .int (aj_xs G (i + 3))]) (fun _ => rfl) (fun _ => rfl) (loC_6_0 kC0).1 (loC_6_0 kC0).2.1 rfl (by decide) (by omega) (by omega) rfl (Nat.le_of_ble_eq_true rfl) dL_law_1282 ?_
  refine aj_aload_n C0 dL_law_1285 2 rfl ?_
  refine aj_aload_n C0 dL_law_1286 0 rfl ?_
  refine aj_iload_n C0 dL_law_1287 3 rfl ?_
  refine aj_iconst C0 dL_law_1288 ci_1 ?_
  refine aj_iadd C0 dL_law_1289 ?_
  have z1290 := aj_in (k := 1) hi (by decide) hL hx3 1 rfl
  refine aj_sld C0 z1290.1 dL_law_1290 ?_
  rw [z1290.2]
  refine aj_aload_n C0 dL_law_1291 0 rfl ?_
  refine aj_iload_n C0 dL_law_1292 3 rfl ?_
  refine aj_iconst C0 dL_law_1293 ci_2 ?_
  refine aj_iadd C0 dL_law_1294 ?_
  have z1295 := aj_in (k := 2) hi (by decide) hL hx3 2 rfl
  refine aj_sld C0 z1295.1 dL_law_1295 ?_
  rw [z1295.2]
  refine aj_aload_n C0 dL_law_1296 0 rfl ?_
  refine aj_iload_n C0 dL_law_1297 3 rfl ?_
  refine aj_iconst C0 dL_law_1298 ci_3 ?_
  refine aj_iadd C0 dL_law_1299 ?_
  have z1300 := aj_in (k := 3) hi (by decide) hL hx3 3 rfl
  refine aj_sld C0 z1300.1 dL_law_1300 ?_
  rw [z1300.2]
  refine aj_callM C0 (m_M_brackets (σ := τ) (Nat.le_refl _) F (aj_xs G (i + 1)) (aj_xs G (i + 2)) (aj_xs G (i + 3)) hM) mm_yX10_brackets ln_RL_159 (As := fun _ => [.int (aj_xs G (i + 1)), .int (aj_xs G (i + 2)), .int (aj_xs G (i + 3))]) (fun _ => rfl) (fun _ => rfl) (loM_7_0 kM0).1 (loM_7_0 kM0).2.1 rfl (by decide) (by omega) (by omega) rfl (Nat.le_of_ble_eq_true rfl) dL_law_1301 ?_
  refine aj_icmp_eq C0 dL_law_1304 (tgt := 1417) (by decide) (by first | exact he | exact congrArg am_bI he) ?_
  exact kk
set_option maxRecDepth 100000 in
set_option maxHeartbeats 4000000 in
theorem aj_case35 {G : aj_T} (C0 : aj_C G) {cells slots i : Nat} {F : Nat} {x3 : Int32} {σ τ : am_SS} {qC : Int32} {qM : Int32 × am_SS} (hi : i + 6 ≤ aj_N G) (hL : aj_N G ≤ 3072) (hx3 : x3 = nI i) (hC : C_game F (aj_xs G (i + 1)) (aj_xs G (i + 2)) = some qC) (hM : M_game F (aj_xs G (i + 1)) (aj_xs G (i + 2)) τ = some qM) (he : qC = qM.1) (hc : cells + 1 ≤ 600000) (hs : slots + 16 ≤ 7302250) (kk : aj_K G (cells + 0) (slots + 0) 1417 [(0, .ref (aj_b G)), (1, .ref (aj_bC G 0)), (2, .ref (aj_bM G 0)), (3, .int x3)] [] σ qM.2) : aj_K G cells slots 1309 [(0, .ref (aj_b G)), (1, .ref (aj_bC G 0)), (2, .ref (aj_bM G 0)), (3, .int x3)] [] σ τ := by
  refine aj_aload_n C0 dL_law_1309 1 rfl ?_
  refine aj_aload_n C0 dL_law_1310 0 rfl ?_
  refine aj_iload_n C0 dL_law_1311 3 rfl ?_
  refine aj_iconst C0 dL_law_1312 ci_1 ?_
  refine aj_iadd C0 dL_law_1313 ?_
  have z1314 := aj_in (k := 1) hi (by decide) hL hx3 1 rfl
  refine aj_sld C0 z1314.1 dL_law_1314 ?_
  rw [z1314.2]
  refine aj_aload_n C0 dL_law_1315 0 rfl ?_
  refine aj_iload_n C0 dL_law_1316 3 rfl ?_
  refine aj_iconst C0 dL_law_1317 ci_2 ?_
  refine aj_iadd C0 dL_law_1318 ?_
  have z1319 := aj_in (k := 2) hi (by decide) hL hx3 2 rfl
  refine aj_sld C0 z1319.1 dL_law_1319 ?_
  rw [z1319.2]
  refine aj_callC C0 (m_C_game (σ := σ) (Nat.le_refl _) F (aj_xs G (i + 1)) (aj_xs G (i + 2)) hC) mm_yX9_game ln_RL_160 (As := fun _ => [.int (aj_xs G (i + 1)), .int (aj_xs G (i + 2))]) (fun _ => rfl) (fun _ => rfl) (loC_6_0 kC0).1 (loC_6_0 kC0).2.1 rfl (by decide) (by omega) (by omega) rfl (Nat.le_of_ble_eq_true rfl) dL_law_1320 ?_
  refine aj_aload_n C0 dL_law_1323 2 rfl ?_
  refine aj_aload_n C0 dL_law_1324 0 rfl ?_
  refine aj_iload_n C0 dL_law_1325 3 rfl ?_
  refine aj_iconst C0 dL_law_1326 ci_1 ?_
  refine aj_iadd C0 dL_law_1327 ?_
  have z1328 := aj_in (k := 1) hi (by decide) hL hx3 1 rfl
  refine aj_sld C0 z1328.1 dL_law_1328 ?_
  rw [z1328.2]
  refine aj_aload_n C0 dL_law_1329 0 rfl ?_
  refine aj_iload_n C0 dL_law_1330 3 rfl ?_
  refine aj_iconst C0 dL_law_1331 ci_2 ?_
  refine aj_iadd C0 dL_law_1332 ?_
  have z1333 := aj_in (k := 2) hi (by decide) hL hx3 2 rfl
  refine aj_sld C0 z1333.1 dL_law_1333 ?_
  rw [z1333.2]
  refine aj_callM C0 (m_M_game (σ := τ) (Nat.le_refl _) F (aj_xs G (i + 1)) (aj_xs G (i + 2)) hM) mm_yX10_game ln_RL_163 (As := fun _ => [.int (aj_xs G (i + 1)), .int (aj_xs G (i + 2))]) (fun _ => rfl) (fun _ => rfl) (loM_7_0 kM0).1 (loM_7_0 kM0).2.1 rfl (by decide) (by omega) (by omega) rfl (Nat.le_of_ble_eq_true rfl) dL_law_1334 ?_
  refine aj_icmp_eq C0 dL_law_1337 (tgt := 1417) (by decide) (by first | exact he | exact congrArg am_bI he) ?_
  exact kk
set_option maxRecDepth 100000 in
set_option maxHeartbeats 4000000 in
theorem aj_case36 {G : aj_T} (C0 : aj_C G) {cells slots i : Nat} {F : Nat} {x3 : Int32} {σ τ : am_SS} {qC : Bool × am_SS} {qM : Bool × am_SS} (hi : i + 6 ≤ aj_N G) (hL : aj_N G ≤ 3072) (hx3 : x3 = nI i) (hC : C_undo F  σ = some qC) (hM : M_undo F  τ = some qM) (he : qC.1 = qM.1) (hc : cells + 1 ≤ 600000) (hs : slots + 16 ≤ 7302250) (kk : aj_K G (cells + 0) (slots + 0) 1417 [(0, .ref (aj_b G)), (1, .ref (aj_bC G 0)), (2, .ref (aj_bM G 0)), (3, .int x3)] [] qC.2 qM.2) : aj_K G cells slots 1342 [(0, .ref (aj_b G)), (1, .ref (aj_bC G 0)), (2, .ref (aj_bM G 0)), (3, .int x3)] [] σ τ := by
  refine aj_aload_n C0 dL_law_1342 1 rfl ?_
  refine aj_callC C0 (m_C_undo (σ := σ) (Nat.le_refl _) F  hC) mm_yX9_undo ln_RL_164 (As := fun _ => []) (fun _ => rfl) (fun _ => rfl) (loC_6_0 kC0).1 (loC_6_0 kC0).2.1 rfl (by decide) (by omega) (by omega) rfl (Nat.le_of_ble_eq_true rfl) dL_law_1343 ?_
  refine aj_aload_n C0 dL_law_1346 2 rfl ?_
  refine aj_callM C0 (m_M_undo (σ := τ) (Nat.le_refl _) F  hM) mm_yX10_undo ln_RL_168 (As := fun _ => []) (fun _ => rfl) (fun _ => rfl) (loM_7_0 kM0).1 (loM_7_0 kM0).2.1 rfl (by decide) (by omega) (by omega) rfl (Nat.le_of_ble_eq_true rfl) dL_law_1347 ?_
  refine aj_icmp_eq C0 dL_law_1350 (tgt := 1417) (by decide) (by first | exact he | exact congrArg am_bI he) ?_
  exact kk
set_option maxRecDepth 100000 in
set_option maxHeartbeats 4000000 in
theorem aj_case37 {G : aj_T} (C0 : aj_C G) {cells slots i : Nat} {F : Nat} {x3 : Int32} {σ τ : am_SS} {qC : Bool × am_SS} {qM : Bool × am_SS} (hi : i + 6 ≤ aj_N G) (hL : aj_N G ≤ 3072) (hx3 : x3 = nI i) (hC : C_image F (decide (¬ aj_xs G (i + 1) = 0)) σ = some qC) (hM : M_image F (decide (¬ aj_xs G (i + 1) = 0)) τ = some qM) (he : qC.1 = qM.1) (hc : cells + 1 ≤ 600000) (hs : slots + 16 ≤ 7302250) (kk : aj_K G (cells + 0) (slots + 0) 1417 [(0, .ref (aj_b G)), (1, .ref (aj_bC G 0)), (2, .ref (aj_bM G 0)), (3, .int x3)] [] qC.2 qM.2) : aj_K G cells slots 1355 [(0, .ref (aj_b G)), (1, .ref (aj_bC G 0)), (2, .ref (aj_bM G 0)), (3, .int x3)] [] σ τ := by
  by_cases hx : aj_xs G (i + 1) = 0
  · have e : decide (¬ aj_xs G (i + 1) = 0) = false := by simp [hx]
    rw [e] at hC hM
    refine aj_aload_n C0 dL_law_1355 1 rfl ?_
    refine aj_aload_n C0 dL_law_1356 0 rfl ?_
    refine aj_iload_n C0 dL_law_1357 3 rfl ?_
    refine aj_iconst C0 dL_law_1358 ci_1 ?_
    refine aj_iadd C0 dL_law_1359 ?_
    have z1360 := aj_in (k := 1) hi (by decide) hL hx3 1 rfl
    refine aj_sld C0 z1360.1 dL_law_1360 ?_
    rw [z1360.2]
    refine aj_if_eq C0 dL_law_1361 (tgt := 1368) (by decide) (fun _ => ?_) (fun z => absurd hx z)
    refine aj_iconst C0 dL_law_1368 ci_0 ?_
    refine aj_callC C0 (m_C_image (σ := σ) (Nat.le_refl _) F false hC) mm_yX9_image ln_RL_169 (As := fun _ => [.int (am_bI false)]) (fun _ => rfl) (fun _ => rfl) (loC_6_0 kC0).1 (loC_6_0 kC0).2.1 rfl (by decide) (by omega) (by omega) rfl (Nat.le_of_ble_eq_true rfl) dL_law_1369 ?_
    refine aj_aload_n C0 dL_law_1372 2 rfl ?_
    refine aj_aload_n C0 dL_law_1373 0 rfl ?_
    refine aj_iload_n C0 dL_law_1374 3 rfl ?_
    refine aj_iconst C0 dL_law_1375 ci_1 ?_
    refine aj_iadd C0 dL_law_1376 ?_
    have z1377 := aj_in (k := 1) hi (by decide) hL hx3 1 rfl
    refine aj_sld C0 z1377.1 dL_law_1377 ?_
    rw [z1377.2]
    refine aj_if_eq C0 dL_law_1378 (tgt := 1385) (by decide) (fun _ => ?_) (fun z => absurd hx z)
    refine aj_iconst C0 dL_law_1385 ci_0 ?_
    refine aj_callM C0 (m_M_image (σ := τ) (Nat.le_refl _) F false hM) mm_yX10_image ln_RL_173 (As := fun _ => [.int (am_bI false)]) (fun _ => rfl) (fun _ => rfl) (loM_7_0 kM0).1 (loM_7_0 kM0).2.1 rfl (by decide) (by omega) (by omega) rfl (Nat.le_of_ble_eq_true rfl) dL_law_1386 ?_
    refine aj_icmp_eq C0 dL_law_1389 (tgt := 1417) (by decide) (congrArg am_bI he) ?_
    exact kk
  · have e : decide (¬ aj_xs G (i + 1) = 0) = true := by simp [hx]
    rw [e] at hC hM
    refine aj_aload_n C0 dL_law_1355 1 rfl ?_
    refine aj_aload_n C0 dL_law_1356 0 rfl ?_
    refine aj_iload_n C0 dL_law_1357 3 rfl ?_
    refine aj_iconst C0 dL_law_1358 ci_1 ?_
    refine aj_iadd C0 dL_law_1359 ?_
    have z1360 := aj_in (k := 1) hi (by decide) hL hx3 1 rfl
    refine aj_sld C0 z1360.1 dL_law_1360 ?_
    rw [z1360.2]
    refine aj_if_eq C0 dL_law_1361 (tgt := 1368) (by decide) (fun z => absurd z hx) (fun _ => ?_)
    refine aj_iconst C0 dL_law_1364 ci_1 ?_
    refine aj_goto C0 dL_law_1365 (tgt := 1369) (by decide) ?_
    refine aj_callC C0 (m_C_image (σ := σ) (Nat.le_refl _) F true hC) mm_yX9_image ln_RL_169 (As := fun _ => [.int (am_bI true)]) (fun _ => rfl) (fun _ => rfl) (loC_6_0 kC0).1 (loC_6_0 kC0).2.1 rfl (by decide) (by omega) (by omega) rfl (Nat.le_of_ble_eq_true rfl) dL_law_1369 ?_
    refine aj_aload_n C0 dL_law_1372 2 rfl ?_
    refine aj_aload_n C0 dL_law_1373 0 rfl ?_
    refine aj_iload_n C0 dL_law_1374 3 rfl ?_
    refine aj_iconst C0 dL_law_1375 ci_1 ?_
    refine aj_iadd C0 dL_law_1376 ?_
    have z1377 := aj_in (k := 1) hi (by decide) hL hx3 1 rfl
    refine aj_sld C0 z1377.1 dL_law_1377 ?_
    rw [z1377.2]
    refine aj_if_eq C0 dL_law_1378 (tgt := 1385) (by decide) (fun z => absurd z hx) (fun _ => ?_)
    refine aj_iconst C0 dL_law_1381 ci_1 ?_
    refine aj_goto C0 dL_law_1382 (tgt := 1386) (by decide) ?_
    refine aj_callM C0 (m_M_image (σ := τ) (Nat.le_refl _) F true hM) mm_yX10_image ln_RL_173 (As := fun _ => [.int (am_bI true)]) (fun _ => rfl) (fun _ => rfl) (loM_7_0 kM0).1 (loM_7_0 kM0).2.1 rfl (by decide) (by omega) (by omega) rfl (Nat.le_of_ble_eq_true rfl) dL_law_1386 ?_
    refine aj_icmp_eq C0 dL_law_1389 (tgt := 1417) (by decide) (congrArg am_bI he) ?_
    exact kk
set_option maxRecDepth 100000 in
set_option maxHeartbeats 4000000 in
theorem aj_case38 {G : aj_T} (C0 : aj_C G) {cells slots i : Nat} {F : Nat} {x3 : Int32} {σ τ : am_SS} {qC : Int32} {qM : Int32 × am_SS} (hi : i + 6 ≤ aj_N G) (hL : aj_N G ≤ 3072) (hx3 : x3 = nI i) (hC : C_look F (aj_xs G (i + 1)) σ = some qC) (hM : M_look F (aj_xs G (i + 1)) τ = some qM) (he : qC = qM.1) (hc : cells + 1 ≤ 600000) (hs : slots + 16 ≤ 7302250) (kk : aj_K G (cells + 0) (slots + 0) 1417 [(0, .ref (aj_b G)), (1, .ref (aj_bC G 0)), (2, .ref (aj_bM G 0)), (3, .int x3)] [] σ qM.2) : aj_K G cells slots 1394 [(0, .ref (aj_b G)), (1, .ref (aj_bC G 0)), (2, .ref (aj_bM G 0)), (3, .int x3)] [] σ τ := by
  refine aj_aload_n C0 dL_law_1394 1 rfl ?_
  refine aj_aload_n C0 dL_law_1395 0 rfl ?_
  refine aj_iload_n C0 dL_law_1396 3 rfl ?_
  refine aj_iconst C0 dL_law_1397 ci_1 ?_
  refine aj_iadd C0 dL_law_1398 ?_
  have z1399 := aj_in (k := 1) hi (by decide) hL hx3 1 rfl
  refine aj_sld C0 z1399.1 dL_law_1399 ?_
  rw [z1399.2]
  refine aj_callC C0 (m_C_look (σ := σ) (Nat.le_refl _) F (aj_xs G (i + 1)) hC) mm_yX9_look ln_RL_174 (As := fun _ => [.int (aj_xs G (i + 1))]) (fun _ => rfl) (fun _ => rfl) (loC_6_0 kC0).1 (loC_6_0 kC0).2.1 rfl (by decide) (by omega) (by omega) rfl (Nat.le_of_ble_eq_true rfl) dL_law_1400 ?_
  refine aj_aload_n C0 dL_law_1403 2 rfl ?_
  refine aj_aload_n C0 dL_law_1404 0 rfl ?_
  refine aj_iload_n C0 dL_law_1405 3 rfl ?_
  refine aj_iconst C0 dL_law_1406 ci_1 ?_
  refine aj_iadd C0 dL_law_1407 ?_
  have z1408 := aj_in (k := 1) hi (by decide) hL hx3 1 rfl
  refine aj_sld C0 z1408.1 dL_law_1408 ?_
  rw [z1408.2]
  refine aj_callM C0 (m_M_look (σ := τ) (Nat.le_refl _) F (aj_xs G (i + 1)) hM) mm_yX10_look ln_RL_177 (As := fun _ => [.int (aj_xs G (i + 1))]) (fun _ => rfl) (fun _ => rfl) (loM_7_0 kM0).1 (loM_7_0 kM0).2.1 rfl (by decide) (by omega) (by omega) rfl (Nat.le_of_ble_eq_true rfl) dL_law_1409 ?_
  refine aj_icmp_eq C0 dL_law_1412 (tgt := 1417) (by decide) (by first | exact he | exact congrArg am_bI he) ?_
  exact kk
