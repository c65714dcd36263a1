/-! ===== a call of the law: both answer alike ===== -/
set_option maxRecDepth 100000 in
set_option maxHeartbeats 4000000 in
theorem lc_row {E : QE} {p : Program} {l : Launch} {e : Env} {s : State} {m : MethodId} {below : List Frame} {meth : Method} {c : Code} {b L : Nat} {xs : Nat → Int32} (C : Cx E p s m #[Value.ref b] meth c cL_law 4 (some .boolean) "CalledStallsLaw") (hX : va_X b L xs s s.heap) (hbl : b < s.heap.size) (hbA : ¬ qA E b) (hL : L ≤ 384) {σ τ : QS} {k : Nat} (hI : Inv σ τ) (hk : k + 6 ≤ L) (K : ∀ σ' τ' : QS, Inv σ' τ' → ZL E p l e s m below meth c b σ' τ' 1215 k []) : ZL E p l e s m below meth c b σ τ 216 k [] := by
  obtain ⟨r, σ', τ', h4, h5, hI'⟩ := row_same hI (xs (k + 1)) (xs (k + 2))
  refine z_aload_n C dL_law_216 rfl 2 rfl ?_
  refine z_arg C hX hbl hbA hL hk (j := 1) (by decide) rfl rfl (by decide) dL_law_217 dL_law_218 dL_law_219 dL_law_220 dL_law_221 ?_
  refine z_arg C hX hbl hbA hL hk (j := 2) (by decide) rfl rfl (by decide) dL_law_222 dL_law_223 dL_law_224 dL_law_225 dL_law_226 ?_
  refine z_cVi C (kX4_row_0 l E σ τ _ _ _ h4) vi_X4_row ml_L_13 ⟨4, _, o0, rfl, rfl⟩ rfl ⟨rfl, rfl, Nat.le_of_ble_eq_true rfl, Nat.le_of_ble_eq_true rfl⟩ (Nat.le_refl _) (Nat.le_refl _) dL_law_227 rfl (Nat.le_of_ble_eq_true rfl) ?_
  refine z_aload_n C dL_law_230 rfl 3 rfl ?_
  refine z_arg C hX hbl hbA hL hk (j := 1) (by decide) rfl rfl (by decide) dL_law_231 dL_law_232 dL_law_233 dL_law_234 dL_law_235 ?_
  refine z_arg C hX hbl hbA hL hk (j := 2) (by decide) rfl rfl (by decide) dL_law_236 dL_law_237 dL_law_238 dL_law_239 dL_law_240 ?_
  refine z_cVi C (kX5_row_50 l E σ' τ _ _ _ h5) vi_X5_row ml_L_17 ⟨5, _, o50, rfl, rfl⟩ rfl ⟨rfl, rfl, Nat.le_of_ble_eq_true rfl, Nat.le_of_ble_eq_true rfl⟩ (Nat.le_refl _) (Nat.le_refl _) dL_law_241 rfl (Nat.le_of_ble_eq_true rfl) ?_
  exact z_icmp_eq C 1215 dL_law_244 (by decide) (fun _ => K σ' τ' hI') (fun h => absurd rfl h)
set_option maxRecDepth 100000 in
set_option maxHeartbeats 4000000 in
theorem lc_lay {E : QE} {p : Program} {l : Launch} {e : Env} {s : State} {m : MethodId} {below : List Frame} {meth : Method} {c : Code} {b L : Nat} {xs : Nat → Int32} (C : Cx E p s m #[Value.ref b] meth c cL_law 4 (some .boolean) "CalledStallsLaw") (hX : va_X b L xs s s.heap) (hbl : b < s.heap.size) (hbA : ¬ qA E b) (hL : L ≤ 384) {σ τ : QS} {k : Nat} (hI : Inv σ τ) (hk : k + 6 ≤ L) (K : ∀ σ' τ' : QS, Inv σ' τ' → ZL E p l e s m below meth c b σ' τ' 1215 k []) : ZL E p l e s m below meth c b σ τ 249 k [] := by
  obtain ⟨r, σ', τ', h4, h5, hI'⟩ := lay_same hI (xs (k + 1)) (xs (k + 2)) (xs (k + 3))
  refine z_aload_n C dL_law_249 rfl 2 rfl ?_
  refine z_arg C hX hbl hbA hL hk (j := 1) (by decide) rfl rfl (by decide) dL_law_250 dL_law_251 dL_law_252 dL_law_253 dL_law_254 ?_
  refine z_arg C hX hbl hbA hL hk (j := 2) (by decide) rfl rfl (by decide) dL_law_255 dL_law_256 dL_law_257 dL_law_258 dL_law_259 ?_
  refine z_arg C hX hbl hbA hL hk (j := 3) (by decide) rfl rfl (by decide) dL_law_260 dL_law_261 dL_law_262 dL_law_263 dL_law_264 ?_
  refine z_cVi C (kX4_lay_0 l E σ τ _ _ _ _ h4) vi_X4_lay ml_L_18 ⟨4, _, o0, rfl, rfl⟩ rfl ⟨rfl, rfl, Nat.le_of_ble_eq_true rfl, Nat.le_of_ble_eq_true rfl⟩ (Nat.le_refl _) (Nat.le_refl _) dL_law_265 rfl (Nat.le_of_ble_eq_true rfl) ?_
  refine z_aload_n C dL_law_268 rfl 3 rfl ?_
  refine z_arg C hX hbl hbA hL hk (j := 1) (by decide) rfl rfl (by decide) dL_law_269 dL_law_270 dL_law_271 dL_law_272 dL_law_273 ?_
  refine z_arg C hX hbl hbA hL hk (j := 2) (by decide) rfl rfl (by decide) dL_law_274 dL_law_275 dL_law_276 dL_law_277 dL_law_278 ?_
  refine z_arg C hX hbl hbA hL hk (j := 3) (by decide) rfl rfl (by decide) dL_law_279 dL_law_280 dL_law_281 dL_law_282 dL_law_283 ?_
  refine z_cVi C (kX5_lay_50 l E σ' τ _ _ _ _ h5) vi_X5_lay ml_L_22 ⟨5, _, o50, rfl, rfl⟩ rfl ⟨rfl, rfl, Nat.le_of_ble_eq_true rfl, Nat.le_of_ble_eq_true rfl⟩ (Nat.le_refl _) (Nat.le_refl _) dL_law_284 rfl (Nat.le_of_ble_eq_true rfl) ?_
  exact z_icmp_eq C 1215 dL_law_287 (by decide) (fun _ => K σ' τ' hI') (fun h => absurd rfl h)
set_option maxRecDepth 100000 in
set_option maxHeartbeats 4000000 in
theorem lc_at {E : QE} {p : Program} {l : Launch} {e : Env} {s : State} {m : MethodId} {below : List Frame} {meth : Method} {c : Code} {b L : Nat} {xs : Nat → Int32} (C : Cx E p s m #[Value.ref b] meth c cL_law 4 (some .boolean) "CalledStallsLaw") (hX : va_X b L xs s s.heap) (hbl : b < s.heap.size) (hbA : ¬ qA E b) (hL : L ≤ 384) {σ τ : QS} {k : Nat} (hI : Inv σ τ) (hk : k + 6 ≤ L) (K : ∀ σ' τ' : QS, Inv σ' τ' → ZL E p l e s m below meth c b σ' τ' 1215 k []) : ZL E p l e s m below meth c b σ τ 292 k [] := by
  obtain ⟨r, σ', τ', h4, h5, hI'⟩ := at_same hI (xs (k + 1)) (xs (k + 2))
  refine z_aload_n C dL_law_292 rfl 2 rfl ?_
  refine z_arg C hX hbl hbA hL hk (j := 1) (by decide) rfl rfl (by decide) dL_law_293 dL_law_294 dL_law_295 dL_law_296 dL_law_297 ?_
  refine z_arg C hX hbl hbA hL hk (j := 2) (by decide) rfl rfl (by decide) dL_law_298 dL_law_299 dL_law_300 dL_law_301 dL_law_302 ?_
  refine z_cVi C (kX4_at_0 l E σ τ _ _ _ h4) vi_X4_at ml_L_23 ⟨4, _, o0, rfl, rfl⟩ rfl ⟨rfl, rfl, Nat.le_of_ble_eq_true rfl, Nat.le_of_ble_eq_true rfl⟩ (Nat.le_refl _) (Nat.le_refl _) dL_law_303 rfl (Nat.le_of_ble_eq_true rfl) ?_
  refine z_aload_n C dL_law_306 rfl 3 rfl ?_
  refine z_arg C hX hbl hbA hL hk (j := 1) (by decide) rfl rfl (by decide) dL_law_307 dL_law_308 dL_law_309 dL_law_310 dL_law_311 ?_
  refine z_arg C hX hbl hbA hL hk (j := 2) (by decide) rfl rfl (by decide) dL_law_312 dL_law_313 dL_law_314 dL_law_315 dL_law_316 ?_
  refine z_cVi C (kX5_at_50 l E σ' τ _ _ _ h5) vi_X5_at ml_L_26 ⟨5, _, o50, rfl, rfl⟩ rfl ⟨rfl, rfl, Nat.le_of_ble_eq_true rfl, Nat.le_of_ble_eq_true rfl⟩ (Nat.le_refl _) (Nat.le_refl _) dL_law_317 rfl (Nat.le_of_ble_eq_true rfl) ?_
  exact z_icmp_eq C 1215 dL_law_320 (by decide) (fun _ => K σ' τ' hI') (fun h => absurd rfl h)
set_option maxRecDepth 100000 in
set_option maxHeartbeats 4000000 in
theorem lc_tear {E : QE} {p : Program} {l : Launch} {e : Env} {s : State} {m : MethodId} {below : List Frame} {meth : Method} {c : Code} {b L : Nat} {xs : Nat → Int32} (C : Cx E p s m #[Value.ref b] meth c cL_law 4 (some .boolean) "CalledStallsLaw") (hX : va_X b L xs s s.heap) (hbl : b < s.heap.size) (hbA : ¬ qA E b) (hL : L ≤ 384) {σ τ : QS} {k : Nat} (hI : Inv σ τ) (hk : k + 6 ≤ L) (K : ∀ σ' τ' : QS, Inv σ' τ' → ZL E p l e s m below meth c b σ' τ' 1215 k []) : ZL E p l e s m below meth c b σ τ 325 k [] := by
  obtain ⟨r, σ', τ', h4, h5, hI'⟩ := tear_same hI (xs (k + 1))
  refine z_aload_n C dL_law_325 rfl 2 rfl ?_
  refine z_arg C hX hbl hbA hL hk (j := 1) (by decide) rfl rfl (by decide) dL_law_326 dL_law_327 dL_law_328 dL_law_329 dL_law_330 ?_
  refine z_cVi C (kX4_tear_0 l E σ τ _ _ h4) vi_X4_tear ml_L_27 ⟨4, _, o0, rfl, rfl⟩ rfl ⟨rfl, rfl, Nat.le_of_ble_eq_true rfl, Nat.le_of_ble_eq_true rfl⟩ (Nat.le_refl _) (Nat.le_refl _) dL_law_331 rfl (Nat.le_of_ble_eq_true rfl) ?_
  refine z_aload_n C dL_law_334 rfl 3 rfl ?_
  refine z_arg C hX hbl hbA hL hk (j := 1) (by decide) rfl rfl (by decide) dL_law_335 dL_law_336 dL_law_337 dL_law_338 dL_law_339 ?_
  refine z_cVi C (kX5_tear_50 l E σ' τ _ _ h5) vi_X5_tear ml_L_31 ⟨5, _, o50, rfl, rfl⟩ rfl ⟨rfl, rfl, Nat.le_of_ble_eq_true rfl, Nat.le_of_ble_eq_true rfl⟩ (Nat.le_refl _) (Nat.le_refl _) dL_law_340 rfl (Nat.le_of_ble_eq_true rfl) ?_
  exact z_icmp_eq C 1215 dL_law_343 (by decide) (fun _ => K σ' τ' hI') (fun h => absurd rfl h)
set_option maxRecDepth 100000 in
set_option maxHeartbeats 4000000 in
theorem lc_copy {E : QE} {p : Program} {l : Launch} {e : Env} {s : State} {m : MethodId} {below : List Frame} {meth : Method} {c : Code} {b L : Nat} {xs : Nat → Int32} (C : Cx E p s m #[Value.ref b] meth c cL_law 4 (some .boolean) "CalledStallsLaw") (hX : va_X b L xs s s.heap) (hbl : b < s.heap.size) (hbA : ¬ qA E b) (hL : L ≤ 384) {σ τ : QS} {k : Nat} (hI : Inv σ τ) (hk : k + 6 ≤ L) (K : ∀ σ' τ' : QS, Inv σ' τ' → ZL E p l e s m below meth c b σ' τ' 1215 k []) : ZL E p l e s m below meth c b σ τ 348 k [] := by
  obtain ⟨r, σ', τ', h4, h5, hI'⟩ := copy_same hI (xs (k + 1)) (xs (k + 2)) (xs (k + 3)) (xs (k + 4)) (xs (k + 5))
  refine z_aload_n C dL_law_348 rfl 2 rfl ?_
  refine z_arg C hX hbl hbA hL hk (j := 1) (by decide) rfl rfl (by decide) dL_law_349 dL_law_350 dL_law_351 dL_law_352 dL_law_353 ?_
  refine z_arg C hX hbl hbA hL hk (j := 2) (by decide) rfl rfl (by decide) dL_law_354 dL_law_355 dL_law_356 dL_law_357 dL_law_358 ?_
  refine z_arg C hX hbl hbA hL hk (j := 3) (by decide) rfl rfl (by decide) dL_law_359 dL_law_360 dL_law_361 dL_law_362 dL_law_363 ?_
  refine z_arg C hX hbl hbA hL hk (j := 4) (by decide) rfl rfl (by decide) dL_law_364 dL_law_365 dL_law_366 dL_law_367 dL_law_368 ?_
  refine z_arg C hX hbl hbA hL hk (j := 5) (by decide) rfl rfl (by decide) dL_law_369 dL_law_370 dL_law_371 dL_law_372 dL_law_373 ?_
  refine z_cVi C (kX4_copy_0 l E σ τ _ _ _ _ _ _ h4) vi_X4_copy ml_L_32 ⟨4, _, o0, rfl, rfl⟩ rfl ⟨rfl, rfl, Nat.le_of_ble_eq_true rfl, Nat.le_of_ble_eq_true rfl⟩ (Nat.le_refl _) (Nat.le_refl _) dL_law_374 rfl (Nat.le_of_ble_eq_true rfl) ?_
  refine z_aload_n C dL_law_377 rfl 3 rfl ?_
  refine z_arg C hX hbl hbA hL hk (j := 1) (by decide) rfl rfl (by decide) dL_law_378 dL_law_379 dL_law_380 dL_law_381 dL_law_382 ?_
  refine z_arg C hX hbl hbA hL hk (j := 2) (by decide) rfl rfl (by decide) dL_law_383 dL_law_384 dL_law_385 dL_law_386 dL_law_387 ?_
  refine z_arg C hX hbl hbA hL hk (j := 3) (by decide) rfl rfl (by decide) dL_law_388 dL_law_389 dL_law_390 dL_law_391 dL_law_392 ?_
  refine z_arg C hX hbl hbA hL hk (j := 4) (by decide) rfl rfl (by decide) dL_law_393 dL_law_394 dL_law_395 dL_law_396 dL_law_397 ?_
  refine z_arg C hX hbl hbA hL hk (j := 5) (by decide) rfl rfl (by decide) dL_law_398 dL_law_399 dL_law_400 dL_law_401 dL_law_402 ?_
  refine z_cVi C (kX5_copy_50 l E σ' τ _ _ _ _ _ _ h5) vi_X5_copy ml_L_36 ⟨5, _, o50, rfl, rfl⟩ rfl ⟨rfl, rfl, Nat.le_of_ble_eq_true rfl, Nat.le_of_ble_eq_true rfl⟩ (Nat.le_refl _) (Nat.le_refl _) dL_law_403 rfl (Nat.le_of_ble_eq_true rfl) ?_
  exact z_icmp_eq C 1215 dL_law_406 (by decide) (fun _ => K σ' τ' hI') (fun h => absurd rfl h)
set_option maxRecDepth 100000 in
set_option maxHeartbeats 4000000 in
theorem lc_mean {E : QE} {p : Program} {l : Launch} {e : Env} {s : State} {m : MethodId} {below : List Frame} {meth : Method} {c : Code} {b L : Nat} {xs : Nat → Int32} (C : Cx E p s m #[Value.ref b] meth c cL_law 4 (some .boolean) "CalledStallsLaw") (hX : va_X b L xs s s.heap) (hbl : b < s.heap.size) (hbA : ¬ qA E b) (hL : L ≤ 384) {σ τ : QS} {k : Nat} (hI : Inv σ τ) (hk : k + 6 ≤ L) (K : ∀ σ' τ' : QS, Inv σ' τ' → ZL E p l e s m below meth c b σ' τ' 1215 k []) : ZL E p l e s m below meth c b σ τ 411 k [] := by
  obtain ⟨r, σ', τ', h4, h5, hI'⟩ := mean_same hI (xs (k + 1))
  refine z_aload_n C dL_law_411 rfl 2 rfl ?_
  refine z_arg C hX hbl hbA hL hk (j := 1) (by decide) rfl rfl (by decide) dL_law_412 dL_law_413 dL_law_414 dL_law_415 dL_law_416 ?_
  refine z_cVi C (kX4_mean_0 l E σ τ _ _ h4) vi_X4_mean ml_L_37 ⟨4, _, o0, rfl, rfl⟩ rfl ⟨rfl, rfl, Nat.le_of_ble_eq_true rfl, Nat.le_of_ble_eq_true rfl⟩ (Nat.le_refl _) (Nat.le_refl _) dL_law_417 rfl (Nat.le_of_ble_eq_true rfl) ?_
  refine z_aload_n C dL_law_420 rfl 3 rfl ?_
  refine z_arg C hX hbl hbA hL hk (j := 1) (by decide) rfl rfl (by decide) dL_law_421 dL_law_422 dL_law_423 dL_law_424 dL_law_425 ?_
  refine z_cVi C (kX5_mean_50 l E σ' τ _ _ h5) vi_X5_mean ml_L_40 ⟨5, _, o50, rfl, rfl⟩ rfl ⟨rfl, rfl, Nat.le_of_ble_eq_true rfl, Nat.le_of_ble_eq_true rfl⟩ (Nat.le_refl _) (Nat.le_refl _) dL_law_426 rfl (Nat.le_of_ble_eq_true rfl) ?_
  exact z_icmp_eq C 1215 dL_law_429 (by decide) (fun _ => K σ' τ' hI') (fun h => absurd rfl h)
set_option maxRecDepth 100000 in
set_option maxHeartbeats 4000000 in
theorem lc_text {E : QE} {p : Program} {l : Launch} {e : Env} {s : State} {m : MethodId} {below : List Frame} {meth : Method} {c : Code} {b L : Nat} {xs : Nat → Int32} (C : Cx E p s m #[Value.ref b] meth c cL_law 4 (some .boolean) "CalledStallsLaw") (hX : va_X b L xs s s.heap) (hbl : b < s.heap.size) (hbA : ¬ qA E b) (hL : L ≤ 384) {σ τ : QS} {k : Nat} (hI : Inv σ τ) (hk : k + 6 ≤ L) (K : ∀ σ' τ' : QS, Inv σ' τ' → ZL E p l e s m below meth c b σ' τ' 1215 k []) : ZL E p l e s m below meth c b σ τ 434 k [] := by
  obtain ⟨r, σ', τ', h4, h5, hI'⟩ := text_same hI (xs (k + 1)) (xs (k + 2))
  refine z_aload_n C dL_law_434 rfl 2 rfl ?_
  refine z_arg C hX hbl hbA hL hk (j := 1) (by decide) rfl rfl (by decide) dL_law_435 dL_law_436 dL_law_437 dL_law_438 dL_law_439 ?_
  refine z_arg C hX hbl hbA hL hk (j := 2) (by decide) rfl rfl (by decide) dL_law_440 dL_law_441 dL_law_442 dL_law_443 dL_law_444 ?_
  refine z_cVi C (kX4_text_0 l E σ τ _ _ _ h4) vi_X4_text ml_L_41 ⟨4, _, o0, rfl, rfl⟩ rfl ⟨rfl, rfl, Nat.le_of_ble_eq_true rfl, Nat.le_of_ble_eq_true rfl⟩ (Nat.le_refl _) (Nat.le_refl _) dL_law_445 rfl (Nat.le_of_ble_eq_true rfl) ?_
  refine z_aload_n C dL_law_448 rfl 3 rfl ?_
  refine z_arg C hX hbl hbA hL hk (j := 1) (by decide) rfl rfl (by decide) dL_law_449 dL_law_450 dL_law_451 dL_law_452 dL_law_453 ?_
  refine z_arg C hX hbl hbA hL hk (j := 2) (by decide) rfl rfl (by decide) dL_law_454 dL_law_455 dL_law_456 dL_law_457 dL_law_458 ?_
  refine z_cVi C (kX5_text_50 l E σ' τ _ _ _ h5) vi_X5_text ml_L_44 ⟨5, _, o50, rfl, rfl⟩ rfl ⟨rfl, rfl, Nat.le_of_ble_eq_true rfl, Nat.le_of_ble_eq_true rfl⟩ (Nat.le_refl _) (Nat.le_refl _) dL_law_459 rfl (Nat.le_of_ble_eq_true rfl) ?_
  exact z_icmp_eq C 1215 dL_law_462 (by decide) (fun _ => K σ' τ' hI') (fun h => absurd rfl h)
set_option maxRecDepth 100000 in
set_option maxHeartbeats 4000000 in
theorem lc_put {E : QE} {p : Program} {l : Launch} {e : Env} {s : State} {m : MethodId} {below : List Frame} {meth : Method} {c : Code} {b L : Nat} {xs : Nat → Int32} (C : Cx E p s m #[Value.ref b] meth c cL_law 4 (some .boolean) "CalledStallsLaw") (hX : va_X b L xs s s.heap) (hbl : b < s.heap.size) (hbA : ¬ qA E b) (hL : L ≤ 384) {σ τ : QS} {k : Nat} (hI : Inv σ τ) (hk : k + 6 ≤ L) (K : ∀ σ' τ' : QS, Inv σ' τ' → ZL E p l e s m below meth c b σ' τ' 1215 k []) : ZL E p l e s m below meth c b σ τ 467 k [] := by
  obtain ⟨r, σ', τ', h4, h5, hI'⟩ := put_same hI (xs (k + 1)) (xs (k + 2)) (xs (k + 3))
  refine z_aload_n C dL_law_467 rfl 2 rfl ?_
  refine z_arg C hX hbl hbA hL hk (j := 1) (by decide) rfl rfl (by decide) dL_law_468 dL_law_469 dL_law_470 dL_law_471 dL_law_472 ?_
  refine z_arg C hX hbl hbA hL hk (j := 2) (by decide) rfl rfl (by decide) dL_law_473 dL_law_474 dL_law_475 dL_law_476 dL_law_477 ?_
  refine z_arg C hX hbl hbA hL hk (j := 3) (by decide) rfl rfl (by decide) dL_law_478 dL_law_479 dL_law_480 dL_law_481 dL_law_482 ?_
  refine z_cVi C (kX4_put_0 l E σ τ _ _ _ _ h4) vi_X4_put ml_L_45 ⟨4, _, o0, rfl, rfl⟩ rfl ⟨rfl, rfl, Nat.le_of_ble_eq_true rfl, Nat.le_of_ble_eq_true rfl⟩ (Nat.le_refl _) (Nat.le_refl _) dL_law_483 rfl (Nat.le_of_ble_eq_true rfl) ?_
  refine z_aload_n C dL_law_486 rfl 3 rfl ?_
  refine z_arg C hX hbl hbA hL hk (j := 1) (by decide) rfl rfl (by decide) dL_law_487 dL_law_488 dL_law_489 dL_law_490 dL_law_491 ?_
  refine z_arg C hX hbl hbA hL hk (j := 2) (by decide) rfl rfl (by decide) dL_law_492 dL_law_493 dL_law_494 dL_law_495 dL_law_496 ?_
  refine z_arg C hX hbl hbA hL hk (j := 3) (by decide) rfl rfl (by decide) dL_law_497 dL_law_498 dL_law_499 dL_law_500 dL_law_501 ?_
  refine z_cVi C (kX5_put_50 l E σ' τ _ _ _ _ h5) vi_X5_put ml_L_48 ⟨5, _, o50, rfl, rfl⟩ rfl ⟨rfl, rfl, Nat.le_of_ble_eq_true rfl, Nat.le_of_ble_eq_true rfl⟩ (Nat.le_refl _) (Nat.le_refl _) dL_law_502 rfl (Nat.le_of_ble_eq_true rfl) ?_
  exact z_icmp_eq C 1215 dL_law_505 (by decide) (fun _ => K σ' τ' hI') (fun h => absurd rfl h)
set_option maxRecDepth 100000 in
set_option maxHeartbeats 4000000 in
theorem lc_fault {E : QE} {p : Program} {l : Launch} {e : Env} {s : State} {m : MethodId} {below : List Frame} {meth : Method} {c : Code} {b L : Nat} {xs : Nat → Int32} (C : Cx E p s m #[Value.ref b] meth c cL_law 4 (some .boolean) "CalledStallsLaw") (hX : va_X b L xs s s.heap) (hbl : b < s.heap.size) (hbA : ¬ qA E b) (hL : L ≤ 384) {σ τ : QS} {k : Nat} (hI : Inv σ τ) (hk : k + 6 ≤ L) (K : ∀ σ' τ' : QS, Inv σ' τ' → ZL E p l e s m below meth c b σ' τ' 1215 k []) : ZL E p l e s m below meth c b σ τ 510 k [] := by
  obtain ⟨r, σ', τ', h4, h5, hI'⟩ := fault_same hI (xs (k + 1))
  refine z_aload_n C dL_law_510 rfl 2 rfl ?_
  refine z_arg C hX hbl hbA hL hk (j := 1) (by decide) rfl rfl (by decide) dL_law_511 dL_law_512 dL_law_513 dL_law_514 dL_law_515 ?_
  refine z_cVi C (kX4_fault_0 l E σ τ _ _ h4) vi_X4_fault ml_L_49 ⟨4, _, o0, rfl, rfl⟩ rfl ⟨rfl, rfl, Nat.le_of_ble_eq_true rfl, Nat.le_of_ble_eq_true rfl⟩ (Nat.le_refl _) (Nat.le_refl _) dL_law_516 rfl (Nat.le_of_ble_eq_true rfl) ?_
  refine z_aload_n C dL_law_519 rfl 3 rfl ?_
  refine z_arg C hX hbl hbA hL hk (j := 1) (by decide) rfl rfl (by decide) dL_law_520 dL_law_521 dL_law_522 dL_law_523 dL_law_524 ?_
  refine z_cVi C (kX5_fault_50 l E σ' τ _ _ h5) vi_X5_fault ml_L_52 ⟨5, _, o50, rfl, rfl⟩ rfl ⟨rfl, rfl, Nat.le_of_ble_eq_true rfl, Nat.le_of_ble_eq_true rfl⟩ (Nat.le_refl _) (Nat.le_refl _) dL_law_525 rfl (Nat.le_of_ble_eq_true rfl) ?_
  exact z_icmp_eq C 1215 dL_law_528 (by decide) (fun _ => K σ' τ' hI') (fun h => absurd rfl h)
set_option maxRecDepth 100000 in
set_option maxHeartbeats 4000000 in
theorem lc_house {E : QE} {p : Program} {l : Launch} {e : Env} {s : State} {m : MethodId} {below : List Frame} {meth : Method} {c : Code} {b L : Nat} {xs : Nat → Int32} (C : Cx E p s m #[Value.ref b] meth c cL_law 4 (some .boolean) "CalledStallsLaw") (hX : va_X b L xs s s.heap) (hbl : b < s.heap.size) (hbA : ¬ qA E b) (hL : L ≤ 384) {σ τ : QS} {k : Nat} (hI : Inv σ τ) (hk : k + 6 ≤ L) (K : ∀ σ' τ' : QS, Inv σ' τ' → ZL E p l e s m below meth c b σ' τ' 1215 k []) : ZL E p l e s m below meth c b σ τ 533 k [] := by
  obtain ⟨r, σ', τ', h4, h5, hI'⟩ := house_same hI (xs (k + 1))
  refine z_aload_n C dL_law_533 rfl 2 rfl ?_
  refine z_arg C hX hbl hbA hL hk (j := 1) (by decide) rfl rfl (by decide) dL_law_534 dL_law_535 dL_law_536 dL_law_537 dL_law_538 ?_
  refine z_cVi C (kX4_house_0 l E σ τ _ _ h4) vi_X4_house ml_L_53 ⟨4, _, o0, rfl, rfl⟩ rfl ⟨rfl, rfl, Nat.le_of_ble_eq_true rfl, Nat.le_of_ble_eq_true rfl⟩ (Nat.le_refl _) (Nat.le_refl _) dL_law_539 rfl (Nat.le_of_ble_eq_true rfl) ?_
  refine z_aload_n C dL_law_542 rfl 3 rfl ?_
  refine z_arg C hX hbl hbA hL hk (j := 1) (by decide) rfl rfl (by decide) dL_law_543 dL_law_544 dL_law_545 dL_law_546 dL_law_547 ?_
  refine z_cVi C (kX5_house_50 l E σ' τ _ _ h5) vi_X5_house ml_L_56 ⟨5, _, o50, rfl, rfl⟩ rfl ⟨rfl, rfl, Nat.le_of_ble_eq_true rfl, Nat.le_of_ble_eq_true rfl⟩ (Nat.le_refl _) (Nat.le_refl _) dL_law_548 rfl (Nat.le_of_ble_eq_true rfl) ?_
  exact z_icmp_eq C 1215 dL_law_551 (by decide) (fun _ => K σ' τ' hI') (fun h => absurd rfl h)
set_option maxRecDepth 100000 in
set_option maxHeartbeats 4000000 in
theorem lc_sitter {E : QE} {p : Program} {l : Launch} {e : Env} {s : State} {m : MethodId} {below : List Frame} {meth : Method} {c : Code} {b L : Nat} {xs : Nat → Int32} (C : Cx E p s m #[Value.ref b] meth c cL_law 4 (some .boolean) "CalledStallsLaw") (hX : va_X b L xs s s.heap) (hbl : b < s.heap.size) (hbA : ¬ qA E b) (hL : L ≤ 384) {σ τ : QS} {k : Nat} (hI : Inv σ τ) (hk : k + 6 ≤ L) (K : ∀ σ' τ' : QS, Inv σ' τ' → ZL E p l e s m below meth c b σ' τ' 1215 k []) : ZL E p l e s m below meth c b σ τ 556 k [] := by
  obtain ⟨r, σ', τ', h4, h5, hI'⟩ := sitter_same hI (xs (k + 1)) (xs (k + 2))
  refine z_aload_n C dL_law_556 rfl 2 rfl ?_
  refine z_arg C hX hbl hbA hL hk (j := 1) (by decide) rfl rfl (by decide) dL_law_557 dL_law_558 dL_law_559 dL_law_560 dL_law_561 ?_
  refine z_arg C hX hbl hbA hL hk (j := 2) (by decide) rfl rfl (by decide) dL_law_562 dL_law_563 dL_law_564 dL_law_565 dL_law_566 ?_
  refine z_cVi C (kX4_sitter_0 l E σ τ _ _ _ h4) vi_X4_sitter ml_L_57 ⟨4, _, o0, rfl, rfl⟩ rfl ⟨rfl, rfl, Nat.le_of_ble_eq_true rfl, Nat.le_of_ble_eq_true rfl⟩ (Nat.le_refl _) (Nat.le_refl _) dL_law_567 rfl (Nat.le_of_ble_eq_true rfl) ?_
  refine z_aload_n C dL_law_570 rfl 3 rfl ?_
  refine z_arg C hX hbl hbA hL hk (j := 1) (by decide) rfl rfl (by decide) dL_law_571 dL_law_572 dL_law_573 dL_law_574 dL_law_575 ?_
  refine z_arg C hX hbl hbA hL hk (j := 2) (by decide) rfl rfl (by decide) dL_law_576 dL_law_577 dL_law_578 dL_law_579 dL_law_580 ?_
  refine z_cVi C (kX5_sitter_50 l E σ' τ _ _ _ h5) vi_X5_sitter ml_L_60 ⟨5, _, o50, rfl, rfl⟩ rfl ⟨rfl, rfl, Nat.le_of_ble_eq_true rfl, Nat.le_of_ble_eq_true rfl⟩ (Nat.le_refl _) (Nat.le_refl _) dL_law_581 rfl (Nat.le_of_ble_eq_true rfl) ?_
  exact z_icmp_eq C 1215 dL_law_584 (by decide) (fun _ => K σ' τ' hI') (fun h => absurd rfl h)
set_option maxRecDepth 100000 in
set_option maxHeartbeats 4000000 in
theorem lc_mark {E : QE} {p : Program} {l : Launch} {e : Env} {s : State} {m : MethodId} {below : List Frame} {meth : Method} {c : Code} {b L : Nat} {xs : Nat → Int32} (C : Cx E p s m #[Value.ref b] meth c cL_law 4 (some .boolean) "CalledStallsLaw") (hX : va_X b L xs s s.heap) (hbl : b < s.heap.size) (hbA : ¬ qA E b) (hL : L ≤ 384) {σ τ : QS} {k : Nat} (hI : Inv σ τ) (hk : k + 6 ≤ L) (K : ∀ σ' τ' : QS, Inv σ' τ' → ZL E p l e s m below meth c b σ' τ' 1215 k []) : ZL E p l e s m below meth c b σ τ 589 k [] := by
  obtain ⟨r, σ', τ', h4, h5, hI'⟩ := mark_same hI (xs (k + 1)) (xs (k + 2))
  refine z_aload_n C dL_law_589 rfl 2 rfl ?_
  refine z_arg C hX hbl hbA hL hk (j := 1) (by decide) rfl rfl (by decide) dL_law_590 dL_law_591 dL_law_592 dL_law_593 dL_law_594 ?_
  refine z_arg C hX hbl hbA hL hk (j := 2) (by decide) rfl rfl (by decide) dL_law_595 dL_law_596 dL_law_597 dL_law_598 dL_law_599 ?_
  refine z_cVi C (kX4_mark_0 l E σ τ _ _ _ h4) vi_X4_mark ml_L_61 ⟨4, _, o0, rfl, rfl⟩ rfl ⟨rfl, rfl, Nat.le_of_ble_eq_true rfl, Nat.le_of_ble_eq_true rfl⟩ (Nat.le_refl _) (Nat.le_refl _) dL_law_600 rfl (Nat.le_of_ble_eq_true rfl) ?_
  refine z_aload_n C dL_law_603 rfl 3 rfl ?_
  refine z_arg C hX hbl hbA hL hk (j := 1) (by decide) rfl rfl (by decide) dL_law_604 dL_law_605 dL_law_606 dL_law_607 dL_law_608 ?_
  refine z_arg C hX hbl hbA hL hk (j := 2) (by decide) rfl rfl (by decide) dL_law_609 dL_law_610 dL_law_611 dL_law_612 dL_law_613 ?_
  refine z_cVi C (kX5_mark_50 l E σ' τ _ _ _ h5) vi_X5_mark ml_L_64 ⟨5, _, o50, rfl, rfl⟩ rfl ⟨rfl, rfl, Nat.le_of_ble_eq_true rfl, Nat.le_of_ble_eq_true rfl⟩ (Nat.le_refl _) (Nat.le_refl _) dL_law_614 rfl (Nat.le_of_ble_eq_true rfl) ?_
  exact z_icmp_eq C 1215 dL_law_617 (by decide) (fun _ => K σ' τ' hI') (fun h => absurd rfl h)
set_option maxRecDepth 100000 in
set_option maxHeartbeats 4000000 in
theorem lc_lines {E : QE} {p : Program} {l : Launch} {e : Env} {s : State} {m : MethodId} {below : List Frame} {meth : Method} {c : Code} {b L : Nat} {xs : Nat → Int32} (C : Cx E p s m #[Value.ref b] meth c cL_law 4 (some .boolean) "CalledStallsLaw") (hX : va_X b L xs s s.heap) (hbl : b < s.heap.size) (hbA : ¬ qA E b) (hL : L ≤ 384) {σ τ : QS} {k : Nat} (hI : Inv σ τ) (hk : k + 6 ≤ L) (K : ∀ σ' τ' : QS, Inv σ' τ' → ZL E p l e s m below meth c b σ' τ' 1215 k []) : ZL E p l e s m below meth c b σ τ 622 k [] := by
  obtain ⟨r, h4, h5⟩ := lines_same hI (xs (k + 1))
  refine z_aload_n C dL_law_622 rfl 2 rfl ?_
  refine z_arg C hX hbl hbA hL hk (j := 1) (by decide) rfl rfl (by decide) dL_law_623 dL_law_624 dL_law_625 dL_law_626 dL_law_627 ?_
  refine z_cVi C (kX4_lines_0 l E σ τ _ _ h4) vi_X4_lines ml_L_65 ⟨4, _, o0, rfl, rfl⟩ rfl ⟨rfl, rfl, Nat.le_of_ble_eq_true rfl, Nat.le_of_ble_eq_true rfl⟩ (Nat.le_refl _) (Nat.le_refl _) dL_law_628 rfl (Nat.le_of_ble_eq_true rfl) ?_
  refine z_aload_n C dL_law_631 rfl 3 rfl ?_
  refine z_arg C hX hbl hbA hL hk (j := 1) (by decide) rfl rfl (by decide) dL_law_632 dL_law_633 dL_law_634 dL_law_635 dL_law_636 ?_
  refine z_cVi C (kX5_lines_50 l E σ τ _ _ h5) vi_X5_lines ml_L_68 ⟨5, _, o50, rfl, rfl⟩ rfl ⟨rfl, rfl, Nat.le_of_ble_eq_true rfl, Nat.le_of_ble_eq_true rfl⟩ (Nat.le_refl _) (Nat.le_refl _) dL_law_637 rfl (Nat.le_of_ble_eq_true rfl) ?_
  exact z_icmp_eq C 1215 dL_law_640 (by decide) (fun _ => K σ τ hI) (fun h => absurd rfl h)
set_option maxRecDepth 100000 in
set_option maxHeartbeats 4000000 in
theorem lc_call {E : QE} {p : Program} {l : Launch} {e : Env} {s : State} {m : MethodId} {below : List Frame} {meth : Method} {c : Code} {b L : Nat} {xs : Nat → Int32} (C : Cx E p s m #[Value.ref b] meth c cL_law 4 (some .boolean) "CalledStallsLaw") (hX : va_X b L xs s s.heap) (hbl : b < s.heap.size) (hbA : ¬ qA E b) (hL : L ≤ 384) {σ τ : QS} {k : Nat} (hI : Inv σ τ) (hk : k + 6 ≤ L) (K : ∀ σ' τ' : QS, Inv σ' τ' → ZL E p l e s m below meth c b σ' τ' 1215 k []) : ZL E p l e s m below meth c b σ τ 645 k [] := by
  obtain ⟨r, σ', τ', h4, h5, hI'⟩ := call_same hI (xs (k + 1))
  refine z_aload_n C dL_law_645 rfl 2 rfl ?_
  refine z_arg C hX hbl hbA hL hk (j := 1) (by decide) rfl rfl (by decide) dL_law_646 dL_law_647 dL_law_648 dL_law_649 dL_law_650 ?_
  refine z_cVi C (kX4_call_0 l E σ τ _ _ h4) vi_X4_call ml_L_69 ⟨4, _, o0, rfl, rfl⟩ rfl ⟨rfl, rfl, Nat.le_of_ble_eq_true rfl, Nat.le_of_ble_eq_true rfl⟩ (Nat.le_refl _) (Nat.le_refl _) dL_law_651 rfl (Nat.le_of_ble_eq_true rfl) ?_
  refine z_aload_n C dL_law_654 rfl 3 rfl ?_
  refine z_arg C hX hbl hbA hL hk (j := 1) (by decide) rfl rfl (by decide) dL_law_655 dL_law_656 dL_law_657 dL_law_658 dL_law_659 ?_
  refine z_cVi C (kX5_call_50 l E σ' τ _ _ h5) vi_X5_call ml_L_72 ⟨5, _, o50, rfl, rfl⟩ rfl ⟨rfl, rfl, Nat.le_of_ble_eq_true rfl, Nat.le_of_ble_eq_true rfl⟩ (Nat.le_refl _) (Nat.le_refl _) dL_law_660 rfl (Nat.le_of_ble_eq_true rfl) ?_
  exact z_icmp_eq C 1215 dL_law_663 (by decide) (fun _ => K σ' τ' hI') (fun h => absurd rfl h)
set_option maxRecDepth 100000 in
set_option maxHeartbeats 4000000 in
theorem lc_cut {E : QE} {p : Program} {l : Launch} {e : Env} {s : State} {m : MethodId} {below : List Frame} {meth : Method} {c : Code} {b L : Nat} {xs : Nat → Int32} (C : Cx E p s m #[Value.ref b] meth c cL_law 4 (some .boolean) "CalledStallsLaw") (hX : va_X b L xs s s.heap) (hbl : b < s.heap.size) (hbA : ¬ qA E b) (hL : L ≤ 384) {σ τ : QS} {k : Nat} (hI : Inv σ τ) (hk : k + 6 ≤ L) (K : ∀ σ' τ' : QS, Inv σ' τ' → ZL E p l e s m below meth c b σ' τ' 1215 k []) : ZL E p l e s m below meth c b σ τ 668 k [] := by
  obtain ⟨r, σ', τ', h4, h5, hI'⟩ := cut_same hI 
  refine z_aload_n C dL_law_668 rfl 2 rfl ?_
  refine z_cVi C (kX4_cut_0 l E σ τ  _ h4) vi_X4_cut ml_L_73 ⟨4, _, o0, rfl, rfl⟩ rfl ⟨rfl, rfl, Nat.le_of_ble_eq_true rfl, Nat.le_of_ble_eq_true rfl⟩ (Nat.le_refl _) (Nat.le_refl _) dL_law_669 rfl (Nat.le_of_ble_eq_true rfl) ?_
  refine z_aload_n C dL_law_672 rfl 3 rfl ?_
  refine z_cVi C (kX5_cut_50 l E σ' τ  _ h5) vi_X5_cut ml_L_77 ⟨5, _, o50, rfl, rfl⟩ rfl ⟨rfl, rfl, Nat.le_of_ble_eq_true rfl, Nat.le_of_ble_eq_true rfl⟩ (Nat.le_refl _) (Nat.le_refl _) dL_law_673 rfl (Nat.le_of_ble_eq_true rfl) ?_
  exact z_icmp_eq C 1215 dL_law_676 (by decide) (fun _ => K σ' τ' hI') (fun h => absurd rfl h)
set_option maxRecDepth 100000 in
set_option maxHeartbeats 4000000 in
theorem lc_change {E : QE} {p : Program} {l : Launch} {e : Env} {s : State} {m : MethodId} {below : List Frame} {meth : Method} {c : Code} {b L : Nat} {xs : Nat → Int32} (C : Cx E p s m #[Value.ref b] meth c cL_law 4 (some .boolean) "CalledStallsLaw") (hX : va_X b L xs s s.heap) (hbl : b < s.heap.size) (hbA : ¬ qA E b) (hL : L ≤ 384) {σ τ : QS} {k : Nat} (hI : Inv σ τ) (hk : k + 6 ≤ L) (K : ∀ σ' τ' : QS, Inv σ' τ' → ZL E p l e s m below meth c b σ' τ' 1215 k []) : ZL E p l e s m below meth c b σ τ 681 k [] := by
  obtain ⟨r, σ', τ', h4, h5, hI'⟩ := change_same hI (xs (k + 1)) (xs (k + 2))
  refine z_aload_n C dL_law_681 rfl 2 rfl ?_
  refine z_arg C hX hbl hbA hL hk (j := 1) (by decide) rfl rfl (by decide) dL_law_682 dL_law_683 dL_law_684 dL_law_685 dL_law_686 ?_
  refine z_arg C hX hbl hbA hL hk (j := 2) (by decide) rfl rfl (by decide) dL_law_687 dL_law_688 dL_law_689 dL_law_690 dL_law_691 ?_
  refine z_cVi C (kX4_change_0 l E σ τ _ _ _ h4) vi_X4_change ml_L_78 ⟨4, _, o0, rfl, rfl⟩ rfl ⟨rfl, rfl, Nat.le_of_ble_eq_true rfl, Nat.le_of_ble_eq_true rfl⟩ (Nat.le_refl _) (Nat.le_refl _) dL_law_692 rfl (Nat.le_of_ble_eq_true rfl) ?_
  refine z_aload_n C dL_law_695 rfl 3 rfl ?_
  refine z_arg C hX hbl hbA hL hk (j := 1) (by decide) rfl rfl (by decide) dL_law_696 dL_law_697 dL_law_698 dL_law_699 dL_law_700 ?_
  refine z_arg C hX hbl hbA hL hk (j := 2) (by decide) rfl rfl (by decide) dL_law_701 dL_law_702 dL_law_703 dL_law_704 dL_law_705 ?_
  refine z_cVi C (kX5_change_50 l E σ' τ _ _ _ h5) vi_X5_change ml_L_81 ⟨5, _, o50, rfl, rfl⟩ rfl ⟨rfl, rfl, Nat.le_of_ble_eq_true rfl, Nat.le_of_ble_eq_true rfl⟩ (Nat.le_refl _) (Nat.le_refl _) dL_law_706 rfl (Nat.le_of_ble_eq_true rfl) ?_
  exact z_icmp_eq C 1215 dL_law_709 (by decide) (fun _ => K σ' τ' hI') (fun h => absurd rfl h)
set_option maxRecDepth 100000 in
set_option maxHeartbeats 4000000 in
theorem lc_undo {E : QE} {p : Program} {l : Launch} {e : Env} {s : State} {m : MethodId} {below : List Frame} {meth : Method} {c : Code} {b L : Nat} {xs : Nat → Int32} (C : Cx E p s m #[Value.ref b] meth c cL_law 4 (some .boolean) "CalledStallsLaw") (hX : va_X b L xs s s.heap) (hbl : b < s.heap.size) (hbA : ¬ qA E b) (hL : L ≤ 384) {σ τ : QS} {k : Nat} (hI : Inv σ τ) (hk : k + 6 ≤ L) (K : ∀ σ' τ' : QS, Inv σ' τ' → ZL E p l e s m below meth c b σ' τ' 1215 k []) : ZL E p l e s m below meth c b σ τ 714 k [] := by
  obtain ⟨r, σ', τ', h4, h5, hI'⟩ := undo_same hI (xs (k + 1))
  refine z_aload_n C dL_law_714 rfl 2 rfl ?_
  refine z_arg C hX hbl hbA hL hk (j := 1) (by decide) rfl rfl (by decide) dL_law_715 dL_law_716 dL_law_717 dL_law_718 dL_law_719 ?_
  refine z_cVi C (kX4_undo_0 l E σ τ _ _ h4) vi_X4_undo ml_L_82 ⟨4, _, o0, rfl, rfl⟩ rfl ⟨rfl, rfl, Nat.le_of_ble_eq_true rfl, Nat.le_of_ble_eq_true rfl⟩ (Nat.le_refl _) (Nat.le_refl _) dL_law_720 rfl (Nat.le_of_ble_eq_true rfl) ?_
  refine z_aload_n C dL_law_723 rfl 3 rfl ?_
  refine z_arg C hX hbl hbA hL hk (j := 1) (by decide) rfl rfl (by decide) dL_law_724 dL_law_725 dL_law_726 dL_law_727 dL_law_728 ?_
  refine z_cVi C (kX5_undo_50 l E σ' τ _ _ h5) vi_X5_undo ml_L_85 ⟨5, _, o50, rfl, rfl⟩ rfl ⟨rfl, rfl, Nat.le_of_ble_eq_true rfl, Nat.le_of_ble_eq_true rfl⟩ (Nat.le_refl _) (Nat.le_refl _) dL_law_729 rfl (Nat.le_of_ble_eq_true rfl) ?_
  exact z_icmp_eq C 1215 dL_law_732 (by decide) (fun _ => K σ' τ' hI') (fun h => absurd rfl h)
set_option maxRecDepth 100000 in
set_option maxHeartbeats 4000000 in
theorem lc_keep {E : QE} {p : Program} {l : Launch} {e : Env} {s : State} {m : MethodId} {below : List Frame} {meth : Method} {c : Code} {b L : Nat} {xs : Nat → Int32} (C : Cx E p s m #[Value.ref b] meth c cL_law 4 (some .boolean) "CalledStallsLaw") (hX : va_X b L xs s s.heap) (hbl : b < s.heap.size) (hbA : ¬ qA E b) (hL : L ≤ 384) {σ τ : QS} {k : Nat} (hI : Inv σ τ) (hk : k + 6 ≤ L) (K : ∀ σ' τ' : QS, Inv σ' τ' → ZL E p l e s m below meth c b σ' τ' 1215 k []) : ZL E p l e s m below meth c b σ τ 737 k [] := by
  obtain ⟨r, σ', τ', h4, h5, hI'⟩ := keep_same hI (xs (k + 1))
  refine z_aload_n C dL_law_737 rfl 2 rfl ?_
  refine z_arg C hX hbl hbA hL hk (j := 1) (by decide) rfl rfl (by decide) dL_law_738 dL_law_739 dL_law_740 dL_law_741 dL_law_742 ?_
  refine z_cVi C (kX4_keep_0 l E σ τ _ _ h4) vi_X4_keep ml_L_86 ⟨4, _, o0, rfl, rfl⟩ rfl ⟨rfl, rfl, Nat.le_of_ble_eq_true rfl, Nat.le_of_ble_eq_true rfl⟩ (Nat.le_refl _) (Nat.le_refl _) dL_law_743 rfl (Nat.le_of_ble_eq_true rfl) ?_
  refine z_aload_n C dL_law_746 rfl 3 rfl ?_
  refine z_arg C hX hbl hbA hL hk (j := 1) (by decide) rfl rfl (by decide) dL_law_747 dL_law_748 dL_law_749 dL_law_750 dL_law_751 ?_
  refine z_cVi C (kX5_keep_50 l E σ' τ _ _ h5) vi_X5_keep ml_L_89 ⟨5, _, o50, rfl, rfl⟩ rfl ⟨rfl, rfl, Nat.le_of_ble_eq_true rfl, Nat.le_of_ble_eq_true rfl⟩ (Nat.le_refl _) (Nat.le_refl _) dL_law_752 rfl (Nat.le_of_ble_eq_true rfl) ?_
  exact z_icmp_eq C 1215 dL_law_755 (by decide) (fun _ => K σ' τ' hI') (fun h => absurd rfl h)
set_option maxRecDepth 100000 in
set_option maxHeartbeats 4000000 in
theorem lc_on {E : QE} {p : Program} {l : Launch} {e : Env} {s : State} {m : MethodId} {below : List Frame} {meth : Method} {c : Code} {b L : Nat} {xs : Nat → Int32} (C : Cx E p s m #[Value.ref b] meth c cL_law 4 (some .boolean) "CalledStallsLaw") (hX : va_X b L xs s s.heap) (hbl : b < s.heap.size) (hbA : ¬ qA E b) (hL : L ≤ 384) {σ τ : QS} {k : Nat} (hI : Inv σ τ) (hk : k + 6 ≤ L) (K : ∀ σ' τ' : QS, Inv σ' τ' → ZL E p l e s m below meth c b σ' τ' 1215 k []) : ZL E p l e s m below meth c b σ τ 760 k [] := by
  obtain ⟨r, σ', τ', h4, h5, hI'⟩ := on_same hI (xs (k + 1))
  refine z_aload_n C dL_law_760 rfl 2 rfl ?_
  refine z_arg C hX hbl hbA hL hk (j := 1) (by decide) rfl rfl (by decide) dL_law_761 dL_law_762 dL_law_763 dL_law_764 dL_law_765 ?_
  refine z_cVi C (kX4_on_0 l E σ τ _ _ h4) vi_X4_on ml_L_90 ⟨4, _, o0, rfl, rfl⟩ rfl ⟨rfl, rfl, Nat.le_of_ble_eq_true rfl, Nat.le_of_ble_eq_true rfl⟩ (Nat.le_refl _) (Nat.le_refl _) dL_law_766 rfl (Nat.le_of_ble_eq_true rfl) ?_
  refine z_aload_n C dL_law_769 rfl 3 rfl ?_
  refine z_arg C hX hbl hbA hL hk (j := 1) (by decide) rfl rfl (by decide) dL_law_770 dL_law_771 dL_law_772 dL_law_773 dL_law_774 ?_
  refine z_cVi C (kX5_on_50 l E σ' τ _ _ h5) vi_X5_on ml_L_93 ⟨5, _, o50, rfl, rfl⟩ rfl ⟨rfl, rfl, Nat.le_of_ble_eq_true rfl, Nat.le_of_ble_eq_true rfl⟩ (Nat.le_refl _) (Nat.le_refl _) dL_law_775 rfl (Nat.le_of_ble_eq_true rfl) ?_
  exact z_icmp_eq C 1215 dL_law_778 (by decide) (fun _ => K σ' τ' hI') (fun h => absurd rfl h)
set_option maxRecDepth 100000 in
set_option maxHeartbeats 4000000 in
theorem lc_can {E : QE} {p : Program} {l : Launch} {e : Env} {s : State} {m : MethodId} {below : List Frame} {meth : Method} {c : Code} {b L : Nat} {xs : Nat → Int32} (C : Cx E p s m #[Value.ref b] meth c cL_law 4 (some .boolean) "CalledStallsLaw") (hX : va_X b L xs s s.heap) (hbl : b < s.heap.size) (hbA : ¬ qA E b) (hL : L ≤ 384) {σ τ : QS} {k : Nat} (hI : Inv σ τ) (hk : k + 6 ≤ L) (K : ∀ σ' τ' : QS, Inv σ' τ' → ZL E p l e s m below meth c b σ' τ' 1215 k []) : ZL E p l e s m below meth c b σ τ 783 k [] := by
  obtain ⟨r, h4, h5⟩ := can_same hI 
  refine z_aload_n C dL_law_783 rfl 2 rfl ?_
  refine z_cVi C (kX4_can_0 l E σ τ  _ h4) vi_X4_can ml_L_94 ⟨4, _, o0, rfl, rfl⟩ rfl ⟨rfl, rfl, Nat.le_of_ble_eq_true rfl, Nat.le_of_ble_eq_true rfl⟩ (Nat.le_refl _) (Nat.le_refl _) dL_law_784 rfl (Nat.le_of_ble_eq_true rfl) ?_
  refine z_aload_n C dL_law_787 rfl 3 rfl ?_
  refine z_cVi C (kX5_can_50 l E σ τ  _ h5) vi_X5_can ml_L_97 ⟨5, _, o50, rfl, rfl⟩ rfl ⟨rfl, rfl, Nat.le_of_ble_eq_true rfl, Nat.le_of_ble_eq_true rfl⟩ (Nat.le_refl _) (Nat.le_refl _) dL_law_788 rfl (Nat.le_of_ble_eq_true rfl) ?_
  exact z_icmp_eq C 1215 dL_law_791 (by decide) (fun _ => K σ τ hI) (fun h => absurd rfl h)
set_option maxRecDepth 100000 in
set_option maxHeartbeats 4000000 in
theorem lc_play {E : QE} {p : Program} {l : Launch} {e : Env} {s : State} {m : MethodId} {below : List Frame} {meth : Method} {c : Code} {b L : Nat} {xs : Nat → Int32} (C : Cx E p s m #[Value.ref b] meth c cL_law 4 (some .boolean) "CalledStallsLaw") (hX : va_X b L xs s s.heap) (hbl : b < s.heap.size) (hbA : ¬ qA E b) (hL : L ≤ 384) {σ τ : QS} {k : Nat} (hI : Inv σ τ) (hk : k + 6 ≤ L) (K : ∀ σ' τ' : QS, Inv σ' τ' → ZL E p l e s m below meth c b σ' τ' 1215 k []) : ZL E p l e s m below meth c b σ τ 796 k [] := by
  obtain ⟨r, σ', τ', h4, h5, hI'⟩ := play_same hI (xs (k + 1))
  refine z_aload_n C dL_law_796 rfl 2 rfl ?_
  refine z_arg C hX hbl hbA hL hk (j := 1) (by decide) rfl rfl (by decide) dL_law_797 dL_law_798 dL_law_799 dL_law_800 dL_law_801 ?_
  refine z_cVi C (kX4_play_0 l E σ τ _ _ h4) vi_X4_play ml_L_98 ⟨4, _, o0, rfl, rfl⟩ rfl ⟨rfl, rfl, Nat.le_of_ble_eq_true rfl, Nat.le_of_ble_eq_true rfl⟩ (Nat.le_refl _) (Nat.le_refl _) dL_law_802 rfl (Nat.le_of_ble_eq_true rfl) ?_
  refine z_aload_n C dL_law_805 rfl 3 rfl ?_
  refine z_arg C hX hbl hbA hL hk (j := 1) (by decide) rfl rfl (by decide) dL_law_806 dL_law_807 dL_law_808 dL_law_809 dL_law_810 ?_
  refine z_cVi C (kX5_play_50 l E σ' τ _ _ h5) vi_X5_play ml_L_101 ⟨5, _, o50, rfl, rfl⟩ rfl ⟨rfl, rfl, Nat.le_of_ble_eq_true rfl, Nat.le_of_ble_eq_true rfl⟩ (Nat.le_refl _) (Nat.le_refl _) dL_law_811 rfl (Nat.le_of_ble_eq_true rfl) ?_
  exact z_icmp_eq C 1215 dL_law_814 (by decide) (fun _ => K σ' τ' hI') (fun h => absurd rfl h)
set_option maxRecDepth 100000 in
set_option maxHeartbeats 4000000 in
theorem lc_best {E : QE} {p : Program} {l : Launch} {e : Env} {s : State} {m : MethodId} {below : List Frame} {meth : Method} {c : Code} {b L : Nat} {xs : Nat → Int32} (C : Cx E p s m #[Value.ref b] meth c cL_law 4 (some .boolean) "CalledStallsLaw") (hX : va_X b L xs s s.heap) (hbl : b < s.heap.size) (hbA : ¬ qA E b) (hL : L ≤ 384) {σ τ : QS} {k : Nat} (hI : Inv σ τ) (hk : k + 6 ≤ L) (K : ∀ σ' τ' : QS, Inv σ' τ' → ZL E p l e s m below meth c b σ' τ' 1215 k []) : ZL E p l e s m below meth c b σ τ 819 k [] := by
  obtain ⟨r, σ', τ', h4, h5, hI'⟩ := best_same hI (xs (k + 1))
  refine z_aload_n C dL_law_819 rfl 2 rfl ?_
  refine z_arg C hX hbl hbA hL hk (j := 1) (by decide) rfl rfl (by decide) dL_law_820 dL_law_821 dL_law_822 dL_law_823 dL_law_824 ?_
  refine z_cVi C (kX4_best_0 l E σ τ _ _ h4) vi_X4_best ml_L_102 ⟨4, _, o0, rfl, rfl⟩ rfl ⟨rfl, rfl, Nat.le_of_ble_eq_true rfl, Nat.le_of_ble_eq_true rfl⟩ (Nat.le_refl _) (Nat.le_refl _) dL_law_825 rfl (Nat.le_of_ble_eq_true rfl) ?_
  refine z_aload_n C dL_law_828 rfl 3 rfl ?_
  refine z_arg C hX hbl hbA hL hk (j := 1) (by decide) rfl rfl (by decide) dL_law_829 dL_law_830 dL_law_831 dL_law_832 dL_law_833 ?_
  refine z_cVi C (kX5_best_50 l E σ' τ _ _ h5) vi_X5_best ml_L_105 ⟨5, _, o50, rfl, rfl⟩ rfl ⟨rfl, rfl, Nat.le_of_ble_eq_true rfl, Nat.le_of_ble_eq_true rfl⟩ (Nat.le_refl _) (Nat.le_refl _) dL_law_834 rfl (Nat.le_of_ble_eq_true rfl) ?_
  exact z_icmp_eq C 1215 dL_law_837 (by decide) (fun _ => K σ' τ' hI') (fun h => absurd rfl h)
set_option maxRecDepth 100000 in
set_option maxHeartbeats 4000000 in
theorem lc_least {E : QE} {p : Program} {l : Launch} {e : Env} {s : State} {m : MethodId} {below : List Frame} {meth : Method} {c : Code} {b L : Nat} {xs : Nat → Int32} (C : Cx E p s m #[Value.ref b] meth c cL_law 4 (some .boolean) "CalledStallsLaw") (hX : va_X b L xs s s.heap) (hbl : b < s.heap.size) (hbA : ¬ qA E b) (hL : L ≤ 384) {σ τ : QS} {k : Nat} (hI : Inv σ τ) (hk : k + 6 ≤ L) (K : ∀ σ' τ' : QS, Inv σ' τ' → ZL E p l e s m below meth c b σ' τ' 1215 k []) : ZL E p l e s m below meth c b σ τ 842 k [] := by
  obtain ⟨r, σ', τ', h4, h5, hI'⟩ := least_same hI 
  refine z_aload_n C dL_law_842 rfl 2 rfl ?_
  refine z_cVi C (kX4_least_0 l E σ τ  _ h4) vi_X4_least ml_L_106 ⟨4, _, o0, rfl, rfl⟩ rfl ⟨rfl, rfl, Nat.le_of_ble_eq_true rfl, Nat.le_of_ble_eq_true rfl⟩ (Nat.le_refl _) (Nat.le_refl _) dL_law_843 rfl (Nat.le_of_ble_eq_true rfl) ?_
  refine z_aload_n C dL_law_846 rfl 3 rfl ?_
  refine z_cVi C (kX5_least_50 l E σ' τ  _ h5) vi_X5_least ml_L_109 ⟨5, _, o50, rfl, rfl⟩ rfl ⟨rfl, rfl, Nat.le_of_ble_eq_true rfl, Nat.le_of_ble_eq_true rfl⟩ (Nat.le_refl _) (Nat.le_refl _) dL_law_847 rfl (Nat.le_of_ble_eq_true rfl) ?_
  exact z_icmp_eq C 1215 dL_law_850 (by decide) (fun _ => K σ' τ' hI') (fun h => absurd rfl h)
set_option maxRecDepth 100000 in
set_option maxHeartbeats 4000000 in
theorem lc_ways {E : QE} {p : Program} {l : Launch} {e : Env} {s : State} {m : MethodId} {below : List Frame} {meth : Method} {c : Code} {b L : Nat} {xs : Nat → Int32} (C : Cx E p s m #[Value.ref b] meth c cL_law 4 (some .boolean) "CalledStallsLaw") (hX : va_X b L xs s s.heap) (hbl : b < s.heap.size) (hbA : ¬ qA E b) (hL : L ≤ 384) {σ τ : QS} {k : Nat} (hI : Inv σ τ) (hk : k + 6 ≤ L) (K : ∀ σ' τ' : QS, Inv σ' τ' → ZL E p l e s m below meth c b σ' τ' 1215 k []) : ZL E p l e s m below meth c b σ τ 855 k [] := by
  obtain ⟨r, σ', τ', h4, h5, hI'⟩ := ways_same hI (xs (k + 1))
  refine z_aload_n C dL_law_855 rfl 2 rfl ?_
  refine z_arg C hX hbl hbA hL hk (j := 1) (by decide) rfl rfl (by decide) dL_law_856 dL_law_857 dL_law_858 dL_law_859 dL_law_860 ?_
  refine z_cVi C (kX4_ways_0 l E σ τ _ _ h4) vi_X4_ways ml_L_110 ⟨4, _, o0, rfl, rfl⟩ rfl ⟨rfl, rfl, Nat.le_of_ble_eq_true rfl, Nat.le_of_ble_eq_true rfl⟩ (Nat.le_refl _) (Nat.le_refl _) dL_law_861 rfl (Nat.le_of_ble_eq_true rfl) ?_
  refine z_aload_n C dL_law_864 rfl 3 rfl ?_
  refine z_arg C hX hbl hbA hL hk (j := 1) (by decide) rfl rfl (by decide) dL_law_865 dL_law_866 dL_law_867 dL_law_868 dL_law_869 ?_
  refine z_cVi C (kX5_ways_50 l E σ' τ _ _ h5) vi_X5_ways ml_L_113 ⟨5, _, o50, rfl, rfl⟩ rfl ⟨rfl, rfl, Nat.le_of_ble_eq_true rfl, Nat.le_of_ble_eq_true rfl⟩ (Nat.le_refl _) (Nat.le_refl _) dL_law_870 rfl (Nat.le_of_ble_eq_true rfl) ?_
  exact z_icmp_eq C 1215 dL_law_873 (by decide) (fun _ => K σ' τ' hI') (fun h => absurd rfl h)
set_option maxRecDepth 100000 in
set_option maxHeartbeats 4000000 in
theorem lc_seats {E : QE} {p : Program} {l : Launch} {e : Env} {s : State} {m : MethodId} {below : List Frame} {meth : Method} {c : Code} {b L : Nat} {xs : Nat → Int32} (C : Cx E p s m #[Value.ref b] meth c cL_law 4 (some .boolean) "CalledStallsLaw") (hX : va_X b L xs s s.heap) (hbl : b < s.heap.size) (hbA : ¬ qA E b) (hL : L ≤ 384) {σ τ : QS} {k : Nat} (hI : Inv σ τ) (hk : k + 6 ≤ L) (K : ∀ σ' τ' : QS, Inv σ' τ' → ZL E p l e s m below meth c b σ' τ' 1215 k []) : ZL E p l e s m below meth c b σ τ 878 k [] := by
  obtain ⟨r, σ', τ', h4, h5, hI'⟩ := seats_same hI 
  refine z_aload_n C dL_law_878 rfl 2 rfl ?_
  refine z_cVi C (kX4_seats_0 l E σ τ  _ h4) vi_X4_seats ml_L_114 ⟨4, _, o0, rfl, rfl⟩ rfl ⟨rfl, rfl, Nat.le_of_ble_eq_true rfl, Nat.le_of_ble_eq_true rfl⟩ (Nat.le_refl _) (Nat.le_refl _) dL_law_879 rfl (Nat.le_of_ble_eq_true rfl) ?_
  refine z_aload_n C dL_law_882 rfl 3 rfl ?_
  refine z_cVi C (kX5_seats_50 l E σ' τ  _ h5) vi_X5_seats ml_L_117 ⟨5, _, o50, rfl, rfl⟩ rfl ⟨rfl, rfl, Nat.le_of_ble_eq_true rfl, Nat.le_of_ble_eq_true rfl⟩ (Nat.le_refl _) (Nat.le_refl _) dL_law_883 rfl (Nat.le_of_ble_eq_true rfl) ?_
  exact z_icmp_eq C 1215 dL_law_886 (by decide) (fun _ => K σ' τ' hI') (fun h => absurd rfl h)
set_option maxRecDepth 100000 in
set_option maxHeartbeats 4000000 in
theorem lc_beside {E : QE} {p : Program} {l : Launch} {e : Env} {s : State} {m : MethodId} {below : List Frame} {meth : Method} {c : Code} {b L : Nat} {xs : Nat → Int32} (C : Cx E p s m #[Value.ref b] meth c cL_law 4 (some .boolean) "CalledStallsLaw") (hX : va_X b L xs s s.heap) (hbl : b < s.heap.size) (hbA : ¬ qA E b) (hL : L ≤ 384) {σ τ : QS} {k : Nat} (hI : Inv σ τ) (hk : k + 6 ≤ L) (K : ∀ σ' τ' : QS, Inv σ' τ' → ZL E p l e s m below meth c b σ' τ' 1215 k []) : ZL E p l e s m below meth c b σ τ 891 k [] := by
  obtain ⟨r, σ', τ', h4, h5, hI'⟩ := beside_same hI 
  refine z_aload_n C dL_law_891 rfl 2 rfl ?_
  refine z_cVi C (kX4_beside_0 l E σ τ  _ h4) vi_X4_beside ml_L_118 ⟨4, _, o0, rfl, rfl⟩ rfl ⟨rfl, rfl, Nat.le_of_ble_eq_true rfl, Nat.le_of_ble_eq_true rfl⟩ (Nat.le_refl _) (Nat.le_refl _) dL_law_892 rfl (Nat.le_of_ble_eq_true rfl) ?_
  refine z_aload_n C dL_law_895 rfl 3 rfl ?_
  refine z_cVi C (kX5_beside_50 l E σ' τ  _ h5) vi_X5_beside ml_L_121 ⟨5, _, o50, rfl, rfl⟩ rfl ⟨rfl, rfl, Nat.le_of_ble_eq_true rfl, Nat.le_of_ble_eq_true rfl⟩ (Nat.le_refl _) (Nat.le_refl _) dL_law_896 rfl (Nat.le_of_ble_eq_true rfl) ?_
  exact z_icmp_eq C 1215 dL_law_899 (by decide) (fun _ => K σ' τ' hI') (fun h => absurd rfl h)
set_option maxRecDepth 100000 in
set_option maxHeartbeats 4000000 in
theorem lc_apart {E : QE} {p : Program} {l : Launch} {e : Env} {s : State} {m : MethodId} {below : List Frame} {meth : Method} {c : Code} {b L : Nat} {xs : Nat → Int32} (C : Cx E p s m #[Value.ref b] meth c cL_law 4 (some .boolean) "CalledStallsLaw") (hX : va_X b L xs s s.heap) (hbl : b < s.heap.size) (hbA : ¬ qA E b) (hL : L ≤ 384) {σ τ : QS} {k : Nat} (hI : Inv σ τ) (hk : k + 6 ≤ L) (K : ∀ σ' τ' : QS, Inv σ' τ' → ZL E p l e s m below meth c b σ' τ' 1215 k []) : ZL E p l e s m below meth c b σ τ 904 k [] := by
  obtain ⟨r, σ', τ', h4, h5, hI'⟩ := apart_same hI 
  refine z_aload_n C dL_law_904 rfl 2 rfl ?_
  refine z_cVi C (kX4_apart_0 l E σ τ  _ h4) vi_X4_apart ml_L_122 ⟨4, _, o0, rfl, rfl⟩ rfl ⟨rfl, rfl, Nat.le_of_ble_eq_true rfl, Nat.le_of_ble_eq_true rfl⟩ (Nat.le_refl _) (Nat.le_refl _) dL_law_905 rfl (Nat.le_of_ble_eq_true rfl) ?_
  refine z_aload_n C dL_law_908 rfl 3 rfl ?_
  refine z_cVi C (kX5_apart_50 l E σ' τ  _ h5) vi_X5_apart ml_L_125 ⟨5, _, o50, rfl, rfl⟩ rfl ⟨rfl, rfl, Nat.le_of_ble_eq_true rfl, Nat.le_of_ble_eq_true rfl⟩ (Nat.le_refl _) (Nat.le_refl _) dL_law_909 rfl (Nat.le_of_ble_eq_true rfl) ?_
  exact z_icmp_eq C 1215 dL_law_912 (by decide) (fun _ => K σ' τ' hI') (fun h => absurd rfl h)
set_option maxRecDepth 100000 in
set_option maxHeartbeats 4000000 in
theorem lc_frights {E : QE} {p : Program} {l : Launch} {e : Env} {s : State} {m : MethodId} {below : List Frame} {meth : Method} {c : Code} {b L : Nat} {xs : Nat → Int32} (C : Cx E p s m #[Value.ref b] meth c cL_law 4 (some .boolean) "CalledStallsLaw") (hX : va_X b L xs s s.heap) (hbl : b < s.heap.size) (hbA : ¬ qA E b) (hL : L ≤ 384) {σ τ : QS} {k : Nat} (hI : Inv σ τ) (hk : k + 6 ≤ L) (K : ∀ σ' τ' : QS, Inv σ' τ' → ZL E p l e s m below meth c b σ' τ' 1215 k []) : ZL E p l e s m below meth c b σ τ 917 k [] := by
  obtain ⟨r, σ', τ', h4, h5, hI'⟩ := frights_same hI (xs (k + 1)) (xs (k + 2))
  refine z_aload_n C dL_law_917 rfl 2 rfl ?_
  refine z_arg C hX hbl hbA hL hk (j := 1) (by decide) rfl rfl (by decide) dL_law_918 dL_law_919 dL_law_920 dL_law_921 dL_law_922 ?_
  refine z_arg C hX hbl hbA hL hk (j := 2) (by decide) rfl rfl (by decide) dL_law_923 dL_law_924 dL_law_925 dL_law_926 dL_law_927 ?_
  refine z_cVi C (kX4_frights_0 l E σ τ _ _ _ h4) vi_X4_frights ml_L_126 ⟨4, _, o0, rfl, rfl⟩ rfl ⟨rfl, rfl, Nat.le_of_ble_eq_true rfl, Nat.le_of_ble_eq_true rfl⟩ (Nat.le_refl _) (Nat.le_refl _) dL_law_928 rfl (Nat.le_of_ble_eq_true rfl) ?_
  refine z_aload_n C dL_law_931 rfl 3 rfl ?_
  refine z_arg C hX hbl hbA hL hk (j := 1) (by decide) rfl rfl (by decide) dL_law_932 dL_law_933 dL_law_934 dL_law_935 dL_law_936 ?_
  refine z_arg C hX hbl hbA hL hk (j := 2) (by decide) rfl rfl (by decide) dL_law_937 dL_law_938 dL_law_939 dL_law_940 dL_law_941 ?_
  refine z_cVi C (kX5_frights_50 l E σ' τ _ _ _ h5) vi_X5_frights ml_L_129 ⟨5, _, o50, rfl, rfl⟩ rfl ⟨rfl, rfl, Nat.le_of_ble_eq_true rfl, Nat.le_of_ble_eq_true rfl⟩ (Nat.le_refl _) (Nat.le_refl _) dL_law_942 rfl (Nat.le_of_ble_eq_true rfl) ?_
  exact z_icmp_eq C 1215 dL_law_945 (by decide) (fun _ => K σ' τ' hI') (fun h => absurd rfl h)
set_option maxRecDepth 100000 in
set_option maxHeartbeats 4000000 in
theorem lc_kinds {E : QE} {p : Program} {l : Launch} {e : Env} {s : State} {m : MethodId} {below : List Frame} {meth : Method} {c : Code} {b L : Nat} {xs : Nat → Int32} (C : Cx E p s m #[Value.ref b] meth c cL_law 4 (some .boolean) "CalledStallsLaw") (hX : va_X b L xs s s.heap) (hbl : b < s.heap.size) (hbA : ¬ qA E b) (hL : L ≤ 384) {σ τ : QS} {k : Nat} (hI : Inv σ τ) (hk : k + 6 ≤ L) (K : ∀ σ' τ' : QS, Inv σ' τ' → ZL E p l e s m below meth c b σ' τ' 1215 k []) : ZL E p l e s m below meth c b σ τ 950 k [] := by
  obtain ⟨r, σ', τ', h4, h5, hI'⟩ := kinds_same hI (xs (k + 1)) (xs (k + 2))
  refine z_aload_n C dL_law_950 rfl 2 rfl ?_
  refine z_arg C hX hbl hbA hL hk (j := 1) (by decide) rfl rfl (by decide) dL_law_951 dL_law_952 dL_law_953 dL_law_954 dL_law_955 ?_
  refine z_arg C hX hbl hbA hL hk (j := 2) (by decide) rfl rfl (by decide) dL_law_956 dL_law_957 dL_law_958 dL_law_959 dL_law_960 ?_
  refine z_cVi C (kX4_kinds_0 l E σ τ _ _ _ h4) vi_X4_kinds ml_L_130 ⟨4, _, o0, rfl, rfl⟩ rfl ⟨rfl, rfl, Nat.le_of_ble_eq_true rfl, Nat.le_of_ble_eq_true rfl⟩ (Nat.le_refl _) (Nat.le_refl _) dL_law_961 rfl (Nat.le_of_ble_eq_true rfl) ?_
  refine z_aload_n C dL_law_964 rfl 3 rfl ?_
  refine z_arg C hX hbl hbA hL hk (j := 1) (by decide) rfl rfl (by decide) dL_law_965 dL_law_966 dL_law_967 dL_law_968 dL_law_969 ?_
  refine z_arg C hX hbl hbA hL hk (j := 2) (by decide) rfl rfl (by decide) dL_law_970 dL_law_971 dL_law_972 dL_law_973 dL_law_974 ?_
  refine z_cVi C (kX5_kinds_50 l E σ' τ _ _ _ h5) vi_X5_kinds ml_L_133 ⟨5, _, o50, rfl, rfl⟩ rfl ⟨rfl, rfl, Nat.le_of_ble_eq_true rfl, Nat.le_of_ble_eq_true rfl⟩ (Nat.le_refl _) (Nat.le_refl _) dL_law_975 rfl (Nat.le_of_ble_eq_true rfl) ?_
  exact z_icmp_eq C 1215 dL_law_978 (by decide) (fun _ => K σ' τ' hI') (fun h => absurd rfl h)
set_option maxRecDepth 100000 in
set_option maxHeartbeats 4000000 in
theorem lc_whom {E : QE} {p : Program} {l : Launch} {e : Env} {s : State} {m : MethodId} {below : List Frame} {meth : Method} {c : Code} {b L : Nat} {xs : Nat → Int32} (C : Cx E p s m #[Value.ref b] meth c cL_law 4 (some .boolean) "CalledStallsLaw") (hX : va_X b L xs s s.heap) (hbl : b < s.heap.size) (hbA : ¬ qA E b) (hL : L ≤ 384) {σ τ : QS} {k : Nat} (hI : Inv σ τ) (hk : k + 6 ≤ L) (K : ∀ σ' τ' : QS, Inv σ' τ' → ZL E p l e s m below meth c b σ' τ' 1215 k []) : ZL E p l e s m below meth c b σ τ 983 k [] := by
  obtain ⟨r, σ', τ', h4, h5, hI'⟩ := whom_same hI (xs (k + 1))
  refine z_aload_n C dL_law_983 rfl 2 rfl ?_
  refine z_arg C hX hbl hbA hL hk (j := 1) (by decide) rfl rfl (by decide) dL_law_984 dL_law_985 dL_law_986 dL_law_987 dL_law_988 ?_
  refine z_cVi C (kX4_whom_0 l E σ τ _ _ h4) vi_X4_whom ml_L_134 ⟨4, _, o0, rfl, rfl⟩ rfl ⟨rfl, rfl, Nat.le_of_ble_eq_true rfl, Nat.le_of_ble_eq_true rfl⟩ (Nat.le_refl _) (Nat.le_refl _) dL_law_989 rfl (Nat.le_of_ble_eq_true rfl) ?_
  refine z_aload_n C dL_law_992 rfl 3 rfl ?_
  refine z_arg C hX hbl hbA hL hk (j := 1) (by decide) rfl rfl (by decide) dL_law_993 dL_law_994 dL_law_995 dL_law_996 dL_law_997 ?_
  refine z_cVi C (kX5_whom_50 l E σ' τ _ _ h5) vi_X5_whom ml_L_137 ⟨5, _, o50, rfl, rfl⟩ rfl ⟨rfl, rfl, Nat.le_of_ble_eq_true rfl, Nat.le_of_ble_eq_true rfl⟩ (Nat.le_refl _) (Nat.le_refl _) dL_law_998 rfl (Nat.le_of_ble_eq_true rfl) ?_
  exact z_icmp_eq C 1215 dL_law_1001 (by decide) (fun _ => K σ' τ' hI') (fun h => absurd rfl h)
set_option maxRecDepth 100000 in
set_option maxHeartbeats 4000000 in
theorem lc_duel {E : QE} {p : Program} {l : Launch} {e : Env} {s : State} {m : MethodId} {below : List Frame} {meth : Method} {c : Code} {b L : Nat} {xs : Nat → Int32} (C : Cx E p s m #[Value.ref b] meth c cL_law 4 (some .boolean) "CalledStallsLaw") (hX : va_X b L xs s s.heap) (hbl : b < s.heap.size) (hbA : ¬ qA E b) (hL : L ≤ 384) {σ τ : QS} {k : Nat} (hI : Inv σ τ) (hk : k + 6 ≤ L) (K : ∀ σ' τ' : QS, Inv σ' τ' → ZL E p l e s m below meth c b σ' τ' 1215 k []) : ZL E p l e s m below meth c b σ τ 1006 k [] := by
  obtain ⟨r, σ', τ', h4, h5, hI'⟩ := duel_same hI (xs (k + 1))
  refine z_aload_n C dL_law_1006 rfl 2 rfl ?_
  refine z_arg C hX hbl hbA hL hk (j := 1) (by decide) rfl rfl (by decide) dL_law_1007 dL_law_1008 dL_law_1009 dL_law_1010 dL_law_1011 ?_
  refine z_cVi C (kX4_duel_0 l E σ τ _ _ h4) vi_X4_duel ml_L_138 ⟨4, _, o0, rfl, rfl⟩ rfl ⟨rfl, rfl, Nat.le_of_ble_eq_true rfl, Nat.le_of_ble_eq_true rfl⟩ (Nat.le_refl _) (Nat.le_refl _) dL_law_1012 rfl (Nat.le_of_ble_eq_true rfl) ?_
  refine z_aload_n C dL_law_1015 rfl 3 rfl ?_
  refine z_arg C hX hbl hbA hL hk (j := 1) (by decide) rfl rfl (by decide) dL_law_1016 dL_law_1017 dL_law_1018 dL_law_1019 dL_law_1020 ?_
  refine z_cVi C (kX5_duel_50 l E σ' τ _ _ h5) vi_X5_duel ml_L_141 ⟨5, _, o50, rfl, rfl⟩ rfl ⟨rfl, rfl, Nat.le_of_ble_eq_true rfl, Nat.le_of_ble_eq_true rfl⟩ (Nat.le_refl _) (Nat.le_refl _) dL_law_1021 rfl (Nat.le_of_ble_eq_true rfl) ?_
  exact z_icmp_eq C 1215 dL_law_1024 (by decide) (fun _ => K σ' τ' hI') (fun h => absurd rfl h)
set_option maxRecDepth 100000 in
set_option maxHeartbeats 4000000 in
theorem lc_odds {E : QE} {p : Program} {l : Launch} {e : Env} {s : State} {m : MethodId} {below : List Frame} {meth : Method} {c : Code} {b L : Nat} {xs : Nat → Int32} (C : Cx E p s m #[Value.ref b] meth c cL_law 4 (some .boolean) "CalledStallsLaw") (hX : va_X b L xs s s.heap) (hbl : b < s.heap.size) (hbA : ¬ qA E b) (hL : L ≤ 384) {σ τ : QS} {k : Nat} (hI : Inv σ τ) (hk : k + 6 ≤ L) (K : ∀ σ' τ' : QS, Inv σ' τ' → ZL E p l e s m below meth c b σ' τ' 1215 k []) : ZL E p l e s m below meth c b σ τ 1029 k [] := by
  obtain ⟨r, σ', τ', h4, h5, hI'⟩ := odds_same hI (xs (k + 1))
  refine z_aload_n C dL_law_1029 rfl 2 rfl ?_
  refine z_arg C hX hbl hbA hL hk (j := 1) (by decide) rfl rfl (by decide) dL_law_1030 dL_law_1031 dL_law_1032 dL_law_1033 dL_law_1034 ?_
  refine z_cVi C (kX4_odds_0 l E σ τ _ _ h4) vi_X4_odds ml_L_142 ⟨4, _, o0, rfl, rfl⟩ rfl ⟨rfl, rfl, Nat.le_of_ble_eq_true rfl, Nat.le_of_ble_eq_true rfl⟩ (Nat.le_refl _) (Nat.le_refl _) dL_law_1035 rfl (Nat.le_of_ble_eq_true rfl) ?_
  refine z_aload_n C dL_law_1038 rfl 3 rfl ?_
  refine z_arg C hX hbl hbA hL hk (j := 1) (by decide) rfl rfl (by decide) dL_law_1039 dL_law_1040 dL_law_1041 dL_law_1042 dL_law_1043 ?_
  refine z_cVi C (kX5_odds_50 l E σ' τ _ _ h5) vi_X5_odds ml_L_145 ⟨5, _, o50, rfl, rfl⟩ rfl ⟨rfl, rfl, Nat.le_of_ble_eq_true rfl, Nat.le_of_ble_eq_true rfl⟩ (Nat.le_refl _) (Nat.le_refl _) dL_law_1044 rfl (Nat.le_of_ble_eq_true rfl) ?_
  exact z_icmp_eq C 1215 dL_law_1047 (by decide) (fun _ => K σ' τ' hI') (fun h => absurd rfl h)
set_option maxRecDepth 100000 in
set_option maxHeartbeats 4000000 in
theorem lc_mid {E : QE} {p : Program} {l : Launch} {e : Env} {s : State} {m : MethodId} {below : List Frame} {meth : Method} {c : Code} {b L : Nat} {xs : Nat → Int32} (C : Cx E p s m #[Value.ref b] meth c cL_law 4 (some .boolean) "CalledStallsLaw") (hX : va_X b L xs s s.heap) (hbl : b < s.heap.size) (hbA : ¬ qA E b) (hL : L ≤ 384) {σ τ : QS} {k : Nat} (hI : Inv σ τ) (hk : k + 6 ≤ L) (K : ∀ σ' τ' : QS, Inv σ' τ' → ZL E p l e s m below meth c b σ' τ' 1215 k []) : ZL E p l e s m below meth c b σ τ 1052 k [] := by
  obtain ⟨r, σ', τ', h4, h5, hI'⟩ := mid_same hI 
  refine z_aload_n C dL_law_1052 rfl 2 rfl ?_
  refine z_cVi C (kX4_mid_0 l E σ τ  _ h4) vi_X4_mid ml_L_146 ⟨4, _, o0, rfl, rfl⟩ rfl ⟨rfl, rfl, Nat.le_of_ble_eq_true rfl, Nat.le_of_ble_eq_true rfl⟩ (Nat.le_refl _) (Nat.le_refl _) dL_law_1053 rfl (Nat.le_of_ble_eq_true rfl) ?_
  refine z_aload_n C dL_law_1056 rfl 3 rfl ?_
  refine z_cVi C (kX5_mid_50 l E σ' τ  _ h5) vi_X5_mid ml_L_149 ⟨5, _, o50, rfl, rfl⟩ rfl ⟨rfl, rfl, Nat.le_of_ble_eq_true rfl, Nat.le_of_ble_eq_true rfl⟩ (Nat.le_refl _) (Nat.le_refl _) dL_law_1057 rfl (Nat.le_of_ble_eq_true rfl) ?_
  exact z_icmp_eq C 1215 dL_law_1060 (by decide) (fun _ => K σ' τ' hI') (fun h => absurd rfl h)
set_option maxRecDepth 100000 in
set_option maxHeartbeats 4000000 in
theorem lc_lots {E : QE} {p : Program} {l : Launch} {e : Env} {s : State} {m : MethodId} {below : List Frame} {meth : Method} {c : Code} {b L : Nat} {xs : Nat → Int32} (C : Cx E p s m #[Value.ref b] meth c cL_law 4 (some .boolean) "CalledStallsLaw") (hX : va_X b L xs s s.heap) (hbl : b < s.heap.size) (hbA : ¬ qA E b) (hL : L ≤ 384) {σ τ : QS} {k : Nat} (hI : Inv σ τ) (hk : k + 6 ≤ L) (K : ∀ σ' τ' : QS, Inv σ' τ' → ZL E p l e s m below meth c b σ' τ' 1215 k []) : ZL E p l e s m below meth c b σ τ 1065 k [] := by
  obtain ⟨r, σ', τ', h4, h5, hI'⟩ := lots_same hI (xs (k + 1))
  refine z_aload_n C dL_law_1065 rfl 2 rfl ?_
  refine z_arg C hX hbl hbA hL hk (j := 1) (by decide) rfl rfl (by decide) dL_law_1066 dL_law_1067 dL_law_1068 dL_law_1069 dL_law_1070 ?_
  refine z_cVi C (kX4_lots_0 l E σ τ _ _ h4) vi_X4_lots ml_L_150 ⟨4, _, o0, rfl, rfl⟩ rfl ⟨rfl, rfl, Nat.le_of_ble_eq_true rfl, Nat.le_of_ble_eq_true rfl⟩ (Nat.le_refl _) (Nat.le_refl _) dL_law_1071 rfl (Nat.le_of_ble_eq_true rfl) ?_
  refine z_aload_n C dL_law_1074 rfl 3 rfl ?_
  refine z_arg C hX hbl hbA hL hk (j := 1) (by decide) rfl rfl (by decide) dL_law_1075 dL_law_1076 dL_law_1077 dL_law_1078 dL_law_1079 ?_
  refine z_cVi C (kX5_lots_50 l E σ' τ _ _ h5) vi_X5_lots ml_L_153 ⟨5, _, o50, rfl, rfl⟩ rfl ⟨rfl, rfl, Nat.le_of_ble_eq_true rfl, Nat.le_of_ble_eq_true rfl⟩ (Nat.le_refl _) (Nat.le_refl _) dL_law_1080 rfl (Nat.le_of_ble_eq_true rfl) ?_
  exact z_icmp_eq C 1215 dL_law_1083 (by decide) (fun _ => K σ' τ' hI') (fun h => absurd rfl h)
set_option maxRecDepth 100000 in
set_option maxHeartbeats 4000000 in
theorem lc_asked {E : QE} {p : Program} {l : Launch} {e : Env} {s : State} {m : MethodId} {below : List Frame} {meth : Method} {c : Code} {b L : Nat} {xs : Nat → Int32} (C : Cx E p s m #[Value.ref b] meth c cL_law 4 (some .boolean) "CalledStallsLaw") (hX : va_X b L xs s s.heap) (hbl : b < s.heap.size) (hbA : ¬ qA E b) (hL : L ≤ 384) {σ τ : QS} {k : Nat} (hI : Inv σ τ) (hk : k + 6 ≤ L) (K : ∀ σ' τ' : QS, Inv σ' τ' → ZL E p l e s m below meth c b σ' τ' 1215 k []) : ZL E p l e s m below meth c b σ τ 1088 k [] := by
  have hE := asked_same hI
  refine z_aload_n C dL_law_1088 rfl 2 rfl ?_
  refine z_cVi C (kX4_asked_0 l E σ τ _ hE) vi_X4_asked ml_L_154 ⟨4, _, o0, rfl, rfl⟩ rfl ⟨rfl, rfl, Nat.le_of_ble_eq_true rfl, Nat.le_of_ble_eq_true rfl⟩ (Nat.le_refl _) (Nat.le_refl _) dL_law_1089 rfl (Nat.le_of_ble_eq_true rfl) ?_
  refine z_aload_n C dL_law_1092 rfl 3 rfl ?_
  refine z_cVi C (kX5_asked_50 l E σ τ _ rfl) vi_X5_asked ml_L_157 ⟨5, _, o50, rfl, rfl⟩ rfl ⟨rfl, rfl, Nat.le_of_ble_eq_true rfl, Nat.le_of_ble_eq_true rfl⟩ (Nat.le_refl _) (Nat.le_refl _) dL_law_1093 rfl (Nat.le_of_ble_eq_true rfl) ?_
  exact z_icmp_eq C 1215 dL_law_1096 (by decide) (fun _ => K σ τ hI) (fun h => absurd rfl h)
set_option maxRecDepth 100000 in
set_option maxHeartbeats 4000000 in
theorem lc_upper {E : QE} {p : Program} {l : Launch} {e : Env} {s : State} {m : MethodId} {below : List Frame} {meth : Method} {c : Code} {b L : Nat} {xs : Nat → Int32} (C : Cx E p s m #[Value.ref b] meth c cL_law 4 (some .boolean) "CalledStallsLaw") (hX : va_X b L xs s s.heap) (hbl : b < s.heap.size) (hbA : ¬ qA E b) (hL : L ≤ 384) {σ τ : QS} {k : Nat} (hI : Inv σ τ) (hk : k + 6 ≤ L) (K : ∀ σ' τ' : QS, Inv σ' τ' → ZL E p l e s m below meth c b σ' τ' 1215 k []) : ZL E p l e s m below meth c b σ τ 1101 k [] := by
  have hE := upper_same hI
  refine z_aload_n C dL_law_1101 rfl 2 rfl ?_
  refine z_cVl C (kX4_upper_0 l E σ τ _ hE) vi_X4_upper ml_L_158 ⟨4, _, o0, rfl, rfl⟩ rfl ⟨rfl, rfl, Nat.le_of_ble_eq_true rfl, Nat.le_of_ble_eq_true rfl⟩ (Nat.le_refl _) (Nat.le_refl _) dL_law_1102 rfl (Nat.le_of_ble_eq_true rfl) ?_
  refine z_aload_n C dL_law_1105 rfl 3 rfl ?_
  refine z_cVl C (kX5_upper_50 l E σ τ _ rfl) vi_X5_upper ml_L_162 ⟨5, _, o50, rfl, rfl⟩ rfl ⟨rfl, rfl, Nat.le_of_ble_eq_true rfl, Nat.le_of_ble_eq_true rfl⟩ (Nat.le_refl _) (Nat.le_refl _) dL_law_1106 rfl (Nat.le_of_ble_eq_true rfl) ?_
  refine z_lcmp C dL_law_1109 ?_
  exact z_if_eq C 1215 dL_law_1110 (by decide) (fun _ => K σ τ hI) (fun h => absurd ((cmp_eq _ _).mpr rfl) h)
set_option maxRecDepth 100000 in
set_option maxHeartbeats 4000000 in
theorem lc_lower {E : QE} {p : Program} {l : Launch} {e : Env} {s : State} {m : MethodId} {below : List Frame} {meth : Method} {c : Code} {b L : Nat} {xs : Nat → Int32} (C : Cx E p s m #[Value.ref b] meth c cL_law 4 (some .boolean) "CalledStallsLaw") (hX : va_X b L xs s s.heap) (hbl : b < s.heap.size) (hbA : ¬ qA E b) (hL : L ≤ 384) {σ τ : QS} {k : Nat} (hI : Inv σ τ) (hk : k + 6 ≤ L) (K : ∀ σ' τ' : QS, Inv σ' τ' → ZL E p l e s m below meth c b σ' τ' 1215 k []) : ZL E p l e s m below meth c b σ τ 1115 k [] := by
  have hE := lower_same hI
  refine z_aload_n C dL_law_1115 rfl 2 rfl ?_
  refine z_cVl C (kX4_lower_0 l E σ τ _ hE) vi_X4_lower ml_L_163 ⟨4, _, o0, rfl, rfl⟩ rfl ⟨rfl, rfl, Nat.le_of_ble_eq_true rfl, Nat.le_of_ble_eq_true rfl⟩ (Nat.le_refl _) (Nat.le_refl _) dL_law_1116 rfl (Nat.le_of_ble_eq_true rfl) ?_
  refine z_aload_n C dL_law_1119 rfl 3 rfl ?_
  refine z_cVl C (kX5_lower_50 l E σ τ _ rfl) vi_X5_lower ml_L_166 ⟨5, _, o50, rfl, rfl⟩ rfl ⟨rfl, rfl, Nat.le_of_ble_eq_true rfl, Nat.le_of_ble_eq_true rfl⟩ (Nat.le_refl _) (Nat.le_refl _) dL_law_1120 rfl (Nat.le_of_ble_eq_true rfl) ?_
  refine z_lcmp C dL_law_1123 ?_
  exact z_if_eq C 1215 dL_law_1124 (by decide) (fun _ => K σ τ hI) (fun h => absurd ((cmp_eq _ _).mpr rfl) h)
set_option maxRecDepth 100000 in
set_option maxHeartbeats 4000000 in
theorem lc_count {E : QE} {p : Program} {l : Launch} {e : Env} {s : State} {m : MethodId} {below : List Frame} {meth : Method} {c : Code} {b L : Nat} {xs : Nat → Int32} (C : Cx E p s m #[Value.ref b] meth c cL_law 4 (some .boolean) "CalledStallsLaw") (hX : va_X b L xs s s.heap) (hbl : b < s.heap.size) (hbA : ¬ qA E b) (hL : L ≤ 384) {σ τ : QS} {k : Nat} (hI : Inv σ τ) (hk : k + 6 ≤ L) (K : ∀ σ' τ' : QS, Inv σ' τ' → ZL E p l e s m below meth c b σ' τ' 1215 k []) : ZL E p l e s m below meth c b σ τ 1129 k [] := by
  obtain ⟨r, h4, h5⟩ := count_same hI (xs (k + 1))
  refine z_aload_n C dL_law_1129 rfl 2 rfl ?_
  refine z_arg C hX hbl hbA hL hk (j := 1) (by decide) rfl rfl (by decide) dL_law_1130 dL_law_1131 dL_law_1132 dL_law_1133 dL_law_1134 ?_
  refine z_cVi C (kX4_count_0 l E σ τ _ _ h4) vi_X4_count ml_L_167 ⟨4, _, o0, rfl, rfl⟩ rfl ⟨rfl, rfl, Nat.le_of_ble_eq_true rfl, Nat.le_of_ble_eq_true rfl⟩ (Nat.le_refl _) (Nat.le_refl _) dL_law_1135 rfl (Nat.le_of_ble_eq_true rfl) ?_
  refine z_aload_n C dL_law_1138 rfl 3 rfl ?_
  refine z_arg C hX hbl hbA hL hk (j := 1) (by decide) rfl rfl (by decide) dL_law_1139 dL_law_1140 dL_law_1141 dL_law_1142 dL_law_1143 ?_
  refine z_cVi C (kX5_count_50 l E σ τ _ _ h5) vi_X5_count ml_L_170 ⟨5, _, o50, rfl, rfl⟩ rfl ⟨rfl, rfl, Nat.le_of_ble_eq_true rfl, Nat.le_of_ble_eq_true rfl⟩ (Nat.le_refl _) (Nat.le_refl _) dL_law_1144 rfl (Nat.le_of_ble_eq_true rfl) ?_
  exact z_icmp_eq C 1215 dL_law_1147 (by decide) (fun _ => K σ τ hI) (fun h => absurd rfl h)
set_option maxRecDepth 100000 in
set_option maxHeartbeats 4000000 in
theorem lc_applause {E : QE} {p : Program} {l : Launch} {e : Env} {s : State} {m : MethodId} {below : List Frame} {meth : Method} {c : Code} {b L : Nat} {xs : Nat → Int32} (C : Cx E p s m #[Value.ref b] meth c cL_law 4 (some .boolean) "CalledStallsLaw") (hX : va_X b L xs s s.heap) (hbl : b < s.heap.size) (hbA : ¬ qA E b) (hL : L ≤ 384) {σ τ : QS} {k : Nat} (hI : Inv σ τ) (hk : k + 6 ≤ L) (K : ∀ σ' τ' : QS, Inv σ' τ' → ZL E p l e s m below meth c b σ' τ' 1215 k []) : ZL E p l e s m below meth c b σ τ 1152 k [] := by
  have hE := applause_same hI
  refine z_aload_n C dL_law_1152 rfl 2 rfl ?_
  refine z_cVi C (kX4_applause_0 l E σ τ _ hE) vi_X4_applause ml_L_171 ⟨4, _, o0, rfl, rfl⟩ rfl ⟨rfl, rfl, Nat.le_of_ble_eq_true rfl, Nat.le_of_ble_eq_true rfl⟩ (Nat.le_refl _) (Nat.le_refl _) dL_law_1153 rfl (Nat.le_of_ble_eq_true rfl) ?_
  refine z_aload_n C dL_law_1156 rfl 3 rfl ?_
  refine z_cVi C (kX5_applause_50 l E σ τ _ rfl) vi_X5_applause ml_L_174 ⟨5, _, o50, rfl, rfl⟩ rfl ⟨rfl, rfl, Nat.le_of_ble_eq_true rfl, Nat.le_of_ble_eq_true rfl⟩ (Nat.le_refl _) (Nat.le_refl _) dL_law_1157 rfl (Nat.le_of_ble_eq_true rfl) ?_
  exact z_icmp_eq C 1215 dL_law_1160 (by decide) (fun _ => K σ τ hI) (fun h => absurd rfl h)
set_option maxRecDepth 100000 in
set_option maxHeartbeats 4000000 in
theorem lc_finding {E : QE} {p : Program} {l : Launch} {e : Env} {s : State} {m : MethodId} {below : List Frame} {meth : Method} {c : Code} {b L : Nat} {xs : Nat → Int32} (C : Cx E p s m #[Value.ref b] meth c cL_law 4 (some .boolean) "CalledStallsLaw") (hX : va_X b L xs s s.heap) (hbl : b < s.heap.size) (hbA : ¬ qA E b) (hL : L ≤ 384) {σ τ : QS} {k : Nat} (hI : Inv σ τ) (hk : k + 6 ≤ L) (K : ∀ σ' τ' : QS, Inv σ' τ' → ZL E p l e s m below meth c b σ' τ' 1215 k []) : ZL E p l e s m below meth c b σ τ 1165 k [] := by
  have hE := finding_same hI
  refine z_aload_n C dL_law_1165 rfl 2 rfl ?_
  refine z_cVi C (kX4_finding_0 l E σ τ _ hE) vi_X4_finding ml_L_175 ⟨4, _, o0, rfl, rfl⟩ rfl ⟨rfl, rfl, Nat.le_of_ble_eq_true rfl, Nat.le_of_ble_eq_true rfl⟩ (Nat.le_refl _) (Nat.le_refl _) dL_law_1166 rfl (Nat.le_of_ble_eq_true rfl) ?_
  refine z_aload_n C dL_law_1169 rfl 3 rfl ?_
  refine z_cVi C (kX5_finding_50 l E σ τ _ rfl) vi_X5_finding ml_L_178 ⟨5, _, o50, rfl, rfl⟩ rfl ⟨rfl, rfl, Nat.le_of_ble_eq_true rfl, Nat.le_of_ble_eq_true rfl⟩ (Nat.le_refl _) (Nat.le_refl _) dL_law_1170 rfl (Nat.le_of_ble_eq_true rfl) ?_
  exact z_icmp_eq C 1215 dL_law_1173 (by decide) (fun _ => K σ τ hI) (fun h => absurd rfl h)
set_option maxRecDepth 100000 in
set_option maxHeartbeats 4000000 in
theorem lc_findings {E : QE} {p : Program} {l : Launch} {e : Env} {s : State} {m : MethodId} {below : List Frame} {meth : Method} {c : Code} {b L : Nat} {xs : Nat → Int32} (C : Cx E p s m #[Value.ref b] meth c cL_law 4 (some .boolean) "CalledStallsLaw") (hX : va_X b L xs s s.heap) (hbl : b < s.heap.size) (hbA : ¬ qA E b) (hL : L ≤ 384) {σ τ : QS} {k : Nat} (hI : Inv σ τ) (hk : k + 6 ≤ L) (K : ∀ σ' τ' : QS, Inv σ' τ' → ZL E p l e s m below meth c b σ' τ' 1215 k []) : ZL E p l e s m below meth c b σ τ 1178 k [] := by
  obtain ⟨r, h4, h5⟩ := findings_same hI (xs (k + 1))
  refine z_aload_n C dL_law_1178 rfl 2 rfl ?_
  refine z_arg C hX hbl hbA hL hk (j := 1) (by decide) rfl rfl (by decide) dL_law_1179 dL_law_1180 dL_law_1181 dL_law_1182 dL_law_1183 ?_
  refine z_cVi C (kX4_findings_0 l E σ τ _ _ h4) vi_X4_findings ml_L_179 ⟨4, _, o0, rfl, rfl⟩ rfl ⟨rfl, rfl, Nat.le_of_ble_eq_true rfl, Nat.le_of_ble_eq_true rfl⟩ (Nat.le_refl _) (Nat.le_refl _) dL_law_1184 rfl (Nat.le_of_ble_eq_true rfl) ?_
  refine z_aload_n C dL_law_1187 rfl 3 rfl ?_
  refine z_arg C hX hbl hbA hL hk (j := 1) (by decide) rfl rfl (by decide) dL_law_1188 dL_law_1189 dL_law_1190 dL_law_1191 dL_law_1192 ?_
  refine z_cVi C (kX5_findings_50 l E σ τ _ _ h5) vi_X5_findings ml_L_182 ⟨5, _, o50, rfl, rfl⟩ rfl ⟨rfl, rfl, Nat.le_of_ble_eq_true rfl, Nat.le_of_ble_eq_true rfl⟩ (Nat.le_refl _) (Nat.le_refl _) dL_law_1193 rfl (Nat.le_of_ble_eq_true rfl) ?_
  exact z_icmp_eq C 1215 dL_law_1196 (by decide) (fun _ => K σ τ hI) (fun h => absurd rfl h)
set_option maxRecDepth 100000 in
set_option maxHeartbeats 4000000 in
theorem lc_digest {E : QE} {p : Program} {l : Launch} {e : Env} {s : State} {m : MethodId} {below : List Frame} {meth : Method} {c : Code} {b L : Nat} {xs : Nat → Int32} (C : Cx E p s m #[Value.ref b] meth c cL_law 4 (some .boolean) "CalledStallsLaw") (hX : va_X b L xs s s.heap) (hbl : b < s.heap.size) (hbA : ¬ qA E b) (hL : L ≤ 384) {σ τ : QS} {k : Nat} (hI : Inv σ τ) (hk : k + 6 ≤ L) (K : ∀ σ' τ' : QS, Inv σ' τ' → ZL E p l e s m below meth c b σ' τ' 1215 k []) : ZL E p l e s m below meth c b σ τ 1201 k [] := by
  obtain ⟨r, h4, h5⟩ := digest_same hI 
  refine z_aload_n C dL_law_1201 rfl 2 rfl ?_
  refine z_cVl C (kX4_digest_0 l E σ τ  _ h4) vi_X4_digest ml_L_183 ⟨4, _, o0, rfl, rfl⟩ rfl ⟨rfl, rfl, Nat.le_of_ble_eq_true rfl, Nat.le_of_ble_eq_true rfl⟩ (Nat.le_refl _) (Nat.le_refl _) dL_law_1202 rfl (Nat.le_of_ble_eq_true rfl) ?_
  refine z_aload_n C dL_law_1205 rfl 3 rfl ?_
  refine z_cVl C (kX5_digest_50 l E σ τ  _ h5) vi_X5_digest ml_L_186 ⟨5, _, o50, rfl, rfl⟩ rfl ⟨rfl, rfl, Nat.le_of_ble_eq_true rfl, Nat.le_of_ble_eq_true rfl⟩ (Nat.le_refl _) (Nat.le_refl _) dL_law_1206 rfl (Nat.le_of_ble_eq_true rfl) ?_
  refine z_lcmp C dL_law_1209 ?_
  exact z_if_eq C 1215 dL_law_1210 (by decide) (fun _ => K σ τ hI) (fun h => absurd ((cmp_eq _ _).mpr rfl) h)
