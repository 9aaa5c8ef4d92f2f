set_option maxRecDepth 10000 in
set_option maxHeartbeats 1000000 in
theorem lc_0 {V1 V2 : EV} {b L : Nat} {xs : Nat → Int32} {i : Int32} {wC wM : AW} (h : Rel wC wM) (hin : ∀ (k : Nat) (j : Int32), j = nI k → k ≤ 6 → vp_in (i + j) L) (kk : ∀ wC' wM', Rel wC' wM' → LJ V1 V2 b L xs 1535 [some (.ref b), some (.ref (V1.1 0)), some (.ref (V2.1 0)), some (.int i)] [] wC' wM') : LJ V1 V2 b L xs 228 [some (.ref b), some (.ref (V1.1 0)), some (.ref (V2.1 0)), some (.int i)] [] wC wM := by
  obtain ⟨r, wC', wM', h1, h2, h3⟩ := st_feed h (((xs (i + 1).toNatClampNeg).toInt64 <<< ((32 : Int32).toInt64 &&& 63)) ||| ((xs (i + 2).toNatClampNeg).toInt64 &&& 4294967295)) (xs (i + 3).toNatClampNeg)
  refine LJ_aload_n (v := (V1.1 0)) dL_law_228 rfl ?_
  refine LJ_aload_n (v := b) dL_law_229 rfl ?_
  refine LJ_iload_n (v := i) dL_law_230 rfl ?_
  refine LJ_iconst 1 dL_law_231 ic_1 ?_
  refine LJ_iadd dL_law_232 ?_
  refine LJ_sld dL_law_233 (hin 1 _ (by decide) (by decide)) ?_
  refine LJ_i2l dL_law_234 ?_
  refine LJ_bipush 32 dL_law_235 (by decide) ?_
  refine LJ_lshl dL_law_237 ?_
  refine LJ_aload_n (v := b) dL_law_238 rfl ?_
  refine LJ_iload_n (v := i) dL_law_239 rfl ?_
  refine LJ_iconst 2 dL_law_240 ic_2 ?_
  refine LJ_iadd dL_law_241 ?_
  refine LJ_sld dL_law_242 (hin 2 _ (by decide) (by decide)) ?_
  refine LJ_i2l dL_law_243 ?_
  refine LJ_ldc2 4294967295 dL_law_244 lk_13 ?_
  refine LJ_land dL_law_247 ?_
  refine LJ_lor dL_law_248 ?_
  refine LJ_aload_n (v := b) dL_law_249 rfl ?_
  refine LJ_iload_n (v := i) dL_law_250 rfl ?_
  refine LJ_iconst 3 dL_law_251 ic_3 ?_
  refine LJ_iadd dL_law_252 ?_
  refine LJ_sld dL_law_253 (hin 3 _ (by decide) (by decide)) ?_
  refine LJ_callC (As := [.long (((xs (i + 1).toNatClampNeg).toInt64 <<< ((32 : Int32).toInt64 &&& 63)) ||| ((xs (i + 2).toNatClampNeg).toInt64 &&& 4294967295)), .int (xs (i + 3).toNatClampNeg)]) (rest := []) (r := r) lcv_15 dL_law_254 (MX11_feed h1) rfl (fun _ => rfl) rfl rfl (Nat.le_of_ble_eq_true rfl) ?_
  refine LJ_aload_n (v := (V2.1 0)) dL_law_257 rfl ?_
  refine LJ_aload_n (v := b) dL_law_258 rfl ?_
  refine LJ_iload_n (v := i) dL_law_259 rfl ?_
  refine LJ_iconst 1 dL_law_260 ic_1 ?_
  refine LJ_iadd dL_law_261 ?_
  refine LJ_sld dL_law_262 (hin 1 _ (by decide) (by decide)) ?_
  refine LJ_i2l dL_law_263 ?_
  refine LJ_bipush 32 dL_law_264 (by decide) ?_
  refine LJ_lshl dL_law_266 ?_
  refine LJ_aload_n (v := b) dL_law_267 rfl ?_
  refine LJ_iload_n (v := i) dL_law_268 rfl ?_
  refine LJ_iconst 2 dL_law_269 ic_2 ?_
  refine LJ_iadd dL_law_270 ?_
  refine LJ_sld dL_law_271 (hin 2 _ (by decide) (by decide)) ?_
  refine LJ_i2l dL_law_272 ?_
  refine LJ_ldc2 4294967295 dL_law_273 lk_13 ?_
  refine LJ_land dL_law_276 ?_
  refine LJ_lor dL_law_277 ?_
  refine LJ_aload_n (v := b) dL_law_278 rfl ?_
  refine LJ_iload_n (v := i) dL_law_279 rfl ?_
  refine LJ_iconst 3 dL_law_280 ic_3 ?_
  refine LJ_iadd dL_law_281 ?_
  refine LJ_sld dL_law_282 (hin 3 _ (by decide) (by decide)) ?_
  refine LJ_callM (As := [.long (((xs (i + 1).toNatClampNeg).toInt64 <<< ((32 : Int32).toInt64 &&& 63)) ||| ((xs (i + 2).toNatClampNeg).toInt64 &&& 4294967295)), .int (xs (i + 3).toNatClampNeg)]) (rest := [.int r]) (r := r) lcv_19 dL_law_283 (MX12_feed h2) rfl (fun _ => rfl) rfl rfl (Nat.le_of_ble_eq_true rfl) ?_
  refine LJ_eq 1535 dL_law_286 (by decide) ?_
  exact kk _ _ h3
set_option maxRecDepth 10000 in
set_option maxHeartbeats 1000000 in
theorem lc_1 {V1 V2 : EV} {b L : Nat} {xs : Nat → Int32} {i : Int32} {wC wM : AW} (h : Rel wC wM) (hin : ∀ (k : Nat) (j : Int32), j = nI k → k ≤ 6 → vp_in (i + j) L) (kk : ∀ wC' wM', Rel wC' wM' → LJ V1 V2 b L xs 1535 [some (.ref b), some (.ref (V1.1 0)), some (.ref (V2.1 0)), some (.int i)] [] wC' wM') : LJ V1 V2 b L xs 291 [some (.ref b), some (.ref (V1.1 0)), some (.ref (V2.1 0)), some (.int i)] [] wC wM := by
  obtain ⟨r, wC', wM', h1, h2, h3⟩ := st_board h 
  refine LJ_aload_n (v := (V1.1 0)) dL_law_291 rfl ?_
  refine LJ_callC (As := []) (rest := []) (r := r) lcv_20 dL_law_292 (MX11_board h1) rfl (fun _ => rfl) rfl rfl (Nat.le_of_ble_eq_true rfl) ?_
  refine LJ_aload_n (v := (V2.1 0)) dL_law_295 rfl ?_
  refine LJ_callM (As := []) (rest := [.int r]) (r := r) lcv_24 dL_law_296 (MX12_board h2) rfl (fun _ => rfl) rfl rfl (Nat.le_of_ble_eq_true rfl) ?_
  refine LJ_eq 1535 dL_law_299 (by decide) ?_
  exact kk _ _ h3
set_option maxRecDepth 10000 in
set_option maxHeartbeats 1000000 in
theorem lc_2 {V1 V2 : EV} {b L : Nat} {xs : Nat → Int32} {i : Int32} {wC wM : AW} (h : Rel wC wM) (hin : ∀ (k : Nat) (j : Int32), j = nI k → k ≤ 6 → vp_in (i + j) L) (kk : ∀ wC' wM', Rel wC' wM' → LJ V1 V2 b L xs 1535 [some (.ref b), some (.ref (V1.1 0)), some (.ref (V2.1 0)), some (.int i)] [] wC' wM') : LJ V1 V2 b L xs 304 [some (.ref b), some (.ref (V1.1 0)), some (.ref (V2.1 0)), some (.int i)] [] wC wM := by
  obtain ⟨r, wC', wM', h1, h2, h3⟩ := st_job h (xs (i + 1).toNatClampNeg) (xs (i + 2).toNatClampNeg) (xs (i + 3).toNatClampNeg) (xs (i + 4).toNatClampNeg) (xs (i + 5).toNatClampNeg)
  refine LJ_aload_n (v := (V1.1 0)) dL_law_304 rfl ?_
  refine LJ_aload_n (v := b) dL_law_305 rfl ?_
  refine LJ_iload_n (v := i) dL_law_306 rfl ?_
  refine LJ_iconst 1 dL_law_307 ic_1 ?_
  refine LJ_iadd dL_law_308 ?_
  refine LJ_sld dL_law_309 (hin 1 _ (by decide) (by decide)) ?_
  refine LJ_aload_n (v := b) dL_law_310 rfl ?_
  refine LJ_iload_n (v := i) dL_law_311 rfl ?_
  refine LJ_iconst 2 dL_law_312 ic_2 ?_
  refine LJ_iadd dL_law_313 ?_
  refine LJ_sld dL_law_314 (hin 2 _ (by decide) (by decide)) ?_
  refine LJ_aload_n (v := b) dL_law_315 rfl ?_
  refine LJ_iload_n (v := i) dL_law_316 rfl ?_
  refine LJ_iconst 3 dL_law_317 ic_3 ?_
  refine LJ_iadd dL_law_318 ?_
  refine LJ_sld dL_law_319 (hin 3 _ (by decide) (by decide)) ?_
  refine LJ_aload_n (v := b) dL_law_320 rfl ?_
  refine LJ_iload_n (v := i) dL_law_321 rfl ?_
  refine LJ_iconst 4 dL_law_322 ic_4 ?_
  refine LJ_iadd dL_law_323 ?_
  refine LJ_sld dL_law_324 (hin 4 _ (by decide) (by decide)) ?_
  refine LJ_aload_n (v := b) dL_law_325 rfl ?_
  refine LJ_iload_n (v := i) dL_law_326 rfl ?_
  refine LJ_iconst 5 dL_law_327 ic_5 ?_
  refine LJ_iadd dL_law_328 ?_
  refine LJ_sld dL_law_329 (hin 5 _ (by decide) (by decide)) ?_
  refine LJ_callC (As := [.int (xs (i + 1).toNatClampNeg), .int (xs (i + 2).toNatClampNeg), .int (xs (i + 3).toNatClampNeg), .int (xs (i + 4).toNatClampNeg), .int (xs (i + 5).toNatClampNeg)]) (rest := []) (r := r) lcv_25 dL_law_330 (MX11_job h1) rfl (fun _ => rfl) rfl rfl (Nat.le_of_ble_eq_true rfl) ?_
  refine LJ_aload_n (v := (V2.1 0)) dL_law_333 rfl ?_
  refine LJ_aload_n (v := b) dL_law_334 rfl ?_
  refine LJ_iload_n (v := i) dL_law_335 rfl ?_
  refine LJ_iconst 1 dL_law_336 ic_1 ?_
  refine LJ_iadd dL_law_337 ?_
  refine LJ_sld dL_law_338 (hin 1 _ (by decide) (by decide)) ?_
  refine LJ_aload_n (v := b) dL_law_339 rfl ?_
  refine LJ_iload_n (v := i) dL_law_340 rfl ?_
  refine LJ_iconst 2 dL_law_341 ic_2 ?_
  refine LJ_iadd dL_law_342 ?_
  refine LJ_sld dL_law_343 (hin 2 _ (by decide) (by decide)) ?_
  refine LJ_aload_n (v := b) dL_law_344 rfl ?_
  refine LJ_iload_n (v := i) dL_law_345 rfl ?_
  refine LJ_iconst 3 dL_law_346 ic_3 ?_
  refine LJ_iadd dL_law_347 ?_
  refine LJ_sld dL_law_348 (hin 3 _ (by decide) (by decide)) ?_
  refine LJ_aload_n (v := b) dL_law_349 rfl ?_
  refine LJ_iload_n (v := i) dL_law_350 rfl ?_
  refine LJ_iconst 4 dL_law_351 ic_4 ?_
  refine LJ_iadd dL_law_352 ?_
  refine LJ_sld dL_law_353 (hin 4 _ (by decide) (by decide)) ?_
  refine LJ_aload_n (v := b) dL_law_354 rfl ?_
  refine LJ_iload_n (v := i) dL_law_355 rfl ?_
  refine LJ_iconst 5 dL_law_356 ic_5 ?_
  refine LJ_iadd dL_law_357 ?_
  refine LJ_sld dL_law_358 (hin 5 _ (by decide) (by decide)) ?_
  refine LJ_callM (As := [.int (xs (i + 1).toNatClampNeg), .int (xs (i + 2).toNatClampNeg), .int (xs (i + 3).toNatClampNeg), .int (xs (i + 4).toNatClampNeg), .int (xs (i + 5).toNatClampNeg)]) (rest := [.int r]) (r := r) lcv_29 dL_law_359 (MX12_job h2) rfl (fun _ => rfl) rfl rfl (Nat.le_of_ble_eq_true rfl) ?_
  refine LJ_eq 1535 dL_law_362 (by decide) ?_
  exact kk _ _ h3
set_option maxRecDepth 10000 in
set_option maxHeartbeats 1000000 in
theorem lc_3 {V1 V2 : EV} {b L : Nat} {xs : Nat → Int32} {i : Int32} {wC wM : AW} (h : Rel wC wM) (hin : ∀ (k : Nat) (j : Int32), j = nI k → k ≤ 6 → vp_in (i + j) L) (kk : ∀ wC' wM', Rel wC' wM' → LJ V1 V2 b L xs 1535 [some (.ref b), some (.ref (V1.1 0)), some (.ref (V2.1 0)), some (.int i)] [] wC' wM') : LJ V1 V2 b L xs 367 [some (.ref b), some (.ref (V1.1 0)), some (.ref (V2.1 0)), some (.int i)] [] wC wM := by
  obtain ⟨r, h1, h2⟩ := st_jobOf h (xs (i + 1).toNatClampNeg) (xs (i + 2).toNatClampNeg)
  refine LJ_aload_n (v := (V1.1 0)) dL_law_367 rfl ?_
  refine LJ_aload_n (v := b) dL_law_368 rfl ?_
  refine LJ_iload_n (v := i) dL_law_369 rfl ?_
  refine LJ_iconst 1 dL_law_370 ic_1 ?_
  refine LJ_iadd dL_law_371 ?_
  refine LJ_sld dL_law_372 (hin 1 _ (by decide) (by decide)) ?_
  refine LJ_aload_n (v := b) dL_law_373 rfl ?_
  refine LJ_iload_n (v := i) dL_law_374 rfl ?_
  refine LJ_iconst 2 dL_law_375 ic_2 ?_
  refine LJ_iadd dL_law_376 ?_
  refine LJ_sld dL_law_377 (hin 2 _ (by decide) (by decide)) ?_
  refine LJ_callC (As := [.int (xs (i + 1).toNatClampNeg), .int (xs (i + 2).toNatClampNeg)]) (rest := []) (r := r) lcv_30 dL_law_378 (MX11_jobOf h1) rfl (fun _ => rfl) rfl rfl (Nat.le_of_ble_eq_true rfl) ?_
  refine LJ_aload_n (v := (V2.1 0)) dL_law_381 rfl ?_
  refine LJ_aload_n (v := b) dL_law_382 rfl ?_
  refine LJ_iload_n (v := i) dL_law_383 rfl ?_
  refine LJ_iconst 1 dL_law_384 ic_1 ?_
  refine LJ_iadd dL_law_385 ?_
  refine LJ_sld dL_law_386 (hin 1 _ (by decide) (by decide)) ?_
  refine LJ_aload_n (v := b) dL_law_387 rfl ?_
  refine LJ_iload_n (v := i) dL_law_388 rfl ?_
  refine LJ_iconst 2 dL_law_389 ic_2 ?_
  refine LJ_iadd dL_law_390 ?_
  refine LJ_sld dL_law_391 (hin 2 _ (by decide) (by decide)) ?_
  refine LJ_callM (As := [.int (xs (i + 1).toNatClampNeg), .int (xs (i + 2).toNatClampNeg)]) (rest := [.int r]) (r := r) lcv_34 dL_law_392 (MX12_jobOf h2) rfl (fun _ => rfl) rfl rfl (Nat.le_of_ble_eq_true rfl) ?_
  refine LJ_eq 1535 dL_law_395 (by decide) ?_
  exact kk _ _ h
set_option maxRecDepth 10000 in
set_option maxHeartbeats 1000000 in
theorem lc_4 {V1 V2 : EV} {b L : Nat} {xs : Nat → Int32} {i : Int32} {wC wM : AW} (h : Rel wC wM) (hin : ∀ (k : Nat) (j : Int32), j = nI k → k ≤ 6 → vp_in (i + j) L) (kk : ∀ wC' wM', Rel wC' wM' → LJ V1 V2 b L xs 1535 [some (.ref b), some (.ref (V1.1 0)), some (.ref (V2.1 0)), some (.int i)] [] wC' wM') : LJ V1 V2 b L xs 400 [some (.ref b), some (.ref (V1.1 0)), some (.ref (V2.1 0)), some (.int i)] [] wC wM := by
  obtain ⟨r, wC', wM', h1, h2, h3⟩ := st_drop h (xs (i + 1).toNatClampNeg)
  refine LJ_aload_n (v := (V1.1 0)) dL_law_400 rfl ?_
  refine LJ_aload_n (v := b) dL_law_401 rfl ?_
  refine LJ_iload_n (v := i) dL_law_402 rfl ?_
  refine LJ_iconst 1 dL_law_403 ic_1 ?_
  refine LJ_iadd dL_law_404 ?_
  refine LJ_sld dL_law_405 (hin 1 _ (by decide) (by decide)) ?_
  refine LJ_callC (As := [.int (xs (i + 1).toNatClampNeg)]) (rest := []) (r := r) lcv_35 dL_law_406 (MX11_drop h1) rfl (fun _ => rfl) rfl rfl (Nat.le_of_ble_eq_true rfl) ?_
  refine LJ_aload_n (v := (V2.1 0)) dL_law_409 rfl ?_
  refine LJ_aload_n (v := b) dL_law_410 rfl ?_
  refine LJ_iload_n (v := i) dL_law_411 rfl ?_
  refine LJ_iconst 1 dL_law_412 ic_1 ?_
  refine LJ_iadd dL_law_413 ?_
  refine LJ_sld dL_law_414 (hin 1 _ (by decide) (by decide)) ?_
  refine LJ_callM (As := [.int (xs (i + 1).toNatClampNeg)]) (rest := [.int r]) (r := r) lcv_39 dL_law_415 (MX12_drop h2) rfl (fun _ => rfl) rfl rfl (Nat.le_of_ble_eq_true rfl) ?_
  refine LJ_eq 1535 dL_law_418 (by decide) ?_
  exact kk _ _ h3
set_option maxRecDepth 10000 in
set_option maxHeartbeats 1000000 in
theorem lc_5 {V1 V2 : EV} {b L : Nat} {xs : Nat → Int32} {i : Int32} {wC wM : AW} (h : Rel wC wM) (hin : ∀ (k : Nat) (j : Int32), j = nI k → k ≤ 6 → vp_in (i + j) L) (kk : ∀ wC' wM', Rel wC' wM' → LJ V1 V2 b L xs 1535 [some (.ref b), some (.ref (V1.1 0)), some (.ref (V2.1 0)), some (.int i)] [] wC' wM') : LJ V1 V2 b L xs 423 [some (.ref b), some (.ref (V1.1 0)), some (.ref (V2.1 0)), some (.int i)] [] wC wM := by
  obtain ⟨r, wC', wM', h1, h2, h3⟩ := st_set h (xs (i + 1).toNatClampNeg) (xs (i + 2).toNatClampNeg)
  refine LJ_aload_n (v := (V1.1 0)) dL_law_423 rfl ?_
  refine LJ_aload_n (v := b) dL_law_424 rfl ?_
  refine LJ_iload_n (v := i) dL_law_425 rfl ?_
  refine LJ_iconst 1 dL_law_426 ic_1 ?_
  refine LJ_iadd dL_law_427 ?_
  refine LJ_sld dL_law_428 (hin 1 _ (by decide) (by decide)) ?_
  refine LJ_aload_n (v := b) dL_law_429 rfl ?_
  refine LJ_iload_n (v := i) dL_law_430 rfl ?_
  refine LJ_iconst 2 dL_law_431 ic_2 ?_
  refine LJ_iadd dL_law_432 ?_
  refine LJ_sld dL_law_433 (hin 2 _ (by decide) (by decide)) ?_
  refine LJ_callC (As := [.int (xs (i + 1).toNatClampNeg), .int (xs (i + 2).toNatClampNeg)]) (rest := []) (r := r) lcv_40 dL_law_434 (MX11_set h1) rfl (fun _ => rfl) rfl rfl (Nat.le_of_ble_eq_true rfl) ?_
  refine LJ_aload_n (v := (V2.1 0)) dL_law_437 rfl ?_
  refine LJ_aload_n (v := b) dL_law_438 rfl ?_
  refine LJ_iload_n (v := i) dL_law_439 rfl ?_
  refine LJ_iconst 1 dL_law_440 ic_1 ?_
  refine LJ_iadd dL_law_441 ?_
  refine LJ_sld dL_law_442 (hin 1 _ (by decide) (by decide)) ?_
  refine LJ_aload_n (v := b) dL_law_443 rfl ?_
  refine LJ_iload_n (v := i) dL_law_444 rfl ?_
  refine LJ_iconst 2 dL_law_445 ic_2 ?_
  refine LJ_iadd dL_law_446 ?_
  refine LJ_sld dL_law_447 (hin 2 _ (by decide) (by decide)) ?_
  refine LJ_callM (As := [.int (xs (i + 1).toNatClampNeg), .int (xs (i + 2).toNatClampNeg)]) (rest := [.int r]) (r := r) lcv_43 dL_law_448 (MX12_set h2) rfl (fun _ => rfl) rfl rfl (Nat.le_of_ble_eq_true rfl) ?_
  refine LJ_eq 1535 dL_law_451 (by decide) ?_
  exact kk _ _ h3
set_option maxRecDepth 10000 in
set_option maxHeartbeats 1000000 in
theorem lc_6 {V1 V2 : EV} {b L : Nat} {xs : Nat → Int32} {i : Int32} {wC wM : AW} (h : Rel wC wM) (hin : ∀ (k : Nat) (j : Int32), j = nI k → k ≤ 6 → vp_in (i + j) L) (kk : ∀ wC' wM', Rel wC' wM' → LJ V1 V2 b L xs 1535 [some (.ref b), some (.ref (V1.1 0)), some (.ref (V2.1 0)), some (.int i)] [] wC' wM') : LJ V1 V2 b L xs 456 [some (.ref b), some (.ref (V1.1 0)), some (.ref (V2.1 0)), some (.int i)] [] wC wM := by
  obtain ⟨r, wC', wM', h1, h2, h3⟩ := st_lose h (xs (i + 1).toNatClampNeg) (xs (i + 2).toNatClampNeg)
  refine LJ_aload_n (v := (V1.1 0)) dL_law_456 rfl ?_
  refine LJ_aload_n (v := b) dL_law_457 rfl ?_
  refine LJ_iload_n (v := i) dL_law_458 rfl ?_
  refine LJ_iconst 1 dL_law_459 ic_1 ?_
  refine LJ_iadd dL_law_460 ?_
  refine LJ_sld dL_law_461 (hin 1 _ (by decide) (by decide)) ?_
  refine LJ_aload_n (v := b) dL_law_462 rfl ?_
  refine LJ_iload_n (v := i) dL_law_463 rfl ?_
  refine LJ_iconst 2 dL_law_464 ic_2 ?_
  refine LJ_iadd dL_law_465 ?_
  refine LJ_sld dL_law_466 (hin 2 _ (by decide) (by decide)) ?_
  refine LJ_callC (As := [.int (xs (i + 1).toNatClampNeg), .int (xs (i + 2).toNatClampNeg)]) (rest := []) (r := r) lcv_44 dL_law_467 (MX11_lose h1) rfl (fun _ => rfl) rfl rfl (Nat.le_of_ble_eq_true rfl) ?_
  refine LJ_aload_n (v := (V2.1 0)) dL_law_470 rfl ?_
  refine LJ_aload_n (v := b) dL_law_471 rfl ?_
  refine LJ_iload_n (v := i) dL_law_472 rfl ?_
  refine LJ_iconst 1 dL_law_473 ic_1 ?_
  refine LJ_iadd dL_law_474 ?_
  refine LJ_sld dL_law_475 (hin 1 _ (by decide) (by decide)) ?_
  refine LJ_aload_n (v := b) dL_law_476 rfl ?_
  refine LJ_iload_n (v := i) dL_law_477 rfl ?_
  refine LJ_iconst 2 dL_law_478 ic_2 ?_
  refine LJ_iadd dL_law_479 ?_
  refine LJ_sld dL_law_480 (hin 2 _ (by decide) (by decide)) ?_
  refine LJ_callM (As := [.int (xs (i + 1).toNatClampNeg), .int (xs (i + 2).toNatClampNeg)]) (rest := [.int r]) (r := r) lcv_47 dL_law_481 (MX12_lose h2) rfl (fun _ => rfl) rfl rfl (Nat.le_of_ble_eq_true rfl) ?_
  refine LJ_eq 1535 dL_law_484 (by decide) ?_
  exact kk _ _ h3
set_option maxRecDepth 10000 in
set_option maxHeartbeats 1000000 in
theorem lc_7 {V1 V2 : EV} {b L : Nat} {xs : Nat → Int32} {i : Int32} {wC wM : AW} (h : Rel wC wM) (hin : ∀ (k : Nat) (j : Int32), j = nI k → k ≤ 6 → vp_in (i + j) L) (kk : ∀ wC' wM', Rel wC' wM' → LJ V1 V2 b L xs 1535 [some (.ref b), some (.ref (V1.1 0)), some (.ref (V2.1 0)), some (.int i)] [] wC' wM') : LJ V1 V2 b L xs 489 [some (.ref b), some (.ref (V1.1 0)), some (.ref (V2.1 0)), some (.int i)] [] wC wM := by
  obtain ⟨r, wC', wM', h1, h2, h3⟩ := st_night h (xs (i + 1).toNatClampNeg) (xs (i + 2).toNatClampNeg)
  refine LJ_aload_n (v := (V1.1 0)) dL_law_489 rfl ?_
  refine LJ_aload_n (v := b) dL_law_490 rfl ?_
  refine LJ_iload_n (v := i) dL_law_491 rfl ?_
  refine LJ_iconst 1 dL_law_492 ic_1 ?_
  refine LJ_iadd dL_law_493 ?_
  refine LJ_sld dL_law_494 (hin 1 _ (by decide) (by decide)) ?_
  refine LJ_aload_n (v := b) dL_law_495 rfl ?_
  refine LJ_iload_n (v := i) dL_law_496 rfl ?_
  refine LJ_iconst 2 dL_law_497 ic_2 ?_
  refine LJ_iadd dL_law_498 ?_
  refine LJ_sld dL_law_499 (hin 2 _ (by decide) (by decide)) ?_
  refine LJ_callC (As := [.int (xs (i + 1).toNatClampNeg), .int (xs (i + 2).toNatClampNeg)]) (rest := []) (r := r) lcv_48 dL_law_500 (MX11_night h1) rfl (fun _ => rfl) rfl rfl (Nat.le_of_ble_eq_true rfl) ?_
  refine LJ_aload_n (v := (V2.1 0)) dL_law_503 rfl ?_
  refine LJ_aload_n (v := b) dL_law_504 rfl ?_
  refine LJ_iload_n (v := i) dL_law_505 rfl ?_
  refine LJ_iconst 1 dL_law_506 ic_1 ?_
  refine LJ_iadd dL_law_507 ?_
  refine LJ_sld dL_law_508 (hin 1 _ (by decide) (by decide)) ?_
  refine LJ_aload_n (v := b) dL_law_509 rfl ?_
  refine LJ_iload_n (v := i) dL_law_510 rfl ?_
  refine LJ_iconst 2 dL_law_511 ic_2 ?_
  refine LJ_iadd dL_law_512 ?_
  refine LJ_sld dL_law_513 (hin 2 _ (by decide) (by decide)) ?_
  refine LJ_callM (As := [.int (xs (i + 1).toNatClampNeg), .int (xs (i + 2).toNatClampNeg)]) (rest := [.int r]) (r := r) lcv_51 dL_law_514 (MX12_night h2) rfl (fun _ => rfl) rfl rfl (Nat.le_of_ble_eq_true rfl) ?_
  refine LJ_eq 1535 dL_law_517 (by decide) ?_
  exact kk _ _ h3
set_option maxRecDepth 10000 in
set_option maxHeartbeats 1000000 in
theorem lc_8 {V1 V2 : EV} {b L : Nat} {xs : Nat → Int32} {i : Int32} {wC wM : AW} (h : Rel wC wM) (hin : ∀ (k : Nat) (j : Int32), j = nI k → k ≤ 6 → vp_in (i + j) L) (kk : ∀ wC' wM', Rel wC' wM' → LJ V1 V2 b L xs 1535 [some (.ref b), some (.ref (V1.1 0)), some (.ref (V2.1 0)), some (.int i)] [] wC' wM') : LJ V1 V2 b L xs 522 [some (.ref b), some (.ref (V1.1 0)), some (.ref (V2.1 0)), some (.int i)] [] wC wM := by
  obtain ⟨r, h1, h2⟩ := st_slots h (xs (i + 1).toNatClampNeg)
  refine LJ_aload_n (v := (V1.1 0)) dL_law_522 rfl ?_
  refine LJ_aload_n (v := b) dL_law_523 rfl ?_
  refine LJ_iload_n (v := i) dL_law_524 rfl ?_
  refine LJ_iconst 1 dL_law_525 ic_1 ?_
  refine LJ_iadd dL_law_526 ?_
  refine LJ_sld dL_law_527 (hin 1 _ (by decide) (by decide)) ?_
  refine LJ_callC (As := [.int (xs (i + 1).toNatClampNeg)]) (rest := []) (r := r) lcv_52 dL_law_528 (MX11_slots h1) rfl (fun _ => rfl) rfl rfl (Nat.le_of_ble_eq_true rfl) ?_
  refine LJ_aload_n (v := (V2.1 0)) dL_law_531 rfl ?_
  refine LJ_aload_n (v := b) dL_law_532 rfl ?_
  refine LJ_iload_n (v := i) dL_law_533 rfl ?_
  refine LJ_iconst 1 dL_law_534 ic_1 ?_
  refine LJ_iadd dL_law_535 ?_
  refine LJ_sld dL_law_536 (hin 1 _ (by decide) (by decide)) ?_
  refine LJ_callM (As := [.int (xs (i + 1).toNatClampNeg)]) (rest := [.int r]) (r := r) lcv_55 dL_law_537 (MX12_slots h2) rfl (fun _ => rfl) rfl rfl (Nat.le_of_ble_eq_true rfl) ?_
  refine LJ_eq 1535 dL_law_540 (by decide) ?_
  exact kk _ _ h
set_option maxRecDepth 10000 in
set_option maxHeartbeats 1000000 in
theorem lc_9 {V1 V2 : EV} {b L : Nat} {xs : Nat → Int32} {i : Int32} {wC wM : AW} (h : Rel wC wM) (hin : ∀ (k : Nat) (j : Int32), j = nI k → k ≤ 6 → vp_in (i + j) L) (kk : ∀ wC' wM', Rel wC' wM' → LJ V1 V2 b L xs 1535 [some (.ref b), some (.ref (V1.1 0)), some (.ref (V2.1 0)), some (.int i)] [] wC' wM') : LJ V1 V2 b L xs 545 [some (.ref b), some (.ref (V1.1 0)), some (.ref (V2.1 0)), some (.int i)] [] wC wM := by
  obtain ⟨r, wC', wM', h1, h2, h3⟩ := st_plan h (xs (i + 1).toNatClampNeg)
  refine LJ_aload_n (v := (V1.1 0)) dL_law_545 rfl ?_
  refine LJ_aload_n (v := b) dL_law_546 rfl ?_
  refine LJ_iload_n (v := i) dL_law_547 rfl ?_
  refine LJ_iconst 1 dL_law_548 ic_1 ?_
  refine LJ_iadd dL_law_549 ?_
  refine LJ_sld dL_law_550 (hin 1 _ (by decide) (by decide)) ?_
  refine LJ_callC (As := [.int (xs (i + 1).toNatClampNeg)]) (rest := []) (r := r) lcv_56 dL_law_551 (MX11_plan h1) rfl (fun _ => rfl) rfl rfl (Nat.le_of_ble_eq_true rfl) ?_
  refine LJ_aload_n (v := (V2.1 0)) dL_law_554 rfl ?_
  refine LJ_aload_n (v := b) dL_law_555 rfl ?_
  refine LJ_iload_n (v := i) dL_law_556 rfl ?_
  refine LJ_iconst 1 dL_law_557 ic_1 ?_
  refine LJ_iadd dL_law_558 ?_
  refine LJ_sld dL_law_559 (hin 1 _ (by decide) (by decide)) ?_
  refine LJ_callM (As := [.int (xs (i + 1).toNatClampNeg)]) (rest := [.int r]) (r := r) lcv_59 dL_law_560 (MX12_plan h2) rfl (fun _ => rfl) rfl rfl (Nat.le_of_ble_eq_true rfl) ?_
  refine LJ_eq 1535 dL_law_563 (by decide) ?_
  exact kk _ _ h3
set_option maxRecDepth 10000 in
set_option maxHeartbeats 1000000 in
theorem lc_10 {V1 V2 : EV} {b L : Nat} {xs : Nat → Int32} {i : Int32} {wC wM : AW} (h : Rel wC wM) (hin : ∀ (k : Nat) (j : Int32), j = nI k → k ≤ 6 → vp_in (i + j) L) (kk : ∀ wC' wM', Rel wC' wM' → LJ V1 V2 b L xs 1535 [some (.ref b), some (.ref (V1.1 0)), some (.ref (V2.1 0)), some (.int i)] [] wC' wM') : LJ V1 V2 b L xs 568 [some (.ref b), some (.ref (V1.1 0)), some (.ref (V2.1 0)), some (.int i)] [] wC wM := by
  obtain ⟨r, h1, h2⟩ := st_planOf h (xs (i + 1).toNatClampNeg)
  refine LJ_aload_n (v := (V1.1 0)) dL_law_568 rfl ?_
  refine LJ_aload_n (v := b) dL_law_569 rfl ?_
  refine LJ_iload_n (v := i) dL_law_570 rfl ?_
  refine LJ_iconst 1 dL_law_571 ic_1 ?_
  refine LJ_iadd dL_law_572 ?_
  refine LJ_sld dL_law_573 (hin 1 _ (by decide) (by decide)) ?_
  refine LJ_callC (As := [.int (xs (i + 1).toNatClampNeg)]) (rest := []) (r := r) lcv_60 dL_law_574 (MX11_planOf h1) rfl (fun _ => rfl) rfl rfl (Nat.le_of_ble_eq_true rfl) ?_
  refine LJ_aload_n (v := (V2.1 0)) dL_law_577 rfl ?_
  refine LJ_aload_n (v := b) dL_law_578 rfl ?_
  refine LJ_iload_n (v := i) dL_law_579 rfl ?_
  refine LJ_iconst 1 dL_law_580 ic_1 ?_
  refine LJ_iadd dL_law_581 ?_
  refine LJ_sld dL_law_582 (hin 1 _ (by decide) (by decide)) ?_
  refine LJ_callM (As := [.int (xs (i + 1).toNatClampNeg)]) (rest := [.int r]) (r := r) lcv_63 dL_law_583 (MX12_planOf h2) rfl (fun _ => rfl) rfl rfl (Nat.le_of_ble_eq_true rfl) ?_
  refine LJ_eq 1535 dL_law_586 (by decide) ?_
  exact kk _ _ h
set_option maxRecDepth 10000 in
set_option maxHeartbeats 1000000 in
theorem lc_11 {V1 V2 : EV} {b L : Nat} {xs : Nat → Int32} {i : Int32} {wC wM : AW} (h : Rel wC wM) (hin : ∀ (k : Nat) (j : Int32), j = nI k → k ≤ 6 → vp_in (i + j) L) (kk : ∀ wC' wM', Rel wC' wM' → LJ V1 V2 b L xs 1535 [some (.ref b), some (.ref (V1.1 0)), some (.ref (V2.1 0)), some (.int i)] [] wC' wM') : LJ V1 V2 b L xs 591 [some (.ref b), some (.ref (V1.1 0)), some (.ref (V2.1 0)), some (.int i)] [] wC wM := by
  obtain ⟨r, h1, h2⟩ := st_press h (xs (i + 1).toNatClampNeg)
  refine LJ_aload_n (v := (V1.1 0)) dL_law_591 rfl ?_
  refine LJ_aload_n (v := b) dL_law_592 rfl ?_
  refine LJ_iload_n (v := i) dL_law_593 rfl ?_
  refine LJ_iconst 1 dL_law_594 ic_1 ?_
  refine LJ_iadd dL_law_595 ?_
  refine LJ_sld dL_law_596 (hin 1 _ (by decide) (by decide)) ?_
  refine LJ_callC (As := [.int (xs (i + 1).toNatClampNeg)]) (rest := []) (r := r) lcv_64 dL_law_597 (MX11_press h1) rfl (fun _ => rfl) rfl rfl (Nat.le_of_ble_eq_true rfl) ?_
  refine LJ_aload_n (v := (V2.1 0)) dL_law_600 rfl ?_
  refine LJ_aload_n (v := b) dL_law_601 rfl ?_
  refine LJ_iload_n (v := i) dL_law_602 rfl ?_
  refine LJ_iconst 1 dL_law_603 ic_1 ?_
  refine LJ_iadd dL_law_604 ?_
  refine LJ_sld dL_law_605 (hin 1 _ (by decide) (by decide)) ?_
  refine LJ_callM (As := [.int (xs (i + 1).toNatClampNeg)]) (rest := [.int r]) (r := r) lcv_67 dL_law_606 (MX12_press h2) rfl (fun _ => rfl) rfl rfl (Nat.le_of_ble_eq_true rfl) ?_
  refine LJ_eq 1535 dL_law_609 (by decide) ?_
  exact kk _ _ h
set_option maxRecDepth 10000 in
set_option maxHeartbeats 1000000 in
theorem lc_12 {V1 V2 : EV} {b L : Nat} {xs : Nat → Int32} {i : Int32} {wC wM : AW} (h : Rel wC wM) (hin : ∀ (k : Nat) (j : Int32), j = nI k → k ≤ 6 → vp_in (i + j) L) (kk : ∀ wC' wM', Rel wC' wM' → LJ V1 V2 b L xs 1535 [some (.ref b), some (.ref (V1.1 0)), some (.ref (V2.1 0)), some (.int i)] [] wC' wM') : LJ V1 V2 b L xs 614 [some (.ref b), some (.ref (V1.1 0)), some (.ref (V2.1 0)), some (.int i)] [] wC wM := by
  obtain ⟨r, wC', wM', h1, h2, h3⟩ := st_ends h (xs (i + 1).toNatClampNeg)
  refine LJ_aload_n (v := (V1.1 0)) dL_law_614 rfl ?_
  refine LJ_aload_n (v := b) dL_law_615 rfl ?_
  refine LJ_iload_n (v := i) dL_law_616 rfl ?_
  refine LJ_iconst 1 dL_law_617 ic_1 ?_
  refine LJ_iadd dL_law_618 ?_
  refine LJ_sld dL_law_619 (hin 1 _ (by decide) (by decide)) ?_
  refine LJ_callC (As := [.int (xs (i + 1).toNatClampNeg)]) (rest := []) (r := r) lcv_68 dL_law_620 (MX11_ends h1) rfl (fun _ => rfl) rfl rfl (Nat.le_of_ble_eq_true rfl) ?_
  refine LJ_aload_n (v := (V2.1 0)) dL_law_623 rfl ?_
  refine LJ_aload_n (v := b) dL_law_624 rfl ?_
  refine LJ_iload_n (v := i) dL_law_625 rfl ?_
  refine LJ_iconst 1 dL_law_626 ic_1 ?_
  refine LJ_iadd dL_law_627 ?_
  refine LJ_sld dL_law_628 (hin 1 _ (by decide) (by decide)) ?_
  refine LJ_callM (As := [.int (xs (i + 1).toNatClampNeg)]) (rest := [.int r]) (r := r) lcv_71 dL_law_629 (MX12_ends h2) rfl (fun _ => rfl) rfl rfl (Nat.le_of_ble_eq_true rfl) ?_
  refine LJ_eq 1535 dL_law_632 (by decide) ?_
  exact kk _ _ h3
set_option maxRecDepth 10000 in
set_option maxHeartbeats 1000000 in
theorem lc_13 {V1 V2 : EV} {b L : Nat} {xs : Nat → Int32} {i : Int32} {wC wM : AW} (h : Rel wC wM) (hin : ∀ (k : Nat) (j : Int32), j = nI k → k ≤ 6 → vp_in (i + j) L) (kk : ∀ wC' wM', Rel wC' wM' → LJ V1 V2 b L xs 1535 [some (.ref b), some (.ref (V1.1 0)), some (.ref (V2.1 0)), some (.int i)] [] wC' wM') : LJ V1 V2 b L xs 637 [some (.ref b), some (.ref (V1.1 0)), some (.ref (V2.1 0)), some (.int i)] [] wC wM := by
  obtain ⟨r, wC', wM', h1, h2, h3⟩ := st_late h 
  refine LJ_aload_n (v := (V1.1 0)) dL_law_637 rfl ?_
  refine LJ_callC (As := []) (rest := []) (r := r) lcv_72 dL_law_638 (MX11_late h1) rfl (fun _ => rfl) rfl rfl (Nat.le_of_ble_eq_true rfl) ?_
  refine LJ_aload_n (v := (V2.1 0)) dL_law_641 rfl ?_
  refine LJ_callM (As := []) (rest := [.int r]) (r := r) lcv_75 dL_law_642 (MX12_late h2) rfl (fun _ => rfl) rfl rfl (Nat.le_of_ble_eq_true rfl) ?_
  refine LJ_eq 1535 dL_law_645 (by decide) ?_
  exact kk _ _ h3
set_option maxRecDepth 10000 in
set_option maxHeartbeats 1000000 in
theorem lc_14 {V1 V2 : EV} {b L : Nat} {xs : Nat → Int32} {i : Int32} {wC wM : AW} (h : Rel wC wM) (hin : ∀ (k : Nat) (j : Int32), j = nI k → k ≤ 6 → vp_in (i + j) L) (kk : ∀ wC' wM', Rel wC' wM' → LJ V1 V2 b L xs 1535 [some (.ref b), some (.ref (V1.1 0)), some (.ref (V2.1 0)), some (.int i)] [] wC' wM') : LJ V1 V2 b L xs 650 [some (.ref b), some (.ref (V1.1 0)), some (.ref (V2.1 0)), some (.int i)] [] wC wM := by
  obtain ⟨r, wC', wM', h1, h2, h3⟩ := st_worth h 
  refine LJ_aload_n (v := (V1.1 0)) dL_law_650 rfl ?_
  refine LJ_callC (As := []) (rest := []) (r := r) lcv_76 dL_law_651 (MX11_worth h1) rfl (fun _ => rfl) rfl rfl (Nat.le_of_ble_eq_true rfl) ?_
  refine LJ_aload_n (v := (V2.1 0)) dL_law_654 rfl ?_
  refine LJ_callM (As := []) (rest := [.int r]) (r := r) lcv_79 dL_law_655 (MX12_worth h2) rfl (fun _ => rfl) rfl rfl (Nat.le_of_ble_eq_true rfl) ?_
  refine LJ_eq 1535 dL_law_658 (by decide) ?_
  exact kk _ _ h3
set_option maxRecDepth 10000 in
set_option maxHeartbeats 1000000 in
theorem lc_15 {V1 V2 : EV} {b L : Nat} {xs : Nat → Int32} {i : Int32} {wC wM : AW} (h : Rel wC wM) (hin : ∀ (k : Nat) (j : Int32), j = nI k → k ≤ 6 → vp_in (i + j) L) (kk : ∀ wC' wM', Rel wC' wM' → LJ V1 V2 b L xs 1535 [some (.ref b), some (.ref (V1.1 0)), some (.ref (V2.1 0)), some (.int i)] [] wC' wM') : LJ V1 V2 b L xs 663 [some (.ref b), some (.ref (V1.1 0)), some (.ref (V2.1 0)), some (.int i)] [] wC wM := by
  obtain ⟨r, wC', wM', h1, h2, h3⟩ := st_best h (xs (i + 1).toNatClampNeg)
  refine LJ_aload_n (v := (V1.1 0)) dL_law_663 rfl ?_
  refine LJ_aload_n (v := b) dL_law_664 rfl ?_
  refine LJ_iload_n (v := i) dL_law_665 rfl ?_
  refine LJ_iconst 1 dL_law_666 ic_1 ?_
  refine LJ_iadd dL_law_667 ?_
  refine LJ_sld dL_law_668 (hin 1 _ (by decide) (by decide)) ?_
  refine LJ_callC (As := [.int (xs (i + 1).toNatClampNeg)]) (rest := []) (r := r) lcv_80 dL_law_669 (MX11_best h1) rfl (fun _ => rfl) rfl rfl (Nat.le_of_ble_eq_true rfl) ?_
  refine LJ_aload_n (v := (V2.1 0)) dL_law_672 rfl ?_
  refine LJ_aload_n (v := b) dL_law_673 rfl ?_
  refine LJ_iload_n (v := i) dL_law_674 rfl ?_
  refine LJ_iconst 1 dL_law_675 ic_1 ?_
  refine LJ_iadd dL_law_676 ?_
  refine LJ_sld dL_law_677 (hin 1 _ (by decide) (by decide)) ?_
  refine LJ_callM (As := [.int (xs (i + 1).toNatClampNeg)]) (rest := [.int r]) (r := r) lcv_83 dL_law_678 (MX12_best h2) rfl (fun _ => rfl) rfl rfl (Nat.le_of_ble_eq_true rfl) ?_
  refine LJ_eq 1535 dL_law_681 (by decide) ?_
  exact kk _ _ h3
set_option maxRecDepth 10000 in
set_option maxHeartbeats 1000000 in
theorem lc_16 {V1 V2 : EV} {b L : Nat} {xs : Nat → Int32} {i : Int32} {wC wM : AW} (h : Rel wC wM) (hin : ∀ (k : Nat) (j : Int32), j = nI k → k ≤ 6 → vp_in (i + j) L) (kk : ∀ wC' wM', Rel wC' wM' → LJ V1 V2 b L xs 1535 [some (.ref b), some (.ref (V1.1 0)), some (.ref (V2.1 0)), some (.int i)] [] wC' wM') : LJ V1 V2 b L xs 686 [some (.ref b), some (.ref (V1.1 0)), some (.ref (V2.1 0)), some (.int i)] [] wC wM := by
  obtain ⟨r, wC', wM', h1, h2, h3⟩ := st_fewest h 
  refine LJ_aload_n (v := (V1.1 0)) dL_law_686 rfl ?_
  refine LJ_callC (As := []) (rest := []) (r := r) lcv_84 dL_law_687 (MX11_fewest h1) rfl (fun _ => rfl) rfl rfl (Nat.le_of_ble_eq_true rfl) ?_
  refine LJ_aload_n (v := (V2.1 0)) dL_law_690 rfl ?_
  refine LJ_callM (As := []) (rest := [.int r]) (r := r) lcv_87 dL_law_691 (MX12_fewest h2) rfl (fun _ => rfl) rfl rfl (Nat.le_of_ble_eq_true rfl) ?_
  refine LJ_eq 1535 dL_law_694 (by decide) ?_
  exact kk _ _ h3
set_option maxRecDepth 10000 in
set_option maxHeartbeats 1000000 in
theorem lc_17 {V1 V2 : EV} {b L : Nat} {xs : Nat → Int32} {i : Int32} {wC wM : AW} (h : Rel wC wM) (hin : ∀ (k : Nat) (j : Int32), j = nI k → k ≤ 6 → vp_in (i + j) L) (kk : ∀ wC' wM', Rel wC' wM' → LJ V1 V2 b L xs 1535 [some (.ref b), some (.ref (V1.1 0)), some (.ref (V2.1 0)), some (.int i)] [] wC' wM') : LJ V1 V2 b L xs 699 [some (.ref b), some (.ref (V1.1 0)), some (.ref (V2.1 0)), some (.int i)] [] wC wM := by
  obtain ⟨r, wC', wM', h1, h2, h3⟩ := st_soonest h (xs (i + 1).toNatClampNeg) (xs (i + 2).toNatClampNeg) (xs (i + 3).toNatClampNeg)
  refine LJ_aload_n (v := (V1.1 0)) dL_law_699 rfl ?_
  refine LJ_aload_n (v := b) dL_law_700 rfl ?_
  refine LJ_iload_n (v := i) dL_law_701 rfl ?_
  refine LJ_iconst 1 dL_law_702 ic_1 ?_
  refine LJ_iadd dL_law_703 ?_
  refine LJ_sld dL_law_704 (hin 1 _ (by decide) (by decide)) ?_
  refine LJ_aload_n (v := b) dL_law_705 rfl ?_
  refine LJ_iload_n (v := i) dL_law_706 rfl ?_
  refine LJ_iconst 2 dL_law_707 ic_2 ?_
  refine LJ_iadd dL_law_708 ?_
  refine LJ_sld dL_law_709 (hin 2 _ (by decide) (by decide)) ?_
  refine LJ_aload_n (v := b) dL_law_710 rfl ?_
  refine LJ_iload_n (v := i) dL_law_711 rfl ?_
  refine LJ_iconst 3 dL_law_712 ic_3 ?_
  refine LJ_iadd dL_law_713 ?_
  refine LJ_sld dL_law_714 (hin 3 _ (by decide) (by decide)) ?_
  refine LJ_callC (As := [.int (xs (i + 1).toNatClampNeg), .int (xs (i + 2).toNatClampNeg), .int (xs (i + 3).toNatClampNeg)]) (rest := []) (r := r) lcv_88 dL_law_715 (MX11_soonest h1) rfl (fun _ => rfl) rfl rfl (Nat.le_of_ble_eq_true rfl) ?_
  refine LJ_aload_n (v := (V2.1 0)) dL_law_718 rfl ?_
  refine LJ_aload_n (v := b) dL_law_719 rfl ?_
  refine LJ_iload_n (v := i) dL_law_720 rfl ?_
  refine LJ_iconst 1 dL_law_721 ic_1 ?_
  refine LJ_iadd dL_law_722 ?_
  refine LJ_sld dL_law_723 (hin 1 _ (by decide) (by decide)) ?_
  refine LJ_aload_n (v := b) dL_law_724 rfl ?_
  refine LJ_iload_n (v := i) dL_law_725 rfl ?_
  refine LJ_iconst 2 dL_law_726 ic_2 ?_
  refine LJ_iadd dL_law_727 ?_
  refine LJ_sld dL_law_728 (hin 2 _ (by decide) (by decide)) ?_
  refine LJ_aload_n (v := b) dL_law_729 rfl ?_
  refine LJ_iload_n (v := i) dL_law_730 rfl ?_
  refine LJ_iconst 3 dL_law_731 ic_3 ?_
  refine LJ_iadd dL_law_732 ?_
  refine LJ_sld dL_law_733 (hin 3 _ (by decide) (by decide)) ?_
  refine LJ_callM (As := [.int (xs (i + 1).toNatClampNeg), .int (xs (i + 2).toNatClampNeg), .int (xs (i + 3).toNatClampNeg)]) (rest := [.int r]) (r := r) lcv_92 dL_law_734 (MX12_soonest h2) rfl (fun _ => rfl) rfl rfl (Nat.le_of_ble_eq_true rfl) ?_
  refine LJ_eq 1535 dL_law_737 (by decide) ?_
  exact kk _ _ h3
set_option maxRecDepth 10000 in
set_option maxHeartbeats 1000000 in
theorem lc_18 {V1 V2 : EV} {b L : Nat} {xs : Nat → Int32} {i : Int32} {wC wM : AW} (h : Rel wC wM) (hin : ∀ (k : Nat) (j : Int32), j = nI k → k ≤ 6 → vp_in (i + j) L) (kk : ∀ wC' wM', Rel wC' wM' → LJ V1 V2 b L xs 1535 [some (.ref b), some (.ref (V1.1 0)), some (.ref (V2.1 0)), some (.int i)] [] wC' wM') : LJ V1 V2 b L xs 742 [some (.ref b), some (.ref (V1.1 0)), some (.ref (V2.1 0)), some (.int i)] [] wC wM := by
  obtain ⟨r, wC', wM', h1, h2, h3⟩ := st_gain h (xs (i + 1).toNatClampNeg) (xs (i + 2).toNatClampNeg) (xs (i + 3).toNatClampNeg) (xs (i + 4).toNatClampNeg) (xs (i + 5).toNatClampNeg)
  refine LJ_aload_n (v := (V1.1 0)) dL_law_742 rfl ?_
  refine LJ_aload_n (v := b) dL_law_743 rfl ?_
  refine LJ_iload_n (v := i) dL_law_744 rfl ?_
  refine LJ_iconst 1 dL_law_745 ic_1 ?_
  refine LJ_iadd dL_law_746 ?_
  refine LJ_sld dL_law_747 (hin 1 _ (by decide) (by decide)) ?_
  refine LJ_aload_n (v := b) dL_law_748 rfl ?_
  refine LJ_iload_n (v := i) dL_law_749 rfl ?_
  refine LJ_iconst 2 dL_law_750 ic_2 ?_
  refine LJ_iadd dL_law_751 ?_
  refine LJ_sld dL_law_752 (hin 2 _ (by decide) (by decide)) ?_
  refine LJ_aload_n (v := b) dL_law_753 rfl ?_
  refine LJ_iload_n (v := i) dL_law_754 rfl ?_
  refine LJ_iconst 3 dL_law_755 ic_3 ?_
  refine LJ_iadd dL_law_756 ?_
  refine LJ_sld dL_law_757 (hin 3 _ (by decide) (by decide)) ?_
  refine LJ_aload_n (v := b) dL_law_758 rfl ?_
  refine LJ_iload_n (v := i) dL_law_759 rfl ?_
  refine LJ_iconst 4 dL_law_760 ic_4 ?_
  refine LJ_iadd dL_law_761 ?_
  refine LJ_sld dL_law_762 (hin 4 _ (by decide) (by decide)) ?_
  refine LJ_aload_n (v := b) dL_law_763 rfl ?_
  refine LJ_iload_n (v := i) dL_law_764 rfl ?_
  refine LJ_iconst 5 dL_law_765 ic_5 ?_
  refine LJ_iadd dL_law_766 ?_
  refine LJ_sld dL_law_767 (hin 5 _ (by decide) (by decide)) ?_
  refine LJ_callC (As := [.int (xs (i + 1).toNatClampNeg), .int (xs (i + 2).toNatClampNeg), .int (xs (i + 3).toNatClampNeg), .int (xs (i + 4).toNatClampNeg), .int (xs (i + 5).toNatClampNeg)]) (rest := []) (r := r) lcv_93 dL_law_768 (MX11_gain h1) rfl (fun _ => rfl) rfl rfl (Nat.le_of_ble_eq_true rfl) ?_
  refine LJ_aload_n (v := (V2.1 0)) dL_law_771 rfl ?_
  refine LJ_aload_n (v := b) dL_law_772 rfl ?_
  refine LJ_iload_n (v := i) dL_law_773 rfl ?_
  refine LJ_iconst 1 dL_law_774 ic_1 ?_
  refine LJ_iadd dL_law_775 ?_
  refine LJ_sld dL_law_776 (hin 1 _ (by decide) (by decide)) ?_
  refine LJ_aload_n (v := b) dL_law_777 rfl ?_
  refine LJ_iload_n (v := i) dL_law_778 rfl ?_
  refine LJ_iconst 2 dL_law_779 ic_2 ?_
  refine LJ_iadd dL_law_780 ?_
  refine LJ_sld dL_law_781 (hin 2 _ (by decide) (by decide)) ?_
  refine LJ_aload_n (v := b) dL_law_782 rfl ?_
  refine LJ_iload_n (v := i) dL_law_783 rfl ?_
  refine LJ_iconst 3 dL_law_784 ic_3 ?_
  refine LJ_iadd dL_law_785 ?_
  refine LJ_sld dL_law_786 (hin 3 _ (by decide) (by decide)) ?_
  refine LJ_aload_n (v := b) dL_law_787 rfl ?_
  refine LJ_iload_n (v := i) dL_law_788 rfl ?_
  refine LJ_iconst 4 dL_law_789 ic_4 ?_
  refine LJ_iadd dL_law_790 ?_
  refine LJ_sld dL_law_791 (hin 4 _ (by decide) (by decide)) ?_
  refine LJ_aload_n (v := b) dL_law_792 rfl ?_
  refine LJ_iload_n (v := i) dL_law_793 rfl ?_
  refine LJ_iconst 5 dL_law_794 ic_5 ?_
  refine LJ_iadd dL_law_795 ?_
  refine LJ_sld dL_law_796 (hin 5 _ (by decide) (by decide)) ?_
  refine LJ_callM (As := [.int (xs (i + 1).toNatClampNeg), .int (xs (i + 2).toNatClampNeg), .int (xs (i + 3).toNatClampNeg), .int (xs (i + 4).toNatClampNeg), .int (xs (i + 5).toNatClampNeg)]) (rest := [.int r]) (r := r) lcv_96 dL_law_797 (MX12_gain h2) rfl (fun _ => rfl) rfl rfl (Nat.le_of_ble_eq_true rfl) ?_
  refine LJ_eq 1535 dL_law_800 (by decide) ?_
  exact kk _ _ h3
set_option maxRecDepth 10000 in
set_option maxHeartbeats 1000000 in
theorem lc_19 {V1 V2 : EV} {b L : Nat} {xs : Nat → Int32} {i : Int32} {wC wM : AW} (h : Rel wC wM) (hin : ∀ (k : Nat) (j : Int32), j = nI k → k ≤ 6 → vp_in (i + j) L) (kk : ∀ wC' wM', Rel wC' wM' → LJ V1 V2 b L xs 1535 [some (.ref b), some (.ref (V1.1 0)), some (.ref (V2.1 0)), some (.int i)] [] wC' wM') : LJ V1 V2 b L xs 805 [some (.ref b), some (.ref (V1.1 0)), some (.ref (V2.1 0)), some (.int i)] [] wC wM := by
  obtain ⟨r, wC', wM', h1, h2, h3⟩ := st_across h (xs (i + 1).toNatClampNeg)
  refine LJ_aload_n (v := (V1.1 0)) dL_law_805 rfl ?_
  refine LJ_aload_n (v := b) dL_law_806 rfl ?_
  refine LJ_iload_n (v := i) dL_law_807 rfl ?_
  refine LJ_iconst 1 dL_law_808 ic_1 ?_
  refine LJ_iadd dL_law_809 ?_
  refine LJ_sld dL_law_810 (hin 1 _ (by decide) (by decide)) ?_
  refine LJ_callC (As := [.int (xs (i + 1).toNatClampNeg)]) (rest := []) (r := r) lcv_97 dL_law_811 (MX11_across h1) rfl (fun _ => rfl) rfl rfl (Nat.le_of_ble_eq_true rfl) ?_
  refine LJ_aload_n (v := (V2.1 0)) dL_law_814 rfl ?_
  refine LJ_aload_n (v := b) dL_law_815 rfl ?_
  refine LJ_iload_n (v := i) dL_law_816 rfl ?_
  refine LJ_iconst 1 dL_law_817 ic_1 ?_
  refine LJ_iadd dL_law_818 ?_
  refine LJ_sld dL_law_819 (hin 1 _ (by decide) (by decide)) ?_
  refine LJ_callM (As := [.int (xs (i + 1).toNatClampNeg)]) (rest := [.int r]) (r := r) lcv_100 dL_law_820 (MX12_across h2) rfl (fun _ => rfl) rfl rfl (Nat.le_of_ble_eq_true rfl) ?_
  refine LJ_eq 1535 dL_law_823 (by decide) ?_
  exact kk _ _ h3
set_option maxRecDepth 10000 in
set_option maxHeartbeats 1000000 in
theorem lc_20 {V1 V2 : EV} {b L : Nat} {xs : Nat → Int32} {i : Int32} {wC wM : AW} (h : Rel wC wM) (hin : ∀ (k : Nat) (j : Int32), j = nI k → k ≤ 6 → vp_in (i + j) L) (kk : ∀ wC' wM', Rel wC' wM' → LJ V1 V2 b L xs 1535 [some (.ref b), some (.ref (V1.1 0)), some (.ref (V2.1 0)), some (.int i)] [] wC' wM') : LJ V1 V2 b L xs 828 [some (.ref b), some (.ref (V1.1 0)), some (.ref (V2.1 0)), some (.int i)] [] wC wM := by
  obtain ⟨r, wC', wM', h1, h2, h3⟩ := st_nights h 
  refine LJ_aload_n (v := (V1.1 0)) dL_law_828 rfl ?_
  refine LJ_callC (As := []) (rest := []) (r := r) lcv_101 dL_law_829 (MX11_nights h1) rfl (fun _ => rfl) rfl rfl (Nat.le_of_ble_eq_true rfl) ?_
  refine LJ_aload_n (v := (V2.1 0)) dL_law_832 rfl ?_
  refine LJ_callM (As := []) (rest := [.int r]) (r := r) lcv_104 dL_law_833 (MX12_nights h2) rfl (fun _ => rfl) rfl rfl (Nat.le_of_ble_eq_true rfl) ?_
  refine LJ_eq 1535 dL_law_836 (by decide) ?_
  exact kk _ _ h3
set_option maxRecDepth 10000 in
set_option maxHeartbeats 1000000 in
theorem lc_21 {V1 V2 : EV} {b L : Nat} {xs : Nat → Int32} {i : Int32} {wC wM : AW} (h : Rel wC wM) (hin : ∀ (k : Nat) (j : Int32), j = nI k → k ≤ 6 → vp_in (i + j) L) (kk : ∀ wC' wM', Rel wC' wM' → LJ V1 V2 b L xs 1535 [some (.ref b), some (.ref (V1.1 0)), some (.ref (V2.1 0)), some (.int i)] [] wC' wM') : LJ V1 V2 b L xs 841 [some (.ref b), some (.ref (V1.1 0)), some (.ref (V2.1 0)), some (.int i)] [] wC wM := by
  obtain ⟨r, wC', wM', h1, h2, h3⟩ := st_sure h (xs (i + 1).toNatClampNeg)
  refine LJ_aload_n (v := (V1.1 0)) dL_law_841 rfl ?_
  refine LJ_aload_n (v := b) dL_law_842 rfl ?_
  refine LJ_iload_n (v := i) dL_law_843 rfl ?_
  refine LJ_iconst 1 dL_law_844 ic_1 ?_
  refine LJ_iadd dL_law_845 ?_
  refine LJ_sld dL_law_846 (hin 1 _ (by decide) (by decide)) ?_
  refine LJ_callC (As := [.int (xs (i + 1).toNatClampNeg)]) (rest := []) (r := r) lcv_105 dL_law_847 (MX11_sure h1) rfl (fun _ => rfl) rfl rfl (Nat.le_of_ble_eq_true rfl) ?_
  refine LJ_aload_n (v := (V2.1 0)) dL_law_850 rfl ?_
  refine LJ_aload_n (v := b) dL_law_851 rfl ?_
  refine LJ_iload_n (v := i) dL_law_852 rfl ?_
  refine LJ_iconst 1 dL_law_853 ic_1 ?_
  refine LJ_iadd dL_law_854 ?_
  refine LJ_sld dL_law_855 (hin 1 _ (by decide) (by decide)) ?_
  refine LJ_callM (As := [.int (xs (i + 1).toNatClampNeg)]) (rest := [.int r]) (r := r) lcv_108 dL_law_856 (MX12_sure h2) rfl (fun _ => rfl) rfl rfl (Nat.le_of_ble_eq_true rfl) ?_
  refine LJ_eq 1535 dL_law_859 (by decide) ?_
  exact kk _ _ h3
set_option maxRecDepth 10000 in
set_option maxHeartbeats 1000000 in
theorem lc_22 {V1 V2 : EV} {b L : Nat} {xs : Nat → Int32} {i : Int32} {wC wM : AW} (h : Rel wC wM) (hin : ∀ (k : Nat) (j : Int32), j = nI k → k ≤ 6 → vp_in (i + j) L) (kk : ∀ wC' wM', Rel wC' wM' → LJ V1 V2 b L xs 1535 [some (.ref b), some (.ref (V1.1 0)), some (.ref (V2.1 0)), some (.int i)] [] wC' wM') : LJ V1 V2 b L xs 864 [some (.ref b), some (.ref (V1.1 0)), some (.ref (V2.1 0)), some (.int i)] [] wC wM := by
  obtain ⟨r, wC', wM', h1, h2, h3⟩ := st_safest h (xs (i + 1).toNatClampNeg)
  refine LJ_aload_n (v := (V1.1 0)) dL_law_864 rfl ?_
  refine LJ_aload_n (v := b) dL_law_865 rfl ?_
  refine LJ_iload_n (v := i) dL_law_866 rfl ?_
  refine LJ_iconst 1 dL_law_867 ic_1 ?_
  refine LJ_iadd dL_law_868 ?_
  refine LJ_sld dL_law_869 (hin 1 _ (by decide) (by decide)) ?_
  refine LJ_callC (As := [.int (xs (i + 1).toNatClampNeg)]) (rest := []) (r := r) lcv_109 dL_law_870 (MX11_safest h1) rfl (fun _ => rfl) rfl rfl (Nat.le_of_ble_eq_true rfl) ?_
  refine LJ_aload_n (v := (V2.1 0)) dL_law_873 rfl ?_
  refine LJ_aload_n (v := b) dL_law_874 rfl ?_
  refine LJ_iload_n (v := i) dL_law_875 rfl ?_
  refine LJ_iconst 1 dL_law_876 ic_1 ?_
  refine LJ_iadd dL_law_877 ?_
  refine LJ_sld dL_law_878 (hin 1 _ (by decide) (by decide)) ?_
  refine LJ_callM (As := [.int (xs (i + 1).toNatClampNeg)]) (rest := [.int r]) (r := r) lcv_112 dL_law_879 (MX12_safest h2) rfl (fun _ => rfl) rfl rfl (Nat.le_of_ble_eq_true rfl) ?_
  refine LJ_eq 1535 dL_law_882 (by decide) ?_
  exact kk _ _ h3
set_option maxRecDepth 10000 in
set_option maxHeartbeats 1000000 in
theorem lc_23 {V1 V2 : EV} {b L : Nat} {xs : Nat → Int32} {i : Int32} {wC wM : AW} (h : Rel wC wM) (hin : ∀ (k : Nat) (j : Int32), j = nI k → k ≤ 6 → vp_in (i + j) L) (kk : ∀ wC' wM', Rel wC' wM' → LJ V1 V2 b L xs 1535 [some (.ref b), some (.ref (V1.1 0)), some (.ref (V2.1 0)), some (.int i)] [] wC' wM') : LJ V1 V2 b L xs 887 [some (.ref b), some (.ref (V1.1 0)), some (.ref (V2.1 0)), some (.int i)] [] wC wM := by
  obtain ⟨r, wC', wM', h1, h2, h3⟩ := st_mean h (xs (i + 1).toNatClampNeg)
  refine LJ_aload_n (v := (V1.1 0)) dL_law_887 rfl ?_
  refine LJ_aload_n (v := b) dL_law_888 rfl ?_
  refine LJ_iload_n (v := i) dL_law_889 rfl ?_
  refine LJ_iconst 1 dL_law_890 ic_1 ?_
  refine LJ_iadd dL_law_891 ?_
  refine LJ_sld dL_law_892 (hin 1 _ (by decide) (by decide)) ?_
  refine LJ_callC (As := [.int (xs (i + 1).toNatClampNeg)]) (rest := []) (r := r) lcv_113 dL_law_893 (MX11_mean h1) rfl (fun _ => rfl) rfl rfl (Nat.le_of_ble_eq_true rfl) ?_
  refine LJ_aload_n (v := (V2.1 0)) dL_law_896 rfl ?_
  refine LJ_aload_n (v := b) dL_law_897 rfl ?_
  refine LJ_iload_n (v := i) dL_law_898 rfl ?_
  refine LJ_iconst 1 dL_law_899 ic_1 ?_
  refine LJ_iadd dL_law_900 ?_
  refine LJ_sld dL_law_901 (hin 1 _ (by decide) (by decide)) ?_
  refine LJ_callM (As := [.int (xs (i + 1).toNatClampNeg)]) (rest := [.int r]) (r := r) lcv_116 dL_law_902 (MX12_mean h2) rfl (fun _ => rfl) rfl rfl (Nat.le_of_ble_eq_true rfl) ?_
  refine LJ_eq 1535 dL_law_905 (by decide) ?_
  exact kk _ _ h3
set_option maxRecDepth 10000 in
set_option maxHeartbeats 1000000 in
theorem lc_24 {V1 V2 : EV} {b L : Nat} {xs : Nat → Int32} {i : Int32} {wC wM : AW} (h : Rel wC wM) (hin : ∀ (k : Nat) (j : Int32), j = nI k → k ≤ 6 → vp_in (i + j) L) (kk : ∀ wC' wM', Rel wC' wM' → LJ V1 V2 b L xs 1535 [some (.ref b), some (.ref (V1.1 0)), some (.ref (V2.1 0)), some (.int i)] [] wC' wM') : LJ V1 V2 b L xs 910 [some (.ref b), some (.ref (V1.1 0)), some (.ref (V2.1 0)), some (.int i)] [] wC wM := by
  obtain ⟨r, wC', wM', h1, h2, h3⟩ := st_type h (xs (i + 1).toNatClampNeg) (xs (i + 2).toNatClampNeg) (xs (i + 3).toNatClampNeg) (xs (i + 4).toNatClampNeg) (xs (i + 5).toNatClampNeg) (xs (i + 6).toNatClampNeg)
  refine LJ_aload_n (v := (V1.1 0)) dL_law_910 rfl ?_
  refine LJ_aload_n (v := b) dL_law_911 rfl ?_
  refine LJ_iload_n (v := i) dL_law_912 rfl ?_
  refine LJ_iconst 1 dL_law_913 ic_1 ?_
  refine LJ_iadd dL_law_914 ?_
  refine LJ_sld dL_law_915 (hin 1 _ (by decide) (by decide)) ?_
  refine LJ_aload_n (v := b) dL_law_916 rfl ?_
  refine LJ_iload_n (v := i) dL_law_917 rfl ?_
  refine LJ_iconst 2 dL_law_918 ic_2 ?_
  refine LJ_iadd dL_law_919 ?_
  refine LJ_sld dL_law_920 (hin 2 _ (by decide) (by decide)) ?_
  refine LJ_aload_n (v := b) dL_law_921 rfl ?_
  refine LJ_iload_n (v := i) dL_law_922 rfl ?_
  refine LJ_iconst 3 dL_law_923 ic_3 ?_
  refine LJ_iadd dL_law_924 ?_
  refine LJ_sld dL_law_925 (hin 3 _ (by decide) (by decide)) ?_
  refine LJ_aload_n (v := b) dL_law_926 rfl ?_
  refine LJ_iload_n (v := i) dL_law_927 rfl ?_
  refine LJ_iconst 4 dL_law_928 ic_4 ?_
  refine LJ_iadd dL_law_929 ?_
  refine LJ_sld dL_law_930 (hin 4 _ (by decide) (by decide)) ?_
  refine LJ_aload_n (v := b) dL_law_931 rfl ?_
  refine LJ_iload_n (v := i) dL_law_932 rfl ?_
  refine LJ_iconst 5 dL_law_933 ic_5 ?_
  refine LJ_iadd dL_law_934 ?_
  refine LJ_sld dL_law_935 (hin 5 _ (by decide) (by decide)) ?_
  refine LJ_aload_n (v := b) dL_law_936 rfl ?_
  refine LJ_iload_n (v := i) dL_law_937 rfl ?_
  refine LJ_bipush 6 dL_law_938 (by decide) ?_
  refine LJ_iadd dL_law_940 ?_
  refine LJ_sld dL_law_941 (hin 6 _ (by decide) (by decide)) ?_
  refine LJ_callC (As := [.int (xs (i + 1).toNatClampNeg), .int (xs (i + 2).toNatClampNeg), .int (xs (i + 3).toNatClampNeg), .int (xs (i + 4).toNatClampNeg), .int (xs (i + 5).toNatClampNeg), .int (xs (i + 6).toNatClampNeg)]) (rest := []) (r := r) lcv_117 dL_law_942 (MX11_type h1) rfl (fun _ => rfl) rfl rfl (Nat.le_of_ble_eq_true rfl) ?_
  refine LJ_aload_n (v := (V2.1 0)) dL_law_945 rfl ?_
  refine LJ_aload_n (v := b) dL_law_946 rfl ?_
  refine LJ_iload_n (v := i) dL_law_947 rfl ?_
  refine LJ_iconst 1 dL_law_948 ic_1 ?_
  refine LJ_iadd dL_law_949 ?_
  refine LJ_sld dL_law_950 (hin 1 _ (by decide) (by decide)) ?_
  refine LJ_aload_n (v := b) dL_law_951 rfl ?_
  refine LJ_iload_n (v := i) dL_law_952 rfl ?_
  refine LJ_iconst 2 dL_law_953 ic_2 ?_
  refine LJ_iadd dL_law_954 ?_
  refine LJ_sld dL_law_955 (hin 2 _ (by decide) (by decide)) ?_
  refine LJ_aload_n (v := b) dL_law_956 rfl ?_
  refine LJ_iload_n (v := i) dL_law_957 rfl ?_
  refine LJ_iconst 3 dL_law_958 ic_3 ?_
  refine LJ_iadd dL_law_959 ?_
  refine LJ_sld dL_law_960 (hin 3 _ (by decide) (by decide)) ?_
  refine LJ_aload_n (v := b) dL_law_961 rfl ?_
  refine LJ_iload_n (v := i) dL_law_962 rfl ?_
  refine LJ_iconst 4 dL_law_963 ic_4 ?_
  refine LJ_iadd dL_law_964 ?_
  refine LJ_sld dL_law_965 (hin 4 _ (by decide) (by decide)) ?_
  refine LJ_aload_n (v := b) dL_law_966 rfl ?_
  refine LJ_iload_n (v := i) dL_law_967 rfl ?_
  refine LJ_iconst 5 dL_law_968 ic_5 ?_
  refine LJ_iadd dL_law_969 ?_
  refine LJ_sld dL_law_970 (hin 5 _ (by decide) (by decide)) ?_
  refine LJ_aload_n (v := b) dL_law_971 rfl ?_
  refine LJ_iload_n (v := i) dL_law_972 rfl ?_
  refine LJ_bipush 6 dL_law_973 (by decide) ?_
  refine LJ_iadd dL_law_975 ?_
  refine LJ_sld dL_law_976 (hin 6 _ (by decide) (by decide)) ?_
  refine LJ_callM (As := [.int (xs (i + 1).toNatClampNeg), .int (xs (i + 2).toNatClampNeg), .int (xs (i + 3).toNatClampNeg), .int (xs (i + 4).toNatClampNeg), .int (xs (i + 5).toNatClampNeg), .int (xs (i + 6).toNatClampNeg)]) (rest := [.int r]) (r := r) lcv_121 dL_law_977 (MX12_type h2) rfl (fun _ => rfl) rfl rfl (Nat.le_of_ble_eq_true rfl) ?_
  refine LJ_eq 1535 dL_law_980 (by decide) ?_
  exact kk _ _ h3
set_option maxRecDepth 10000 in
set_option maxHeartbeats 1000000 in
theorem lc_25 {V1 V2 : EV} {b L : Nat} {xs : Nat → Int32} {i : Int32} {wC wM : AW} (h : Rel wC wM) (hin : ∀ (k : Nat) (j : Int32), j = nI k → k ≤ 6 → vp_in (i + j) L) (kk : ∀ wC' wM', Rel wC' wM' → LJ V1 V2 b L xs 1535 [some (.ref b), some (.ref (V1.1 0)), some (.ref (V2.1 0)), some (.int i)] [] wC' wM') : LJ V1 V2 b L xs 985 [some (.ref b), some (.ref (V1.1 0)), some (.ref (V2.1 0)), some (.int i)] [] wC wM := by
  obtain ⟨r, h1, h2⟩ := st_typeOf h (xs (i + 1).toNatClampNeg) (xs (i + 2).toNatClampNeg)
  refine LJ_aload_n (v := (V1.1 0)) dL_law_985 rfl ?_
  refine LJ_aload_n (v := b) dL_law_986 rfl ?_
  refine LJ_iload_n (v := i) dL_law_987 rfl ?_
  refine LJ_iconst 1 dL_law_988 ic_1 ?_
  refine LJ_iadd dL_law_989 ?_
  refine LJ_sld dL_law_990 (hin 1 _ (by decide) (by decide)) ?_
  refine LJ_aload_n (v := b) dL_law_991 rfl ?_
  refine LJ_iload_n (v := i) dL_law_992 rfl ?_
  refine LJ_iconst 2 dL_law_993 ic_2 ?_
  refine LJ_iadd dL_law_994 ?_
  refine LJ_sld dL_law_995 (hin 2 _ (by decide) (by decide)) ?_
  refine LJ_callC (As := [.int (xs (i + 1).toNatClampNeg), .int (xs (i + 2).toNatClampNeg)]) (rest := []) (r := r) lcv_122 dL_law_996 (MX11_typeOf h1) rfl (fun _ => rfl) rfl rfl (Nat.le_of_ble_eq_true rfl) ?_
  refine LJ_aload_n (v := (V2.1 0)) dL_law_999 rfl ?_
  refine LJ_aload_n (v := b) dL_law_1000 rfl ?_
  refine LJ_iload_n (v := i) dL_law_1001 rfl ?_
  refine LJ_iconst 1 dL_law_1002 ic_1 ?_
  refine LJ_iadd dL_law_1003 ?_
  refine LJ_sld dL_law_1004 (hin 1 _ (by decide) (by decide)) ?_
  refine LJ_aload_n (v := b) dL_law_1005 rfl ?_
  refine LJ_iload_n (v := i) dL_law_1006 rfl ?_
  refine LJ_iconst 2 dL_law_1007 ic_2 ?_
  refine LJ_iadd dL_law_1008 ?_
  refine LJ_sld dL_law_1009 (hin 2 _ (by decide) (by decide)) ?_
  refine LJ_callM (As := [.int (xs (i + 1).toNatClampNeg), .int (xs (i + 2).toNatClampNeg)]) (rest := [.int r]) (r := r) lcv_125 dL_law_1010 (MX12_typeOf h2) rfl (fun _ => rfl) rfl rfl (Nat.le_of_ble_eq_true rfl) ?_
  refine LJ_eq 1535 dL_law_1013 (by decide) ?_
  exact kk _ _ h
set_option maxRecDepth 10000 in
set_option maxHeartbeats 1000000 in
theorem lc_26 {V1 V2 : EV} {b L : Nat} {xs : Nat → Int32} {i : Int32} {wC wM : AW} (h : Rel wC wM) (hin : ∀ (k : Nat) (j : Int32), j = nI k → k ≤ 6 → vp_in (i + j) L) (kk : ∀ wC' wM', Rel wC' wM' → LJ V1 V2 b L xs 1535 [some (.ref b), some (.ref (V1.1 0)), some (.ref (V2.1 0)), some (.int i)] [] wC' wM') : LJ V1 V2 b L xs 1018 [some (.ref b), some (.ref (V1.1 0)), some (.ref (V2.1 0)), some (.int i)] [] wC wM := by
  obtain ⟨r, wC', wM', h1, h2, h3⟩ := st_ahead h (xs (i + 1).toNatClampNeg) (xs (i + 2).toNatClampNeg)
  refine LJ_aload_n (v := (V1.1 0)) dL_law_1018 rfl ?_
  refine LJ_aload_n (v := b) dL_law_1019 rfl ?_
  refine LJ_iload_n (v := i) dL_law_1020 rfl ?_
  refine LJ_iconst 1 dL_law_1021 ic_1 ?_
  refine LJ_iadd dL_law_1022 ?_
  refine LJ_sld dL_law_1023 (hin 1 _ (by decide) (by decide)) ?_
  refine LJ_aload_n (v := b) dL_law_1024 rfl ?_
  refine LJ_iload_n (v := i) dL_law_1025 rfl ?_
  refine LJ_iconst 2 dL_law_1026 ic_2 ?_
  refine LJ_iadd dL_law_1027 ?_
  refine LJ_sld dL_law_1028 (hin 2 _ (by decide) (by decide)) ?_
  refine LJ_callC (As := [.int (xs (i + 1).toNatClampNeg), .int (xs (i + 2).toNatClampNeg)]) (rest := []) (r := r) lcv_126 dL_law_1029 (MX11_ahead h1) rfl (fun _ => rfl) rfl rfl (Nat.le_of_ble_eq_true rfl) ?_
  refine LJ_aload_n (v := (V2.1 0)) dL_law_1032 rfl ?_
  refine LJ_aload_n (v := b) dL_law_1033 rfl ?_
  refine LJ_iload_n (v := i) dL_law_1034 rfl ?_
  refine LJ_iconst 1 dL_law_1035 ic_1 ?_
  refine LJ_iadd dL_law_1036 ?_
  refine LJ_sld dL_law_1037 (hin 1 _ (by decide) (by decide)) ?_
  refine LJ_aload_n (v := b) dL_law_1038 rfl ?_
  refine LJ_iload_n (v := i) dL_law_1039 rfl ?_
  refine LJ_iconst 2 dL_law_1040 ic_2 ?_
  refine LJ_iadd dL_law_1041 ?_
  refine LJ_sld dL_law_1042 (hin 2 _ (by decide) (by decide)) ?_
  refine LJ_callM (As := [.int (xs (i + 1).toNatClampNeg), .int (xs (i + 2).toNatClampNeg)]) (rest := [.int r]) (r := r) lcv_129 dL_law_1043 (MX12_ahead h2) rfl (fun _ => rfl) rfl rfl (Nat.le_of_ble_eq_true rfl) ?_
  refine LJ_eq 1535 dL_law_1046 (by decide) ?_
  exact kk _ _ h3
set_option maxRecDepth 10000 in
set_option maxHeartbeats 1000000 in
theorem lc_27 {V1 V2 : EV} {b L : Nat} {xs : Nat → Int32} {i : Int32} {wC wM : AW} (h : Rel wC wM) (hin : ∀ (k : Nat) (j : Int32), j = nI k → k ≤ 6 → vp_in (i + j) L) (kk : ∀ wC' wM', Rel wC' wM' → LJ V1 V2 b L xs 1535 [some (.ref b), some (.ref (V1.1 0)), some (.ref (V2.1 0)), some (.int i)] [] wC' wM') : LJ V1 V2 b L xs 1051 [some (.ref b), some (.ref (V1.1 0)), some (.ref (V2.1 0)), some (.int i)] [] wC wM := by
  obtain ⟨r, wC', wM', h1, h2, h3⟩ := st_comes h 
  refine LJ_aload_n (v := (V1.1 0)) dL_law_1051 rfl ?_
  refine LJ_callC (As := []) (rest := []) (r := r) lcv_130 dL_law_1052 (MX11_comes h1) rfl (fun _ => rfl) rfl rfl (Nat.le_of_ble_eq_true rfl) ?_
  refine LJ_aload_n (v := (V2.1 0)) dL_law_1055 rfl ?_
  refine LJ_callM (As := []) (rest := [.int r]) (r := r) lcv_133 dL_law_1056 (MX12_comes h2) rfl (fun _ => rfl) rfl rfl (Nat.le_of_ble_eq_true rfl) ?_
  refine LJ_eq 1535 dL_law_1059 (by decide) ?_
  exact kk _ _ h3
set_option maxRecDepth 10000 in
set_option maxHeartbeats 1000000 in
theorem lc_28 {V1 V2 : EV} {b L : Nat} {xs : Nat → Int32} {i : Int32} {wC wM : AW} (h : Rel wC wM) (hin : ∀ (k : Nat) (j : Int32), j = nI k → k ≤ 6 → vp_in (i + j) L) (kk : ∀ wC' wM', Rel wC' wM' → LJ V1 V2 b L xs 1535 [some (.ref b), some (.ref (V1.1 0)), some (.ref (V2.1 0)), some (.int i)] [] wC' wM') : LJ V1 V2 b L xs 1064 [some (.ref b), some (.ref (V1.1 0)), some (.ref (V2.1 0)), some (.int i)] [] wC wM := by
  obtain ⟨r, wC', wM', h1, h2, h3⟩ := st_seed h (xs (i + 1).toNatClampNeg)
  refine LJ_aload_n (v := (V1.1 0)) dL_law_1064 rfl ?_
  refine LJ_aload_n (v := b) dL_law_1065 rfl ?_
  refine LJ_iload_n (v := i) dL_law_1066 rfl ?_
  refine LJ_iconst 1 dL_law_1067 ic_1 ?_
  refine LJ_iadd dL_law_1068 ?_
  refine LJ_sld dL_law_1069 (hin 1 _ (by decide) (by decide)) ?_
  refine LJ_callC (As := [.int (xs (i + 1).toNatClampNeg)]) (rest := []) (r := r) lcv_134 dL_law_1070 (MX11_seed h1) rfl (fun _ => rfl) rfl rfl (Nat.le_of_ble_eq_true rfl) ?_
  refine LJ_aload_n (v := (V2.1 0)) dL_law_1073 rfl ?_
  refine LJ_aload_n (v := b) dL_law_1074 rfl ?_
  refine LJ_iload_n (v := i) dL_law_1075 rfl ?_
  refine LJ_iconst 1 dL_law_1076 ic_1 ?_
  refine LJ_iadd dL_law_1077 ?_
  refine LJ_sld dL_law_1078 (hin 1 _ (by decide) (by decide)) ?_
  refine LJ_callM (As := [.int (xs (i + 1).toNatClampNeg)]) (rest := [.int r]) (r := r) lcv_137 dL_law_1079 (MX12_seed h2) rfl (fun _ => rfl) rfl rfl (Nat.le_of_ble_eq_true rfl) ?_
  refine LJ_eq 1535 dL_law_1082 (by decide) ?_
  exact kk _ _ h3
set_option maxRecDepth 10000 in
set_option maxHeartbeats 1000000 in
theorem lc_29 {V1 V2 : EV} {b L : Nat} {xs : Nat → Int32} {i : Int32} {wC wM : AW} (h : Rel wC wM) (hin : ∀ (k : Nat) (j : Int32), j = nI k → k ≤ 6 → vp_in (i + j) L) (kk : ∀ wC' wM', Rel wC' wM' → LJ V1 V2 b L xs 1535 [some (.ref b), some (.ref (V1.1 0)), some (.ref (V2.1 0)), some (.int i)] [] wC' wM') : LJ V1 V2 b L xs 1087 [some (.ref b), some (.ref (V1.1 0)), some (.ref (V2.1 0)), some (.int i)] [] wC wM := by
  obtain ⟨r, wC', wM', h1, h2, h3⟩ := st_goes h 
  refine LJ_aload_n (v := (V1.1 0)) dL_law_1087 rfl ?_
  refine LJ_callC (As := []) (rest := []) (r := r) lcv_138 dL_law_1088 (MX11_goes h1) rfl (fun _ => rfl) rfl rfl (Nat.le_of_ble_eq_true rfl) ?_
  refine LJ_aload_n (v := (V2.1 0)) dL_law_1091 rfl ?_
  refine LJ_callM (As := []) (rest := [.int r]) (r := r) lcv_141 dL_law_1092 (MX12_goes h2) rfl (fun _ => rfl) rfl rfl (Nat.le_of_ble_eq_true rfl) ?_
  refine LJ_eq 1535 dL_law_1095 (by decide) ?_
  exact kk _ _ h3
set_option maxRecDepth 10000 in
set_option maxHeartbeats 1000000 in
theorem lc_30 {V1 V2 : EV} {b L : Nat} {xs : Nat → Int32} {i : Int32} {wC wM : AW} (h : Rel wC wM) (hin : ∀ (k : Nat) (j : Int32), j = nI k → k ≤ 6 → vp_in (i + j) L) (kk : ∀ wC' wM', Rel wC' wM' → LJ V1 V2 b L xs 1535 [some (.ref b), some (.ref (V1.1 0)), some (.ref (V2.1 0)), some (.int i)] [] wC' wM') : LJ V1 V2 b L xs 1100 [some (.ref b), some (.ref (V1.1 0)), some (.ref (V2.1 0)), some (.int i)] [] wC wM := by
  obtain ⟨r, h1, h2⟩ := st_till h 
  refine LJ_aload_n (v := (V1.1 0)) dL_law_1100 rfl ?_
  refine LJ_callC (As := []) (rest := []) (r := r) lcv_142 dL_law_1101 (MX11_till h1) rfl (fun _ => rfl) rfl rfl (Nat.le_of_ble_eq_true rfl) ?_
  refine LJ_aload_n (v := (V2.1 0)) dL_law_1104 rfl ?_
  refine LJ_callM (As := []) (rest := [.int r]) (r := r) lcv_145 dL_law_1105 (MX12_till h2) rfl (fun _ => rfl) rfl rfl (Nat.le_of_ble_eq_true rfl) ?_
  refine LJ_eq 1535 dL_law_1108 (by decide) ?_
  exact kk _ _ h
set_option maxRecDepth 10000 in
set_option maxHeartbeats 1000000 in
theorem lc_31 {V1 V2 : EV} {b L : Nat} {xs : Nat → Int32} {i : Int32} {wC wM : AW} (h : Rel wC wM) (hin : ∀ (k : Nat) (j : Int32), j = nI k → k ≤ 6 → vp_in (i + j) L) (kk : ∀ wC' wM', Rel wC' wM' → LJ V1 V2 b L xs 1535 [some (.ref b), some (.ref (V1.1 0)), some (.ref (V2.1 0)), some (.int i)] [] wC' wM') : LJ V1 V2 b L xs 1113 [some (.ref b), some (.ref (V1.1 0)), some (.ref (V2.1 0)), some (.int i)] [] wC wM := by
  obtain ⟨r, wC', wM', h1, h2, h3⟩ := st_prove h 
  refine LJ_aload_n (v := (V1.1 0)) dL_law_1113 rfl ?_
  refine LJ_callC (As := []) (rest := []) (r := r) lcv_146 dL_law_1114 (MX11_prove h1) rfl (fun _ => rfl) rfl rfl (Nat.le_of_ble_eq_true rfl) ?_
  refine LJ_aload_n (v := (V2.1 0)) dL_law_1117 rfl ?_
  refine LJ_callM (As := []) (rest := [.int r]) (r := r) lcv_149 dL_law_1118 (MX12_prove h2) rfl (fun _ => rfl) rfl rfl (Nat.le_of_ble_eq_true rfl) ?_
  refine LJ_eq 1535 dL_law_1121 (by decide) ?_
  exact kk _ _ h3
set_option maxRecDepth 10000 in
set_option maxHeartbeats 1000000 in
theorem lc_32 {V1 V2 : EV} {b L : Nat} {xs : Nat → Int32} {i : Int32} {wC wM : AW} (h : Rel wC wM) (hin : ∀ (k : Nat) (j : Int32), j = nI k → k ≤ 6 → vp_in (i + j) L) (kk : ∀ wC' wM', Rel wC' wM' → LJ V1 V2 b L xs 1535 [some (.ref b), some (.ref (V1.1 0)), some (.ref (V2.1 0)), some (.int i)] [] wC' wM') : LJ V1 V2 b L xs 1126 [some (.ref b), some (.ref (V1.1 0)), some (.ref (V2.1 0)), some (.int i)] [] wC wM := by
  obtain ⟨r, h1, h2⟩ := st_row h (xs (i + 1).toNatClampNeg) (xs (i + 2).toNatClampNeg)
  refine LJ_aload_n (v := (V1.1 0)) dL_law_1126 rfl ?_
  refine LJ_aload_n (v := b) dL_law_1127 rfl ?_
  refine LJ_iload_n (v := i) dL_law_1128 rfl ?_
  refine LJ_iconst 1 dL_law_1129 ic_1 ?_
  refine LJ_iadd dL_law_1130 ?_
  refine LJ_sld dL_law_1131 (hin 1 _ (by decide) (by decide)) ?_
  refine LJ_aload_n (v := b) dL_law_1132 rfl ?_
  refine LJ_iload_n (v := i) dL_law_1133 rfl ?_
  refine LJ_iconst 2 dL_law_1134 ic_2 ?_
  refine LJ_iadd dL_law_1135 ?_
  refine LJ_sld dL_law_1136 (hin 2 _ (by decide) (by decide)) ?_
  refine LJ_callC (As := [.int (xs (i + 1).toNatClampNeg), .int (xs (i + 2).toNatClampNeg)]) (rest := []) (r := r) lcv_150 dL_law_1137 (MX11_row h1) rfl (fun _ => rfl) rfl rfl (Nat.le_of_ble_eq_true rfl) ?_
  refine LJ_aload_n (v := (V2.1 0)) dL_law_1140 rfl ?_
  refine LJ_aload_n (v := b) dL_law_1141 rfl ?_
  refine LJ_iload_n (v := i) dL_law_1142 rfl ?_
  refine LJ_iconst 1 dL_law_1143 ic_1 ?_
  refine LJ_iadd dL_law_1144 ?_
  refine LJ_sld dL_law_1145 (hin 1 _ (by decide) (by decide)) ?_
  refine LJ_aload_n (v := b) dL_law_1146 rfl ?_
  refine LJ_iload_n (v := i) dL_law_1147 rfl ?_
  refine LJ_iconst 2 dL_law_1148 ic_2 ?_
  refine LJ_iadd dL_law_1149 ?_
  refine LJ_sld dL_law_1150 (hin 2 _ (by decide) (by decide)) ?_
  refine LJ_callM (As := [.int (xs (i + 1).toNatClampNeg), .int (xs (i + 2).toNatClampNeg)]) (rest := [.int r]) (r := r) lcv_153 dL_law_1151 (MX12_row h2) rfl (fun _ => rfl) rfl rfl (Nat.le_of_ble_eq_true rfl) ?_
  refine LJ_eq 1535 dL_law_1154 (by decide) ?_
  exact kk _ _ h
set_option maxRecDepth 10000 in
set_option maxHeartbeats 1000000 in
theorem lc_33 {V1 V2 : EV} {b L : Nat} {xs : Nat → Int32} {i : Int32} {wC wM : AW} (h : Rel wC wM) (hin : ∀ (k : Nat) (j : Int32), j = nI k → k ≤ 6 → vp_in (i + j) L) (kk : ∀ wC' wM', Rel wC' wM' → LJ V1 V2 b L xs 1535 [some (.ref b), some (.ref (V1.1 0)), some (.ref (V2.1 0)), some (.int i)] [] wC' wM') : LJ V1 V2 b L xs 1159 [some (.ref b), some (.ref (V1.1 0)), some (.ref (V2.1 0)), some (.int i)] [] wC wM := by
  obtain ⟨r, wC', wM', h1, h2, h3⟩ := st_alterRow h (xs (i + 1).toNatClampNeg) (xs (i + 2).toNatClampNeg) (xs (i + 3).toNatClampNeg)
  refine LJ_aload_n (v := (V1.1 0)) dL_law_1159 rfl ?_
  refine LJ_aload_n (v := b) dL_law_1160 rfl ?_
  refine LJ_iload_n (v := i) dL_law_1161 rfl ?_
  refine LJ_iconst 1 dL_law_1162 ic_1 ?_
  refine LJ_iadd dL_law_1163 ?_
  refine LJ_sld dL_law_1164 (hin 1 _ (by decide) (by decide)) ?_
  refine LJ_aload_n (v := b) dL_law_1165 rfl ?_
  refine LJ_iload_n (v := i) dL_law_1166 rfl ?_
  refine LJ_iconst 2 dL_law_1167 ic_2 ?_
  refine LJ_iadd dL_law_1168 ?_
  refine LJ_sld dL_law_1169 (hin 2 _ (by decide) (by decide)) ?_
  refine LJ_aload_n (v := b) dL_law_1170 rfl ?_
  refine LJ_iload_n (v := i) dL_law_1171 rfl ?_
  refine LJ_iconst 3 dL_law_1172 ic_3 ?_
  refine LJ_iadd dL_law_1173 ?_
  refine LJ_sld dL_law_1174 (hin 3 _ (by decide) (by decide)) ?_
  refine LJ_callC (As := [.int (xs (i + 1).toNatClampNeg), .int (xs (i + 2).toNatClampNeg), .int (xs (i + 3).toNatClampNeg)]) (rest := []) (r := r) lcv_154 dL_law_1175 (MX11_alterRow h1) rfl (fun _ => rfl) rfl rfl (Nat.le_of_ble_eq_true rfl) ?_
  refine LJ_aload_n (v := (V2.1 0)) dL_law_1178 rfl ?_
  refine LJ_aload_n (v := b) dL_law_1179 rfl ?_
  refine LJ_iload_n (v := i) dL_law_1180 rfl ?_
  refine LJ_iconst 1 dL_law_1181 ic_1 ?_
  refine LJ_iadd dL_law_1182 ?_
  refine LJ_sld dL_law_1183 (hin 1 _ (by decide) (by decide)) ?_
  refine LJ_aload_n (v := b) dL_law_1184 rfl ?_
  refine LJ_iload_n (v := i) dL_law_1185 rfl ?_
  refine LJ_iconst 2 dL_law_1186 ic_2 ?_
  refine LJ_iadd dL_law_1187 ?_
  refine LJ_sld dL_law_1188 (hin 2 _ (by decide) (by decide)) ?_
  refine LJ_aload_n (v := b) dL_law_1189 rfl ?_
  refine LJ_iload_n (v := i) dL_law_1190 rfl ?_
  refine LJ_iconst 3 dL_law_1191 ic_3 ?_
  refine LJ_iadd dL_law_1192 ?_
  refine LJ_sld dL_law_1193 (hin 3 _ (by decide) (by decide)) ?_
  refine LJ_callM (As := [.int (xs (i + 1).toNatClampNeg), .int (xs (i + 2).toNatClampNeg), .int (xs (i + 3).toNatClampNeg)]) (rest := [.int r]) (r := r) lcv_157 dL_law_1194 (MX12_alterRow h2) rfl (fun _ => rfl) rfl rfl (Nat.le_of_ble_eq_true rfl) ?_
  refine LJ_eq 1535 dL_law_1197 (by decide) ?_
  exact kk _ _ h3
set_option maxRecDepth 10000 in
set_option maxHeartbeats 1000000 in
theorem lc_34 {V1 V2 : EV} {b L : Nat} {xs : Nat → Int32} {i : Int32} {wC wM : AW} (h : Rel wC wM) (hin : ∀ (k : Nat) (j : Int32), j = nI k → k ≤ 6 → vp_in (i + j) L) (kk : ∀ wC' wM', Rel wC' wM' → LJ V1 V2 b L xs 1535 [some (.ref b), some (.ref (V1.1 0)), some (.ref (V2.1 0)), some (.int i)] [] wC' wM') : LJ V1 V2 b L xs 1202 [some (.ref b), some (.ref (V1.1 0)), some (.ref (V2.1 0)), some (.int i)] [] wC wM := by
  obtain ⟨r, wC', wM', h1, h2, h3⟩ := st_judge h 
  refine LJ_aload_n (v := (V1.1 0)) dL_law_1202 rfl ?_
  refine LJ_callC (As := []) (rest := []) (r := r) lcv_158 dL_law_1203 (MX11_judge h1) rfl (fun _ => rfl) rfl rfl (Nat.le_of_ble_eq_true rfl) ?_
  refine LJ_aload_n (v := (V2.1 0)) dL_law_1206 rfl ?_
  refine LJ_callM (As := []) (rest := [.int r]) (r := r) lcv_161 dL_law_1207 (MX12_judge h2) rfl (fun _ => rfl) rfl rfl (Nat.le_of_ble_eq_true rfl) ?_
  refine LJ_eq 1535 dL_law_1210 (by decide) ?_
  exact kk _ _ h3
set_option maxRecDepth 10000 in
set_option maxHeartbeats 1000000 in
theorem lc_35 {V1 V2 : EV} {b L : Nat} {xs : Nat → Int32} {i : Int32} {wC wM : AW} (h : Rel wC wM) (hin : ∀ (k : Nat) (j : Int32), j = nI k → k ≤ 6 → vp_in (i + j) L) (kk : ∀ wC' wM', Rel wC' wM' → LJ V1 V2 b L xs 1535 [some (.ref b), some (.ref (V1.1 0)), some (.ref (V2.1 0)), some (.int i)] [] wC' wM') : LJ V1 V2 b L xs 1215 [some (.ref b), some (.ref (V1.1 0)), some (.ref (V2.1 0)), some (.int i)] [] wC wM := by
  obtain ⟨r, wC', wM', h1, h2, h3⟩ := st_sheet h (xs (i + 1).toNatClampNeg) (xs (i + 2).toNatClampNeg) (xs (i + 3).toNatClampNeg)
  refine LJ_aload_n (v := (V1.1 0)) dL_law_1215 rfl ?_
  refine LJ_aload_n (v := b) dL_law_1216 rfl ?_
  refine LJ_iload_n (v := i) dL_law_1217 rfl ?_
  refine LJ_iconst 1 dL_law_1218 ic_1 ?_
  refine LJ_iadd dL_law_1219 ?_
  refine LJ_sld dL_law_1220 (hin 1 _ (by decide) (by decide)) ?_
  refine LJ_aload_n (v := b) dL_law_1221 rfl ?_
  refine LJ_iload_n (v := i) dL_law_1222 rfl ?_
  refine LJ_iconst 2 dL_law_1223 ic_2 ?_
  refine LJ_iadd dL_law_1224 ?_
  refine LJ_sld dL_law_1225 (hin 2 _ (by decide) (by decide)) ?_
  refine LJ_aload_n (v := b) dL_law_1226 rfl ?_
  refine LJ_iload_n (v := i) dL_law_1227 rfl ?_
  refine LJ_iconst 3 dL_law_1228 ic_3 ?_
  refine LJ_iadd dL_law_1229 ?_
  refine LJ_sld dL_law_1230 (hin 3 _ (by decide) (by decide)) ?_
  refine LJ_callC (As := [.int (xs (i + 1).toNatClampNeg), .int (xs (i + 2).toNatClampNeg), .int (xs (i + 3).toNatClampNeg)]) (rest := []) (r := r) lcv_162 dL_law_1231 (MX11_sheet h1) rfl (fun _ => rfl) rfl rfl (Nat.le_of_ble_eq_true rfl) ?_
  refine LJ_aload_n (v := (V2.1 0)) dL_law_1234 rfl ?_
  refine LJ_aload_n (v := b) dL_law_1235 rfl ?_
  refine LJ_iload_n (v := i) dL_law_1236 rfl ?_
  refine LJ_iconst 1 dL_law_1237 ic_1 ?_
  refine LJ_iadd dL_law_1238 ?_
  refine LJ_sld dL_law_1239 (hin 1 _ (by decide) (by decide)) ?_
  refine LJ_aload_n (v := b) dL_law_1240 rfl ?_
  refine LJ_iload_n (v := i) dL_law_1241 rfl ?_
  refine LJ_iconst 2 dL_law_1242 ic_2 ?_
  refine LJ_iadd dL_law_1243 ?_
  refine LJ_sld dL_law_1244 (hin 2 _ (by decide) (by decide)) ?_
  refine LJ_aload_n (v := b) dL_law_1245 rfl ?_
  refine LJ_iload_n (v := i) dL_law_1246 rfl ?_
  refine LJ_iconst 3 dL_law_1247 ic_3 ?_
  refine LJ_iadd dL_law_1248 ?_
  refine LJ_sld dL_law_1249 (hin 3 _ (by decide) (by decide)) ?_
  refine LJ_callM (As := [.int (xs (i + 1).toNatClampNeg), .int (xs (i + 2).toNatClampNeg), .int (xs (i + 3).toNatClampNeg)]) (rest := [.int r]) (r := r) lcv_165 dL_law_1250 (MX12_sheet h2) rfl (fun _ => rfl) rfl rfl (Nat.le_of_ble_eq_true rfl) ?_
  refine LJ_eq 1535 dL_law_1253 (by decide) ?_
  exact kk _ _ h3
set_option maxRecDepth 10000 in
set_option maxHeartbeats 1000000 in
theorem lc_36 {V1 V2 : EV} {b L : Nat} {xs : Nat → Int32} {i : Int32} {wC wM : AW} (h : Rel wC wM) (hin : ∀ (k : Nat) (j : Int32), j = nI k → k ≤ 6 → vp_in (i + j) L) (kk : ∀ wC' wM', Rel wC' wM' → LJ V1 V2 b L xs 1535 [some (.ref b), some (.ref (V1.1 0)), some (.ref (V2.1 0)), some (.int i)] [] wC' wM') : LJ V1 V2 b L xs 1258 [some (.ref b), some (.ref (V1.1 0)), some (.ref (V2.1 0)), some (.int i)] [] wC wM := by
  obtain ⟨r, wC', wM', h1, h2, h3⟩ := st_put h (xs (i + 1).toNatClampNeg) (xs (i + 2).toNatClampNeg) (xs (i + 3).toNatClampNeg)
  refine LJ_aload_n (v := (V1.1 0)) dL_law_1258 rfl ?_
  refine LJ_aload_n (v := b) dL_law_1259 rfl ?_
  refine LJ_iload_n (v := i) dL_law_1260 rfl ?_
  refine LJ_iconst 1 dL_law_1261 ic_1 ?_
  refine LJ_iadd dL_law_1262 ?_
  refine LJ_sld dL_law_1263 (hin 1 _ (by decide) (by decide)) ?_
  refine LJ_aload_n (v := b) dL_law_1264 rfl ?_
  refine LJ_iload_n (v := i) dL_law_1265 rfl ?_
  refine LJ_iconst 2 dL_law_1266 ic_2 ?_
  refine LJ_iadd dL_law_1267 ?_
  refine LJ_sld dL_law_1268 (hin 2 _ (by decide) (by decide)) ?_
  refine LJ_aload_n (v := b) dL_law_1269 rfl ?_
  refine LJ_iload_n (v := i) dL_law_1270 rfl ?_
  refine LJ_iconst 3 dL_law_1271 ic_3 ?_
  refine LJ_iadd dL_law_1272 ?_
  refine LJ_sld dL_law_1273 (hin 3 _ (by decide) (by decide)) ?_
  refine LJ_callC (As := [.int (xs (i + 1).toNatClampNeg), .int (xs (i + 2).toNatClampNeg), .int (xs (i + 3).toNatClampNeg)]) (rest := []) (r := r) lcv_166 dL_law_1274 (MX11_put h1) rfl (fun _ => rfl) rfl rfl (Nat.le_of_ble_eq_true rfl) ?_
  refine LJ_aload_n (v := (V2.1 0)) dL_law_1277 rfl ?_
  refine LJ_aload_n (v := b) dL_law_1278 rfl ?_
  refine LJ_iload_n (v := i) dL_law_1279 rfl ?_
  refine LJ_iconst 1 dL_law_1280 ic_1 ?_
  refine LJ_iadd dL_law_1281 ?_
  refine LJ_sld dL_law_1282 (hin 1 _ (by decide) (by decide)) ?_
  refine LJ_aload_n (v := b) dL_law_1283 rfl ?_
  refine LJ_iload_n (v := i) dL_law_1284 rfl ?_
  refine LJ_iconst 2 dL_law_1285 ic_2 ?_
  refine LJ_iadd dL_law_1286 ?_
  refine LJ_sld dL_law_1287 (hin 2 _ (by decide) (by decide)) ?_
  refine LJ_aload_n (v := b) dL_law_1288 rfl ?_
  refine LJ_iload_n (v := i) dL_law_1289 rfl ?_
  refine LJ_iconst 3 dL_law_1290 ic_3 ?_
  refine LJ_iadd dL_law_1291 ?_
  refine LJ_sld dL_law_1292 (hin 3 _ (by decide) (by decide)) ?_
  refine LJ_callM (As := [.int (xs (i + 1).toNatClampNeg), .int (xs (i + 2).toNatClampNeg), .int (xs (i + 3).toNatClampNeg)]) (rest := [.int r]) (r := r) lcv_169 dL_law_1293 (MX12_put h2) rfl (fun _ => rfl) rfl rfl (Nat.le_of_ble_eq_true rfl) ?_
  refine LJ_eq 1535 dL_law_1296 (by decide) ?_
  exact kk _ _ h3
set_option maxRecDepth 10000 in
set_option maxHeartbeats 1000000 in
theorem lc_37 {V1 V2 : EV} {b L : Nat} {xs : Nat → Int32} {i : Int32} {wC wM : AW} (h : Rel wC wM) (hin : ∀ (k : Nat) (j : Int32), j = nI k → k ≤ 6 → vp_in (i + j) L) (kk : ∀ wC' wM', Rel wC' wM' → LJ V1 V2 b L xs 1535 [some (.ref b), some (.ref (V1.1 0)), some (.ref (V2.1 0)), some (.int i)] [] wC' wM') : LJ V1 V2 b L xs 1301 [some (.ref b), some (.ref (V1.1 0)), some (.ref (V2.1 0)), some (.int i)] [] wC wM := by
  obtain ⟨r, h1, h2⟩ := st_item h (xs (i + 1).toNatClampNeg) (xs (i + 2).toNatClampNeg) (xs (i + 3).toNatClampNeg)
  refine LJ_aload_n (v := (V1.1 0)) dL_law_1301 rfl ?_
  refine LJ_aload_n (v := b) dL_law_1302 rfl ?_
  refine LJ_iload_n (v := i) dL_law_1303 rfl ?_
  refine LJ_iconst 1 dL_law_1304 ic_1 ?_
  refine LJ_iadd dL_law_1305 ?_
  refine LJ_sld dL_law_1306 (hin 1 _ (by decide) (by decide)) ?_
  refine LJ_aload_n (v := b) dL_law_1307 rfl ?_
  refine LJ_iload_n (v := i) dL_law_1308 rfl ?_
  refine LJ_iconst 2 dL_law_1309 ic_2 ?_
  refine LJ_iadd dL_law_1310 ?_
  refine LJ_sld dL_law_1311 (hin 2 _ (by decide) (by decide)) ?_
  refine LJ_aload_n (v := b) dL_law_1312 rfl ?_
  refine LJ_iload_n (v := i) dL_law_1313 rfl ?_
  refine LJ_iconst 3 dL_law_1314 ic_3 ?_
  refine LJ_iadd dL_law_1315 ?_
  refine LJ_sld dL_law_1316 (hin 3 _ (by decide) (by decide)) ?_
  refine LJ_callC (As := [.int (xs (i + 1).toNatClampNeg), .int (xs (i + 2).toNatClampNeg), .int (xs (i + 3).toNatClampNeg)]) (rest := []) (r := r) lcv_170 dL_law_1317 (MX11_item h1) rfl (fun _ => rfl) rfl rfl (Nat.le_of_ble_eq_true rfl) ?_
  refine LJ_aload_n (v := (V2.1 0)) dL_law_1320 rfl ?_
  refine LJ_aload_n (v := b) dL_law_1321 rfl ?_
  refine LJ_iload_n (v := i) dL_law_1322 rfl ?_
  refine LJ_iconst 1 dL_law_1323 ic_1 ?_
  refine LJ_iadd dL_law_1324 ?_
  refine LJ_sld dL_law_1325 (hin 1 _ (by decide) (by decide)) ?_
  refine LJ_aload_n (v := b) dL_law_1326 rfl ?_
  refine LJ_iload_n (v := i) dL_law_1327 rfl ?_
  refine LJ_iconst 2 dL_law_1328 ic_2 ?_
  refine LJ_iadd dL_law_1329 ?_
  refine LJ_sld dL_law_1330 (hin 2 _ (by decide) (by decide)) ?_
  refine LJ_aload_n (v := b) dL_law_1331 rfl ?_
  refine LJ_iload_n (v := i) dL_law_1332 rfl ?_
  refine LJ_iconst 3 dL_law_1333 ic_3 ?_
  refine LJ_iadd dL_law_1334 ?_
  refine LJ_sld dL_law_1335 (hin 3 _ (by decide) (by decide)) ?_
  refine LJ_callM (As := [.int (xs (i + 1).toNatClampNeg), .int (xs (i + 2).toNatClampNeg), .int (xs (i + 3).toNatClampNeg)]) (rest := [.int r]) (r := r) lcv_173 dL_law_1336 (MX12_item h2) rfl (fun _ => rfl) rfl rfl (Nat.le_of_ble_eq_true rfl) ?_
  refine LJ_eq 1535 dL_law_1339 (by decide) ?_
  exact kk _ _ h
set_option maxRecDepth 10000 in
set_option maxHeartbeats 1000000 in
theorem lc_38 {V1 V2 : EV} {b L : Nat} {xs : Nat → Int32} {i : Int32} {wC wM : AW} (h : Rel wC wM) (hin : ∀ (k : Nat) (j : Int32), j = nI k → k ≤ 6 → vp_in (i + j) L) (kk : ∀ wC' wM', Rel wC' wM' → LJ V1 V2 b L xs 1535 [some (.ref b), some (.ref (V1.1 0)), some (.ref (V2.1 0)), some (.int i)] [] wC' wM') : LJ V1 V2 b L xs 1344 [some (.ref b), some (.ref (V1.1 0)), some (.ref (V2.1 0)), some (.int i)] [] wC wM := by
  obtain ⟨r, wC', wM', h1, h2, h3⟩ := st_shelf h (xs (i + 1).toNatClampNeg) (xs (i + 2).toNatClampNeg) (xs (i + 3).toNatClampNeg)
  refine LJ_aload_n (v := (V1.1 0)) dL_law_1344 rfl ?_
  refine LJ_aload_n (v := b) dL_law_1345 rfl ?_
  refine LJ_iload_n (v := i) dL_law_1346 rfl ?_
  refine LJ_iconst 1 dL_law_1347 ic_1 ?_
  refine LJ_iadd dL_law_1348 ?_
  refine LJ_sld dL_law_1349 (hin 1 _ (by decide) (by decide)) ?_
  refine LJ_aload_n (v := b) dL_law_1350 rfl ?_
  refine LJ_iload_n (v := i) dL_law_1351 rfl ?_
  refine LJ_iconst 2 dL_law_1352 ic_2 ?_
  refine LJ_iadd dL_law_1353 ?_
  refine LJ_sld dL_law_1354 (hin 2 _ (by decide) (by decide)) ?_
  refine LJ_aload_n (v := b) dL_law_1355 rfl ?_
  refine LJ_iload_n (v := i) dL_law_1356 rfl ?_
  refine LJ_iconst 3 dL_law_1357 ic_3 ?_
  refine LJ_iadd dL_law_1358 ?_
  refine LJ_sld dL_law_1359 (hin 3 _ (by decide) (by decide)) ?_
  refine LJ_callC (As := [.int (xs (i + 1).toNatClampNeg), .int (xs (i + 2).toNatClampNeg), .int (xs (i + 3).toNatClampNeg)]) (rest := []) (r := r) lcv_174 dL_law_1360 (MX11_shelf h1) rfl (fun _ => rfl) rfl rfl (Nat.le_of_ble_eq_true rfl) ?_
  refine LJ_aload_n (v := (V2.1 0)) dL_law_1363 rfl ?_
  refine LJ_aload_n (v := b) dL_law_1364 rfl ?_
  refine LJ_iload_n (v := i) dL_law_1365 rfl ?_
  refine LJ_iconst 1 dL_law_1366 ic_1 ?_
  refine LJ_iadd dL_law_1367 ?_
  refine LJ_sld dL_law_1368 (hin 1 _ (by decide) (by decide)) ?_
  refine LJ_aload_n (v := b) dL_law_1369 rfl ?_
  refine LJ_iload_n (v := i) dL_law_1370 rfl ?_
  refine LJ_iconst 2 dL_law_1371 ic_2 ?_
  refine LJ_iadd dL_law_1372 ?_
  refine LJ_sld dL_law_1373 (hin 2 _ (by decide) (by decide)) ?_
  refine LJ_aload_n (v := b) dL_law_1374 rfl ?_
  refine LJ_iload_n (v := i) dL_law_1375 rfl ?_
  refine LJ_iconst 3 dL_law_1376 ic_3 ?_
  refine LJ_iadd dL_law_1377 ?_
  refine LJ_sld dL_law_1378 (hin 3 _ (by decide) (by decide)) ?_
  refine LJ_callM (As := [.int (xs (i + 1).toNatClampNeg), .int (xs (i + 2).toNatClampNeg), .int (xs (i + 3).toNatClampNeg)]) (rest := [.int r]) (r := r) lcv_177 dL_law_1379 (MX12_shelf h2) rfl (fun _ => rfl) rfl rfl (Nat.le_of_ble_eq_true rfl) ?_
  refine LJ_eq 1535 dL_law_1382 (by decide) ?_
  exact kk _ _ h3
set_option maxRecDepth 10000 in
set_option maxHeartbeats 1000000 in
theorem lc_39 {V1 V2 : EV} {b L : Nat} {xs : Nat → Int32} {i : Int32} {wC wM : AW} (h : Rel wC wM) (hin : ∀ (k : Nat) (j : Int32), j = nI k → k ≤ 6 → vp_in (i + j) L) (kk : ∀ wC' wM', Rel wC' wM' → LJ V1 V2 b L xs 1535 [some (.ref b), some (.ref (V1.1 0)), some (.ref (V2.1 0)), some (.int i)] [] wC' wM') : LJ V1 V2 b L xs 1387 [some (.ref b), some (.ref (V1.1 0)), some (.ref (V2.1 0)), some (.int i)] [] wC wM := by
  obtain ⟨r, h1, h2⟩ := st_taken h (xs (i + 1).toNatClampNeg) (xs (i + 2).toNatClampNeg)
  refine LJ_aload_n (v := (V1.1 0)) dL_law_1387 rfl ?_
  refine LJ_aload_n (v := b) dL_law_1388 rfl ?_
  refine LJ_iload_n (v := i) dL_law_1389 rfl ?_
  refine LJ_iconst 1 dL_law_1390 ic_1 ?_
  refine LJ_iadd dL_law_1391 ?_
  refine LJ_sld dL_law_1392 (hin 1 _ (by decide) (by decide)) ?_
  refine LJ_aload_n (v := b) dL_law_1393 rfl ?_
  refine LJ_iload_n (v := i) dL_law_1394 rfl ?_
  refine LJ_iconst 2 dL_law_1395 ic_2 ?_
  refine LJ_iadd dL_law_1396 ?_
  refine LJ_sld dL_law_1397 (hin 2 _ (by decide) (by decide)) ?_
  refine LJ_callC (As := [.int (xs (i + 1).toNatClampNeg), .int (xs (i + 2).toNatClampNeg)]) (rest := []) (r := r) lcv_178 dL_law_1398 (MX11_taken h1) rfl (fun _ => rfl) rfl rfl (Nat.le_of_ble_eq_true rfl) ?_
  refine LJ_aload_n (v := (V2.1 0)) dL_law_1401 rfl ?_
  refine LJ_aload_n (v := b) dL_law_1402 rfl ?_
  refine LJ_iload_n (v := i) dL_law_1403 rfl ?_
  refine LJ_iconst 1 dL_law_1404 ic_1 ?_
  refine LJ_iadd dL_law_1405 ?_
  refine LJ_sld dL_law_1406 (hin 1 _ (by decide) (by decide)) ?_
  refine LJ_aload_n (v := b) dL_law_1407 rfl ?_
  refine LJ_iload_n (v := i) dL_law_1408 rfl ?_
  refine LJ_iconst 2 dL_law_1409 ic_2 ?_
  refine LJ_iadd dL_law_1410 ?_
  refine LJ_sld dL_law_1411 (hin 2 _ (by decide) (by decide)) ?_
  refine LJ_callM (As := [.int (xs (i + 1).toNatClampNeg), .int (xs (i + 2).toNatClampNeg)]) (rest := [.int r]) (r := r) lcv_181 dL_law_1412 (MX12_taken h2) rfl (fun _ => rfl) rfl rfl (Nat.le_of_ble_eq_true rfl) ?_
  refine LJ_eq 1535 dL_law_1415 (by decide) ?_
  exact kk _ _ h
set_option maxRecDepth 10000 in
set_option maxHeartbeats 1000000 in
theorem lc_40 {V1 V2 : EV} {b L : Nat} {xs : Nat → Int32} {i : Int32} {wC wM : AW} (h : Rel wC wM) (hin : ∀ (k : Nat) (j : Int32), j = nI k → k ≤ 6 → vp_in (i + j) L) (kk : ∀ wC' wM', Rel wC' wM' → LJ V1 V2 b L xs 1535 [some (.ref b), some (.ref (V1.1 0)), some (.ref (V2.1 0)), some (.int i)] [] wC' wM') : LJ V1 V2 b L xs 1420 [some (.ref b), some (.ref (V1.1 0)), some (.ref (V2.1 0)), some (.int i)] [] wC wM := by
  obtain ⟨r, wC', wM', h1, h2, h3⟩ := st_act h (xs (i + 1).toNatClampNeg) (xs (i + 2).toNatClampNeg) (xs (i + 3).toNatClampNeg)
  refine LJ_aload_n (v := (V1.1 0)) dL_law_1420 rfl ?_
  refine LJ_aload_n (v := b) dL_law_1421 rfl ?_
  refine LJ_iload_n (v := i) dL_law_1422 rfl ?_
  refine LJ_iconst 1 dL_law_1423 ic_1 ?_
  refine LJ_iadd dL_law_1424 ?_
  refine LJ_sld dL_law_1425 (hin 1 _ (by decide) (by decide)) ?_
  refine LJ_aload_n (v := b) dL_law_1426 rfl ?_
  refine LJ_iload_n (v := i) dL_law_1427 rfl ?_
  refine LJ_iconst 2 dL_law_1428 ic_2 ?_
  refine LJ_iadd dL_law_1429 ?_
  refine LJ_sld dL_law_1430 (hin 2 _ (by decide) (by decide)) ?_
  refine LJ_aload_n (v := b) dL_law_1431 rfl ?_
  refine LJ_iload_n (v := i) dL_law_1432 rfl ?_
  refine LJ_iconst 3 dL_law_1433 ic_3 ?_
  refine LJ_iadd dL_law_1434 ?_
  refine LJ_sld dL_law_1435 (hin 3 _ (by decide) (by decide)) ?_
  refine LJ_callC (As := [.int (xs (i + 1).toNatClampNeg), .int (xs (i + 2).toNatClampNeg), .int (xs (i + 3).toNatClampNeg)]) (rest := []) (r := r) lcv_182 dL_law_1436 (MX11_act h1) rfl (fun _ => rfl) rfl rfl (Nat.le_of_ble_eq_true rfl) ?_
  refine LJ_aload_n (v := (V2.1 0)) dL_law_1439 rfl ?_
  refine LJ_aload_n (v := b) dL_law_1440 rfl ?_
  refine LJ_iload_n (v := i) dL_law_1441 rfl ?_
  refine LJ_iconst 1 dL_law_1442 ic_1 ?_
  refine LJ_iadd dL_law_1443 ?_
  refine LJ_sld dL_law_1444 (hin 1 _ (by decide) (by decide)) ?_
  refine LJ_aload_n (v := b) dL_law_1445 rfl ?_
  refine LJ_iload_n (v := i) dL_law_1446 rfl ?_
  refine LJ_iconst 2 dL_law_1447 ic_2 ?_
  refine LJ_iadd dL_law_1448 ?_
  refine LJ_sld dL_law_1449 (hin 2 _ (by decide) (by decide)) ?_
  refine LJ_aload_n (v := b) dL_law_1450 rfl ?_
  refine LJ_iload_n (v := i) dL_law_1451 rfl ?_
  refine LJ_iconst 3 dL_law_1452 ic_3 ?_
  refine LJ_iadd dL_law_1453 ?_
  refine LJ_sld dL_law_1454 (hin 3 _ (by decide) (by decide)) ?_
  refine LJ_callM (As := [.int (xs (i + 1).toNatClampNeg), .int (xs (i + 2).toNatClampNeg), .int (xs (i + 3).toNatClampNeg)]) (rest := [.int r]) (r := r) lcv_185 dL_law_1455 (MX12_act h2) rfl (fun _ => rfl) rfl rfl (Nat.le_of_ble_eq_true rfl) ?_
  refine LJ_eq 1535 dL_law_1458 (by decide) ?_
  exact kk _ _ h3
set_option maxRecDepth 10000 in
set_option maxHeartbeats 1000000 in
theorem lc_41 {V1 V2 : EV} {b L : Nat} {xs : Nat → Int32} {i : Int32} {wC wM : AW} (h : Rel wC wM) (hin : ∀ (k : Nat) (j : Int32), j = nI k → k ≤ 6 → vp_in (i + j) L) (kk : ∀ wC' wM', Rel wC' wM' → LJ V1 V2 b L xs 1535 [some (.ref b), some (.ref (V1.1 0)), some (.ref (V2.1 0)), some (.int i)] [] wC' wM') : LJ V1 V2 b L xs 1463 [some (.ref b), some (.ref (V1.1 0)), some (.ref (V2.1 0)), some (.int i)] [] wC wM := by
  obtain ⟨r, h1, h2⟩ := st_trace h (xs (i + 1).toNatClampNeg)
  refine LJ_aload_n (v := (V1.1 0)) dL_law_1463 rfl ?_
  refine LJ_aload_n (v := b) dL_law_1464 rfl ?_
  refine LJ_iload_n (v := i) dL_law_1465 rfl ?_
  refine LJ_iconst 1 dL_law_1466 ic_1 ?_
  refine LJ_iadd dL_law_1467 ?_
  refine LJ_sld dL_law_1468 (hin 1 _ (by decide) (by decide)) ?_
  refine LJ_callC (As := [.int (xs (i + 1).toNatClampNeg)]) (rest := []) (r := r) lcv_186 dL_law_1469 (MX11_trace h1) rfl (fun _ => rfl) rfl rfl (Nat.le_of_ble_eq_true rfl) ?_
  refine LJ_aload_n (v := (V2.1 0)) dL_law_1472 rfl ?_
  refine LJ_aload_n (v := b) dL_law_1473 rfl ?_
  refine LJ_iload_n (v := i) dL_law_1474 rfl ?_
  refine LJ_iconst 1 dL_law_1475 ic_1 ?_
  refine LJ_iadd dL_law_1476 ?_
  refine LJ_sld dL_law_1477 (hin 1 _ (by decide) (by decide)) ?_
  refine LJ_callM (As := [.int (xs (i + 1).toNatClampNeg)]) (rest := [.int r]) (r := r) lcv_189 dL_law_1478 (MX12_trace h2) rfl (fun _ => rfl) rfl rfl (Nat.le_of_ble_eq_true rfl) ?_
  refine LJ_eq 1535 dL_law_1481 (by decide) ?_
  exact kk _ _ h
set_option maxRecDepth 10000 in
set_option maxHeartbeats 1000000 in
theorem lc_42 {V1 V2 : EV} {b L : Nat} {xs : Nat → Int32} {i : Int32} {wC wM : AW} (h : Rel wC wM) (hin : ∀ (k : Nat) (j : Int32), j = nI k → k ≤ 6 → vp_in (i + j) L) (kk : ∀ wC' wM', Rel wC' wM' → LJ V1 V2 b L xs 1535 [some (.ref b), some (.ref (V1.1 0)), some (.ref (V2.1 0)), some (.int i)] [] wC' wM') : LJ V1 V2 b L xs 1486 [some (.ref b), some (.ref (V1.1 0)), some (.ref (V2.1 0)), some (.int i)] [] wC wM := by
  obtain ⟨r, h1, h2⟩ := st_many h (xs (i + 1).toNatClampNeg)
  refine LJ_aload_n (v := (V1.1 0)) dL_law_1486 rfl ?_
  refine LJ_aload_n (v := b) dL_law_1487 rfl ?_
  refine LJ_iload_n (v := i) dL_law_1488 rfl ?_
  refine LJ_iconst 1 dL_law_1489 ic_1 ?_
  refine LJ_iadd dL_law_1490 ?_
  refine LJ_sld dL_law_1491 (hin 1 _ (by decide) (by decide)) ?_
  refine LJ_callC (As := [.int (xs (i + 1).toNatClampNeg)]) (rest := []) (r := r) lcv_190 dL_law_1492 (MX11_many h1) rfl (fun _ => rfl) rfl rfl (Nat.le_of_ble_eq_true rfl) ?_
  refine LJ_aload_n (v := (V2.1 0)) dL_law_1495 rfl ?_
  refine LJ_aload_n (v := b) dL_law_1496 rfl ?_
  refine LJ_iload_n (v := i) dL_law_1497 rfl ?_
  refine LJ_iconst 1 dL_law_1498 ic_1 ?_
  refine LJ_iadd dL_law_1499 ?_
  refine LJ_sld dL_law_1500 (hin 1 _ (by decide) (by decide)) ?_
  refine LJ_callM (As := [.int (xs (i + 1).toNatClampNeg)]) (rest := [.int r]) (r := r) lcv_193 dL_law_1501 (MX12_many h2) rfl (fun _ => rfl) rfl rfl (Nat.le_of_ble_eq_true rfl) ?_
  refine LJ_eq 1535 dL_law_1504 (by decide) ?_
  exact kk _ _ h
set_option maxRecDepth 10000 in
set_option maxHeartbeats 1000000 in
theorem lc_43 {V1 V2 : EV} {b L : Nat} {xs : Nat → Int32} {i : Int32} {wC wM : AW} (h : Rel wC wM) (hin : ∀ (k : Nat) (j : Int32), j = nI k → k ≤ 6 → vp_in (i + j) L) (kk : ∀ wC' wM', Rel wC' wM' → LJ V1 V2 b L xs 1535 [some (.ref b), some (.ref (V1.1 0)), some (.ref (V2.1 0)), some (.int i)] [] wC' wM') : LJ V1 V2 b L xs 1509 [some (.ref b), some (.ref (V1.1 0)), some (.ref (V2.1 0)), some (.int i)] [] wC wM := by
  obtain ⟨r, wC', wM', h1, h2, h3⟩ := st_keep h 
  refine LJ_aload_n (v := (V1.1 0)) dL_law_1509 rfl ?_
  refine LJ_callC (As := []) (rest := []) (r := r) lcv_194 dL_law_1510 (MX11_keep h1) rfl (fun _ => rfl) rfl rfl (Nat.le_of_ble_eq_true rfl) ?_
  refine LJ_aload_n (v := (V2.1 0)) dL_law_1513 rfl ?_
  refine LJ_callM (As := []) (rest := [.int r]) (r := r) lcv_197 dL_law_1514 (MX12_keep h2) rfl (fun _ => rfl) rfl rfl (Nat.le_of_ble_eq_true rfl) ?_
  refine LJ_eq 1535 dL_law_1517 (by decide) ?_
  exact kk _ _ h3
set_option maxRecDepth 10000 in
set_option maxHeartbeats 1000000 in
theorem lc_44 {V1 V2 : EV} {b L : Nat} {xs : Nat → Int32} {i : Int32} {wC wM : AW} (h : Rel wC wM) (hin : ∀ (k : Nat) (j : Int32), j = nI k → k ≤ 6 → vp_in (i + j) L) (kk : ∀ wC' wM', Rel wC' wM' → LJ V1 V2 b L xs 1535 [some (.ref b), some (.ref (V1.1 0)), some (.ref (V2.1 0)), some (.int i)] [] wC' wM') : LJ V1 V2 b L xs 1522 [some (.ref b), some (.ref (V1.1 0)), some (.ref (V2.1 0)), some (.int i)] [] wC wM := by
  obtain ⟨r, wC', wM', h1, h2, h3⟩ := st_again h 
  refine LJ_aload_n (v := (V1.1 0)) dL_law_1522 rfl ?_
  refine LJ_callC (As := []) (rest := []) (r := r) lcv_198 dL_law_1523 (MX11_again h1) rfl (fun _ => rfl) rfl rfl (Nat.le_of_ble_eq_true rfl) ?_
  refine LJ_aload_n (v := (V2.1 0)) dL_law_1526 rfl ?_
  refine LJ_callM (As := []) (rest := [.int r]) (r := r) lcv_201 dL_law_1527 (MX12_again h2) rfl (fun _ => rfl) rfl rfl (Nat.le_of_ble_eq_true rfl) ?_
  refine LJ_eq 1535 dL_law_1530 (by decide) ?_
  exact kk _ _ h3
set_option maxRecDepth 10000 in
set_option maxHeartbeats 4000000 in
theorem LJ_loop {V1 V2 : EV} {b L : Nat} {xs : Nat → Int32} (hL : L ≤ 3584) : ∀ (n j : Nat), j ≤ L + 7 → L + 7 < j + n → ∀ (wC wM : AW), Rel wC wM → ∀ i : Int32, i = nI j → LJ V1 V2 b L xs 18 [some (.ref b), some (.ref (V1.1 0)), some (.ref (V2.1 0)), some (.int i)] [] wC wM := by
  intro n
  induction n with
  | zero => intro j h1 h2; omega
  | succ n ih =>
    intro j hj hjn wC wM hR i hi
    refine LJ_iload_n (v := i) dL_law_18 rfl ?_
    refine LJ_aload_n (v := b) dL_law_19 rfl ?_
    refine LJ_slen dL_law_20 ?_
    refine LJ_bipush 7 dL_law_21 (by decide) ?_
    refine LJ_isub dL_law_23 ?_
    have e7 : (Int32.ofNat L - 7).toInt = (L : Int) - 7 := by
      have := pk_sub_toInt (a := L) (b := 7) (by omega) (by omega)
      exact this
    have ei : i.toInt = (j : Int) := by rw [hi]; exact nI_toInt (by omega)
    refine LJ_gt 1541 dL_law_24 (by decide) (fun hc => ?_) (fun hc => ?_)
    · refine LJ_iconst 1 dL_law_1541 ic_1 ?_
      exact LJ_ret dL_law_1542
    · have hjL : j + 7 ≤ L := by
        have h9 : ¬ (Int32.ofNat L - 7).toInt < i.toInt := fun q => hc (Int32.lt_iff_toInt_lt.mpr q)
        rw [e7, ei] at h9
        omega
      have hin : ∀ (k : Nat) (z : Int32), z = nI k → k ≤ 6 → vp_in (i + z) L := by
        intro k z hz hk
        rw [hi, hz, nI_add]
        exact vp_in_nI (by omega) (by omega)
      have hin0 : vp_in i L := by rw [hi]; exact vp_in_nI (by omega) (by omega)
      have kk : ∀ wC' wM', Rel wC' wM' → LJ V1 V2 b L xs 1535 [some (.ref b), some (.ref (V1.1 0)), some (.ref (V2.1 0)), some (.int i)] [] wC' wM' := by
        intro wC' wM' hR'
        refine LJ_iinc (ls' := [some (.ref b), some (.ref (V1.1 0)), some (.ref (V2.1 0)), some (.int (i + 7))]) 7 dL_law_1535 rfl (by decide) rfl rfl rfl ?_
        refine LJ_goto 18 dL_law_1538 (by decide) ?_
        exact ih (j + 7) (by omega) (by omega) wC' wM' hR' (i + 7) (by rw [hi]; exact nI_add j 7)
      refine LJ_aload_n (v := b) dL_law_27 rfl ?_
      refine LJ_iload_n (v := i) dL_law_28 rfl ?_
      refine LJ_sld dL_law_29 hin0 ?_
      refine LJ_bipush 63 dL_law_30 (by decide) ?_
      refine LJ_iand dL_law_32 ?_
      generalize (xs i.toNatClampNeg) &&& 63 = sel
      by_cases g0 : sel = 0
      · exact LJ_tableIn 228 dL_law_33 (by rw [g0]; decide) (by rw [g0]; decide) (by rw [g0]; rfl) (by decide) (lc_0 hR hin kk)
      by_cases g1 : sel = 1
      · exact LJ_tableIn 291 dL_law_33 (by rw [g1]; decide) (by rw [g1]; decide) (by rw [g1]; rfl) (by decide) (lc_1 hR hin kk)
      by_cases g2 : sel = 2
      · exact LJ_tableIn 304 dL_law_33 (by rw [g2]; decide) (by rw [g2]; decide) (by rw [g2]; rfl) (by decide) (lc_2 hR hin kk)
      by_cases g3 : sel = 3
      · exact LJ_tableIn 367 dL_law_33 (by rw [g3]; decide) (by rw [g3]; decide) (by rw [g3]; rfl) (by decide) (lc_3 hR hin kk)
      by_cases g4 : sel = 4
      · exact LJ_tableIn 400 dL_law_33 (by rw [g4]; decide) (by rw [g4]; decide) (by rw [g4]; rfl) (by decide) (lc_4 hR hin kk)
      by_cases g5 : sel = 5
      · exact LJ_tableIn 423 dL_law_33 (by rw [g5]; decide) (by rw [g5]; decide) (by rw [g5]; rfl) (by decide) (lc_5 hR hin kk)
      by_cases g6 : sel = 6
      · exact LJ_tableIn 456 dL_law_33 (by rw [g6]; decide) (by rw [g6]; decide) (by rw [g6]; rfl) (by decide) (lc_6 hR hin kk)
      by_cases g7 : sel = 7
      · exact LJ_tableIn 489 dL_law_33 (by rw [g7]; decide) (by rw [g7]; decide) (by rw [g7]; rfl) (by decide) (lc_7 hR hin kk)
      by_cases g8 : sel = 8
      · exact LJ_tableIn 522 dL_law_33 (by rw [g8]; decide) (by rw [g8]; decide) (by rw [g8]; rfl) (by decide) (lc_8 hR hin kk)
      by_cases g9 : sel = 9
      · exact LJ_tableIn 545 dL_law_33 (by rw [g9]; decide) (by rw [g9]; decide) (by rw [g9]; rfl) (by decide) (lc_9 hR hin kk)
      by_cases g10 : sel = 10
      · exact LJ_tableIn 568 dL_law_33 (by rw [g10]; decide) (by rw [g10]; decide) (by rw [g10]; rfl) (by decide) (lc_10 hR hin kk)
      by_cases g11 : sel = 11
      · exact LJ_tableIn 591 dL_law_33 (by rw [g11]; decide) (by rw [g11]; decide) (by rw [g11]; rfl) (by decide) (lc_11 hR hin kk)
      by_cases g12 : sel = 12
      · exact LJ_tableIn 614 dL_law_33 (by rw [g12]; decide) (by rw [g12]; decide) (by rw [g12]; rfl) (by decide) (lc_12 hR hin kk)
      by_cases g13 : sel = 13
      · exact LJ_tableIn 637 dL_law_33 (by rw [g13]; decide) (by rw [g13]; decide) (by rw [g13]; rfl) (by decide) (lc_13 hR hin kk)
      by_cases g14 : sel = 14
      · exact LJ_tableIn 650 dL_law_33 (by rw [g14]; decide) (by rw [g14]; decide) (by rw [g14]; rfl) (by decide) (lc_14 hR hin kk)
      by_cases g15 : sel = 15
      · exact LJ_tableIn 663 dL_law_33 (by rw [g15]; decide) (by rw [g15]; decide) (by rw [g15]; rfl) (by decide) (lc_15 hR hin kk)
      by_cases g16 : sel = 16
      · exact LJ_tableIn 686 dL_law_33 (by rw [g16]; decide) (by rw [g16]; decide) (by rw [g16]; rfl) (by decide) (lc_16 hR hin kk)
      by_cases g17 : sel = 17
      · exact LJ_tableIn 699 dL_law_33 (by rw [g17]; decide) (by rw [g17]; decide) (by rw [g17]; rfl) (by decide) (lc_17 hR hin kk)
      by_cases g18 : sel = 18
      · exact LJ_tableIn 742 dL_law_33 (by rw [g18]; decide) (by rw [g18]; decide) (by rw [g18]; rfl) (by decide) (lc_18 hR hin kk)
      by_cases g19 : sel = 19
      · exact LJ_tableIn 805 dL_law_33 (by rw [g19]; decide) (by rw [g19]; decide) (by rw [g19]; rfl) (by decide) (lc_19 hR hin kk)
      by_cases g20 : sel = 20
      · exact LJ_tableIn 828 dL_law_33 (by rw [g20]; decide) (by rw [g20]; decide) (by rw [g20]; rfl) (by decide) (lc_20 hR hin kk)
      by_cases g21 : sel = 21
      · exact LJ_tableIn 841 dL_law_33 (by rw [g21]; decide) (by rw [g21]; decide) (by rw [g21]; rfl) (by decide) (lc_21 hR hin kk)
      by_cases g22 : sel = 22
      · exact LJ_tableIn 864 dL_law_33 (by rw [g22]; decide) (by rw [g22]; decide) (by rw [g22]; rfl) (by decide) (lc_22 hR hin kk)
      by_cases g23 : sel = 23
      · exact LJ_tableIn 887 dL_law_33 (by rw [g23]; decide) (by rw [g23]; decide) (by rw [g23]; rfl) (by decide) (lc_23 hR hin kk)
      by_cases g24 : sel = 24
      · exact LJ_tableIn 910 dL_law_33 (by rw [g24]; decide) (by rw [g24]; decide) (by rw [g24]; rfl) (by decide) (lc_24 hR hin kk)
      by_cases g25 : sel = 25
      · exact LJ_tableIn 985 dL_law_33 (by rw [g25]; decide) (by rw [g25]; decide) (by rw [g25]; rfl) (by decide) (lc_25 hR hin kk)
      by_cases g26 : sel = 26
      · exact LJ_tableIn 1018 dL_law_33 (by rw [g26]; decide) (by rw [g26]; decide) (by rw [g26]; rfl) (by decide) (lc_26 hR hin kk)
      by_cases g27 : sel = 27
      · exact LJ_tableIn 1051 dL_law_33 (by rw [g27]; decide) (by rw [g27]; decide) (by rw [g27]; rfl) (by decide) (lc_27 hR hin kk)
      by_cases g28 : sel = 28
      · exact LJ_tableIn 1064 dL_law_33 (by rw [g28]; decide) (by rw [g28]; decide) (by rw [g28]; rfl) (by decide) (lc_28 hR hin kk)
      by_cases g29 : sel = 29
      · exact LJ_tableIn 1087 dL_law_33 (by rw [g29]; decide) (by rw [g29]; decide) (by rw [g29]; rfl) (by decide) (lc_29 hR hin kk)
      by_cases g30 : sel = 30
      · exact LJ_tableIn 1100 dL_law_33 (by rw [g30]; decide) (by rw [g30]; decide) (by rw [g30]; rfl) (by decide) (lc_30 hR hin kk)
      by_cases g31 : sel = 31
      · exact LJ_tableIn 1113 dL_law_33 (by rw [g31]; decide) (by rw [g31]; decide) (by rw [g31]; rfl) (by decide) (lc_31 hR hin kk)
      by_cases g32 : sel = 32
      · exact LJ_tableIn 1126 dL_law_33 (by rw [g32]; decide) (by rw [g32]; decide) (by rw [g32]; rfl) (by decide) (lc_32 hR hin kk)
      by_cases g33 : sel = 33
      · exact LJ_tableIn 1159 dL_law_33 (by rw [g33]; decide) (by rw [g33]; decide) (by rw [g33]; rfl) (by decide) (lc_33 hR hin kk)
      by_cases g34 : sel = 34
      · exact LJ_tableIn 1202 dL_law_33 (by rw [g34]; decide) (by rw [g34]; decide) (by rw [g34]; rfl) (by decide) (lc_34 hR hin kk)
      by_cases g35 : sel = 35
      · exact LJ_tableIn 1215 dL_law_33 (by rw [g35]; decide) (by rw [g35]; decide) (by rw [g35]; rfl) (by decide) (lc_35 hR hin kk)
      by_cases g36 : sel = 36
      · exact LJ_tableIn 1258 dL_law_33 (by rw [g36]; decide) (by rw [g36]; decide) (by rw [g36]; rfl) (by decide) (lc_36 hR hin kk)
      by_cases g37 : sel = 37
      · exact LJ_tableIn 1301 dL_law_33 (by rw [g37]; decide) (by rw [g37]; decide) (by rw [g37]; rfl) (by decide) (lc_37 hR hin kk)
      by_cases g38 : sel = 38
      · exact LJ_tableIn 1344 dL_law_33 (by rw [g38]; decide) (by rw [g38]; decide) (by rw [g38]; rfl) (by decide) (lc_38 hR hin kk)
      by_cases g39 : sel = 39
      · exact LJ_tableIn 1387 dL_law_33 (by rw [g39]; decide) (by rw [g39]; decide) (by rw [g39]; rfl) (by decide) (lc_39 hR hin kk)
      by_cases g40 : sel = 40
      · exact LJ_tableIn 1420 dL_law_33 (by rw [g40]; decide) (by rw [g40]; decide) (by rw [g40]; rfl) (by decide) (lc_40 hR hin kk)
      by_cases g41 : sel = 41
      · exact LJ_tableIn 1463 dL_law_33 (by rw [g41]; decide) (by rw [g41]; decide) (by rw [g41]; rfl) (by decide) (lc_41 hR hin kk)
      by_cases g42 : sel = 42
      · exact LJ_tableIn 1486 dL_law_33 (by rw [g42]; decide) (by rw [g42]; decide) (by rw [g42]; rfl) (by decide) (lc_42 hR hin kk)
      by_cases g43 : sel = 43
      · exact LJ_tableIn 1509 dL_law_33 (by rw [g43]; decide) (by rw [g43]; decide) (by rw [g43]; rfl) (by decide) (lc_43 hR hin kk)
      by_cases g44 : sel = 44
      · exact LJ_tableIn 1522 dL_law_33 (by rw [g44]; decide) (by rw [g44]; decide) (by rw [g44]; rfl) (by decide) (lc_44 hR hin kk)
      refine LJ_tableOut 1535 dL_law_33 ?_ (by decide) (kk _ _ hR)
      have q0 : sel.toInt ≠ 0 := fun q => g0 (Int32.toInt_inj.mp (q.trans (by decide)))
      have q1 : sel.toInt ≠ 1 := fun q => g1 (Int32.toInt_inj.mp (q.trans (by decide)))
      have q2 : sel.toInt ≠ 2 := fun q => g2 (Int32.toInt_inj.mp (q.trans (by decide)))
      have q3 : sel.toInt ≠ 3 := fun q => g3 (Int32.toInt_inj.mp (q.trans (by decide)))
      have q4 : sel.toInt ≠ 4 := fun q => g4 (Int32.toInt_inj.mp (q.trans (by decide)))
      have q5 : sel.toInt ≠ 5 := fun q => g5 (Int32.toInt_inj.mp (q.trans (by decide)))
      have q6 : sel.toInt ≠ 6 := fun q => g6 (Int32.toInt_inj.mp (q.trans (by decide)))
      have q7 : sel.toInt ≠ 7 := fun q => g7 (Int32.toInt_inj.mp (q.trans (by decide)))
      have q8 : sel.toInt ≠ 8 := fun q => g8 (Int32.toInt_inj.mp (q.trans (by decide)))
      have q9 : sel.toInt ≠ 9 := fun q => g9 (Int32.toInt_inj.mp (q.trans (by decide)))
      have q10 : sel.toInt ≠ 10 := fun q => g10 (Int32.toInt_inj.mp (q.trans (by decide)))
      have q11 : sel.toInt ≠ 11 := fun q => g11 (Int32.toInt_inj.mp (q.trans (by decide)))
      have q12 : sel.toInt ≠ 12 := fun q => g12 (Int32.toInt_inj.mp (q.trans (by decide)))
      have q13 : sel.toInt ≠ 13 := fun q => g13 (Int32.toInt_inj.mp (q.trans (by decide)))
      have q14 : sel.toInt ≠ 14 := fun q => g14 (Int32.toInt_inj.mp (q.trans (by decide)))
      have q15 : sel.toInt ≠ 15 := fun q => g15 (Int32.toInt_inj.mp (q.trans (by decide)))
      have q16 : sel.toInt ≠ 16 := fun q => g16 (Int32.toInt_inj.mp (q.trans (by decide)))
      have q17 : sel.toInt ≠ 17 := fun q => g17 (Int32.toInt_inj.mp (q.trans (by decide)))
      have q18 : sel.toInt ≠ 18 := fun q => g18 (Int32.toInt_inj.mp (q.trans (by decide)))
      have q19 : sel.toInt ≠ 19 := fun q => g19 (Int32.toInt_inj.mp (q.trans (by decide)))
      have q20 : sel.toInt ≠ 20 := fun q => g20 (Int32.toInt_inj.mp (q.trans (by decide)))
      have q21 : sel.toInt ≠ 21 := fun q => g21 (Int32.toInt_inj.mp (q.trans (by decide)))
      have q22 : sel.toInt ≠ 22 := fun q => g22 (Int32.toInt_inj.mp (q.trans (by decide)))
      have q23 : sel.toInt ≠ 23 := fun q => g23 (Int32.toInt_inj.mp (q.trans (by decide)))
      have q24 : sel.toInt ≠ 24 := fun q => g24 (Int32.toInt_inj.mp (q.trans (by decide)))
      have q25 : sel.toInt ≠ 25 := fun q => g25 (Int32.toInt_inj.mp (q.trans (by decide)))
      have q26 : sel.toInt ≠ 26 := fun q => g26 (Int32.toInt_inj.mp (q.trans (by decide)))
      have q27 : sel.toInt ≠ 27 := fun q => g27 (Int32.toInt_inj.mp (q.trans (by decide)))
      have q28 : sel.toInt ≠ 28 := fun q => g28 (Int32.toInt_inj.mp (q.trans (by decide)))
      have q29 : sel.toInt ≠ 29 := fun q => g29 (Int32.toInt_inj.mp (q.trans (by decide)))
      have q30 : sel.toInt ≠ 30 := fun q => g30 (Int32.toInt_inj.mp (q.trans (by decide)))
      have q31 : sel.toInt ≠ 31 := fun q => g31 (Int32.toInt_inj.mp (q.trans (by decide)))
      have q32 : sel.toInt ≠ 32 := fun q => g32 (Int32.toInt_inj.mp (q.trans (by decide)))
      have q33 : sel.toInt ≠ 33 := fun q => g33 (Int32.toInt_inj.mp (q.trans (by decide)))
      have q34 : sel.toInt ≠ 34 := fun q => g34 (Int32.toInt_inj.mp (q.trans (by decide)))
      have q35 : sel.toInt ≠ 35 := fun q => g35 (Int32.toInt_inj.mp (q.trans (by decide)))
      have q36 : sel.toInt ≠ 36 := fun q => g36 (Int32.toInt_inj.mp (q.trans (by decide)))
      have q37 : sel.toInt ≠ 37 := fun q => g37 (Int32.toInt_inj.mp (q.trans (by decide)))
      have q38 : sel.toInt ≠ 38 := fun q => g38 (Int32.toInt_inj.mp (q.trans (by decide)))
      have q39 : sel.toInt ≠ 39 := fun q => g39 (Int32.toInt_inj.mp (q.trans (by decide)))
      have q40 : sel.toInt ≠ 40 := fun q => g40 (Int32.toInt_inj.mp (q.trans (by decide)))
      have q41 : sel.toInt ≠ 41 := fun q => g41 (Int32.toInt_inj.mp (q.trans (by decide)))
      have q42 : sel.toInt ≠ 42 := fun q => g42 (Int32.toInt_inj.mp (q.trans (by decide)))
      have q43 : sel.toInt ≠ 43 := fun q => g43 (Int32.toInt_inj.mp (q.trans (by decide)))
      have q44 : sel.toInt ≠ 44 := fun q => g44 (Int32.toInt_inj.mp (q.trans (by decide)))
      omega
