set_option maxHeartbeats 4000000 in
set_option maxRecDepth 100000 in
theorem lc_0 {X : XT} {l : Launch} {G : Gp} {am : Nat → Nat} {kc ks b L : Nat} {xs : Nat → Int32} {σ μ : Sg} {R : Sg → Sg → Prop} {x3 : Int32} (O : OkL X G am b L xs) (hkc : kc ≤ 600000 ∧ ks ≤ 7302250) (hst : st_row R) (hR : R σ μ) (h1 : vp_in (x3 + 1) L) (h2 : vp_in (x3 + 2) L) (hN : ∀ σ1 μ1, R σ1 μ1 → GL X l G am kc ks 1621 [(0, .ref b), (1, .ref (G.2.1 0)), (2, .ref (am 0)), (3, .int x3)] [] σ1 μ1) : GL X l G am kc ks 248 [(0, .ref b), (1, .ref (G.2.1 0)), (2, .ref (am 0)), (3, .int x3)] [] σ μ := by
  obtain ⟨r, σ1, μ1, e1, e2, hR1⟩ := hst σ μ (xs (x3 + 1).toNatClampNeg) (xs (x3 + 2).toNatClampNeg) hR
  refine gl_aload_n O dL_law_248 rfl 1 rfl ?_
  refine gl_aload_n O dL_law_249 rfl 0 rfl ?_
  refine gl_iload_n O dL_law_250 rfl 3 rfl ?_
  refine gl_iconst (v := 1) O dL_law_251 (by decide) ?_
  refine gl_iadd O dL_law_252 ?_
  refine gl_sld O h1 dL_law_253 ?_
  refine gl_aload_n O dL_law_254 rfl 0 rfl ?_
  refine gl_iload_n O dL_law_255 rfl 3 rfl ?_
  refine gl_iconst (v := 2) O dL_law_256 (by decide) ?_
  refine gl_iadd O dL_law_257 ?_
  refine gl_sld O h2 dL_law_258 ?_
  refine gl_callCi (As := [.int (xs (x3 + 1).toNatClampNeg), .int (xs (x3 + 2).toNatClampNeg)]) (rest := []) O hkc (c_X8_row l G (okC O) e1) (fun s args hts => cwV 2 hts gw_X8_row rfl rfl rfl (by decide +kernel) ⟨Nat.le_of_ble_eq_true rfl, Nat.le_of_ble_eq_true rfl⟩) rfl rfl (Nat.le_of_ble_eq_true rfl) dL_law_259 ?_
  refine gl_aload_n O dL_law_262 rfl 2 rfl ?_
  refine gl_aload_n O dL_law_263 rfl 0 rfl ?_
  refine gl_iload_n O dL_law_264 rfl 3 rfl ?_
  refine gl_iconst (v := 1) O dL_law_265 (by decide) ?_
  refine gl_iadd O dL_law_266 ?_
  refine gl_sld O h1 dL_law_267 ?_
  refine gl_aload_n O dL_law_268 rfl 0 rfl ?_
  refine gl_iload_n O dL_law_269 rfl 3 rfl ?_
  refine gl_iconst (v := 2) O dL_law_270 (by decide) ?_
  refine gl_iadd O dL_law_271 ?_
  refine gl_sld O h2 dL_law_272 ?_
  refine gl_callMi (As := [.int (xs (x3 + 1).toNatClampNeg), .int (xs (x3 + 2).toNatClampNeg)]) (rest := [.int r]) O hkc (c_X9_row l (gM G am) (okM O) e2) (fun s args hts => cwV 2 hts gw_X9_row rfl rfl rfl (by decide +kernel) ⟨Nat.le_of_ble_eq_true rfl, Nat.le_of_ble_eq_true rfl⟩) rfl rfl (Nat.le_of_ble_eq_true rfl) dL_law_273 ?_
  refine gl_icmp_eq (tgt := 1621) O dL_law_276 (by decide) (fun _ => ?_) (fun h => absurd rfl h)
  exact hN _ _ hR1
set_option maxHeartbeats 4000000 in
set_option maxRecDepth 100000 in
theorem lc_1 {X : XT} {l : Launch} {G : Gp} {am : Nat → Nat} {kc ks b L : Nat} {xs : Nat → Int32} {σ μ : Sg} {R : Sg → Sg → Prop} {x3 : Int32} (O : OkL X G am b L xs) (hkc : kc ≤ 600000 ∧ ks ≤ 7302250) (hst : st_lay R) (hR : R σ μ) (h1 : vp_in (x3 + 1) L) (h2 : vp_in (x3 + 2) L) (h3 : vp_in (x3 + 3) L) (hN : ∀ σ1 μ1, R σ1 μ1 → GL X l G am kc ks 1621 [(0, .ref b), (1, .ref (G.2.1 0)), (2, .ref (am 0)), (3, .int x3)] [] σ1 μ1) : GL X l G am kc ks 281 [(0, .ref b), (1, .ref (G.2.1 0)), (2, .ref (am 0)), (3, .int x3)] [] σ μ := by
  obtain ⟨r, σ1, μ1, e1, e2, hR1⟩ := hst σ μ (xs (x3 + 1).toNatClampNeg) (xs (x3 + 2).toNatClampNeg) (xs (x3 + 3).toNatClampNeg) hR
  refine gl_aload_n O dL_law_281 rfl 1 rfl ?_
  refine gl_aload_n O dL_law_282 rfl 0 rfl ?_
  refine gl_iload_n O dL_law_283 rfl 3 rfl ?_
  refine gl_iconst (v := 1) O dL_law_284 (by decide) ?_
  refine gl_iadd O dL_law_285 ?_
  refine gl_sld O h1 dL_law_286 ?_
  refine gl_aload_n O dL_law_287 rfl 0 rfl ?_
  refine gl_iload_n O dL_law_288 rfl 3 rfl ?_
  refine gl_iconst (v := 2) O dL_law_289 (by decide) ?_
  refine gl_iadd O dL_law_290 ?_
  refine gl_sld O h2 dL_law_291 ?_
  refine gl_aload_n O dL_law_292 rfl 0 rfl ?_
  refine gl_iload_n O dL_law_293 rfl 3 rfl ?_
  refine gl_iconst (v := 3) O dL_law_294 (by decide) ?_
  refine gl_iadd O dL_law_295 ?_
  refine gl_sld O h3 dL_law_296 ?_
  refine gl_callCi (As := [.int (xs (x3 + 1).toNatClampNeg), .int (xs (x3 + 2).toNatClampNeg), .int (xs (x3 + 3).toNatClampNeg)]) (rest := []) O hkc (c_X8_lay l G (okC O) e1) (fun s args hts => cwV 3 hts gw_X8_lay rfl rfl rfl (by decide +kernel) ⟨Nat.le_of_ble_eq_true rfl, Nat.le_of_ble_eq_true rfl⟩) rfl rfl (Nat.le_of_ble_eq_true rfl) dL_law_297 ?_
  refine gl_aload_n O dL_law_300 rfl 2 rfl ?_
  refine gl_aload_n O dL_law_301 rfl 0 rfl ?_
  refine gl_iload_n O dL_law_302 rfl 3 rfl ?_
  refine gl_iconst (v := 1) O dL_law_303 (by decide) ?_
  refine gl_iadd O dL_law_304 ?_
  refine gl_sld O h1 dL_law_305 ?_
  refine gl_aload_n O dL_law_306 rfl 0 rfl ?_
  refine gl_iload_n O dL_law_307 rfl 3 rfl ?_
  refine gl_iconst (v := 2) O dL_law_308 (by decide) ?_
  refine gl_iadd O dL_law_309 ?_
  refine gl_sld O h2 dL_law_310 ?_
  refine gl_aload_n O dL_law_311 rfl 0 rfl ?_
  refine gl_iload_n O dL_law_312 rfl 3 rfl ?_
  refine gl_iconst (v := 3) O dL_law_313 (by decide) ?_
  refine gl_iadd O dL_law_314 ?_
  refine gl_sld O h3 dL_law_315 ?_
  refine gl_callMi (As := [.int (xs (x3 + 1).toNatClampNeg), .int (xs (x3 + 2).toNatClampNeg), .int (xs (x3 + 3).toNatClampNeg)]) (rest := [.int r]) O hkc (c_X9_lay l (gM G am) (okM O) e2) (fun s args hts => cwV 3 hts gw_X9_lay rfl rfl rfl (by decide +kernel) ⟨Nat.le_of_ble_eq_true rfl, Nat.le_of_ble_eq_true rfl⟩) rfl rfl (Nat.le_of_ble_eq_true rfl) dL_law_316 ?_
  refine gl_icmp_eq (tgt := 1621) O dL_law_319 (by decide) (fun _ => ?_) (fun h => absurd rfl h)
  exact hN _ _ hR1
set_option maxHeartbeats 4000000 in
set_option maxRecDepth 100000 in
theorem lc_2 {X : XT} {l : Launch} {G : Gp} {am : Nat → Nat} {kc ks b L : Nat} {xs : Nat → Int32} {σ μ : Sg} {R : Sg → Sg → Prop} {x3 : Int32} (O : OkL X G am b L xs) (hkc : kc ≤ 600000 ∧ ks ≤ 7302250) (hst : st_at R) (hR : R σ μ) (h1 : vp_in (x3 + 1) L) (h2 : vp_in (x3 + 2) L) (hN : ∀ σ1 μ1, R σ1 μ1 → GL X l G am kc ks 1621 [(0, .ref b), (1, .ref (G.2.1 0)), (2, .ref (am 0)), (3, .int x3)] [] σ1 μ1) : GL X l G am kc ks 324 [(0, .ref b), (1, .ref (G.2.1 0)), (2, .ref (am 0)), (3, .int x3)] [] σ μ := by
  obtain ⟨r, σ1, μ1, e1, e2, hR1⟩ := hst σ μ (xs (x3 + 1).toNatClampNeg) (xs (x3 + 2).toNatClampNeg) hR
  refine gl_aload_n O dL_law_324 rfl 1 rfl ?_
  refine gl_aload_n O dL_law_325 rfl 0 rfl ?_
  refine gl_iload_n O dL_law_326 rfl 3 rfl ?_
  refine gl_iconst (v := 1) O dL_law_327 (by decide) ?_
  refine gl_iadd O dL_law_328 ?_
  refine gl_sld O h1 dL_law_329 ?_
  refine gl_aload_n O dL_law_330 rfl 0 rfl ?_
  refine gl_iload_n O dL_law_331 rfl 3 rfl ?_
  refine gl_iconst (v := 2) O dL_law_332 (by decide) ?_
  refine gl_iadd O dL_law_333 ?_
  refine gl_sld O h2 dL_law_334 ?_
  refine gl_callCi (As := [.int (xs (x3 + 1).toNatClampNeg), .int (xs (x3 + 2).toNatClampNeg)]) (rest := []) O hkc (c_X8_at l G (okC O) e1) (fun s args hts => cwV 2 hts gw_X8_at rfl rfl rfl (by decide +kernel) ⟨Nat.le_of_ble_eq_true rfl, Nat.le_of_ble_eq_true rfl⟩) rfl rfl (Nat.le_of_ble_eq_true rfl) dL_law_335 ?_
  refine gl_aload_n O dL_law_338 rfl 2 rfl ?_
  refine gl_aload_n O dL_law_339 rfl 0 rfl ?_
  refine gl_iload_n O dL_law_340 rfl 3 rfl ?_
  refine gl_iconst (v := 1) O dL_law_341 (by decide) ?_
  refine gl_iadd O dL_law_342 ?_
  refine gl_sld O h1 dL_law_343 ?_
  refine gl_aload_n O dL_law_344 rfl 0 rfl ?_
  refine gl_iload_n O dL_law_345 rfl 3 rfl ?_
  refine gl_iconst (v := 2) O dL_law_346 (by decide) ?_
  refine gl_iadd O dL_law_347 ?_
  refine gl_sld O h2 dL_law_348 ?_
  refine gl_callMi (As := [.int (xs (x3 + 1).toNatClampNeg), .int (xs (x3 + 2).toNatClampNeg)]) (rest := [.int r]) O hkc (c_X9_at l (gM G am) (okM O) e2) (fun s args hts => cwV 2 hts gw_X9_at rfl rfl rfl (by decide +kernel) ⟨Nat.le_of_ble_eq_true rfl, Nat.le_of_ble_eq_true rfl⟩) rfl rfl (Nat.le_of_ble_eq_true rfl) dL_law_349 ?_
  refine gl_icmp_eq (tgt := 1621) O dL_law_352 (by decide) (fun _ => ?_) (fun h => absurd rfl h)
  exact hN _ _ hR1
set_option maxHeartbeats 4000000 in
set_option maxRecDepth 100000 in
theorem lc_3 {X : XT} {l : Launch} {G : Gp} {am : Nat → Nat} {kc ks b L : Nat} {xs : Nat → Int32} {σ μ : Sg} {R : Sg → Sg → Prop} {x3 : Int32} (O : OkL X G am b L xs) (hkc : kc ≤ 600000 ∧ ks ≤ 7302250) (hst : st_tear R) (hR : R σ μ) (h1 : vp_in (x3 + 1) L) (hN : ∀ σ1 μ1, R σ1 μ1 → GL X l G am kc ks 1621 [(0, .ref b), (1, .ref (G.2.1 0)), (2, .ref (am 0)), (3, .int x3)] [] σ1 μ1) : GL X l G am kc ks 357 [(0, .ref b), (1, .ref (G.2.1 0)), (2, .ref (am 0)), (3, .int x3)] [] σ μ := by
  obtain ⟨r, σ1, μ1, e1, e2, hR1⟩ := hst σ μ (xs (x3 + 1).toNatClampNeg) hR
  refine gl_aload_n O dL_law_357 rfl 1 rfl ?_
  refine gl_aload_n O dL_law_358 rfl 0 rfl ?_
  refine gl_iload_n O dL_law_359 rfl 3 rfl ?_
  refine gl_iconst (v := 1) O dL_law_360 (by decide) ?_
  refine gl_iadd O dL_law_361 ?_
  refine gl_sld O h1 dL_law_362 ?_
  refine gl_callCi (As := [.int (xs (x3 + 1).toNatClampNeg)]) (rest := []) O hkc (c_X8_tear l G (okC O) e1) (fun s args hts => cwV 1 hts gw_X8_tear rfl rfl rfl (by decide +kernel) ⟨Nat.le_of_ble_eq_true rfl, Nat.le_of_ble_eq_true rfl⟩) rfl rfl (Nat.le_of_ble_eq_true rfl) dL_law_363 ?_
  refine gl_aload_n O dL_law_366 rfl 2 rfl ?_
  refine gl_aload_n O dL_law_367 rfl 0 rfl ?_
  refine gl_iload_n O dL_law_368 rfl 3 rfl ?_
  refine gl_iconst (v := 1) O dL_law_369 (by decide) ?_
  refine gl_iadd O dL_law_370 ?_
  refine gl_sld O h1 dL_law_371 ?_
  refine gl_callMi (As := [.int (xs (x3 + 1).toNatClampNeg)]) (rest := [.int r]) O hkc (c_X9_tear l (gM G am) (okM O) e2) (fun s args hts => cwV 1 hts gw_X9_tear rfl rfl rfl (by decide +kernel) ⟨Nat.le_of_ble_eq_true rfl, Nat.le_of_ble_eq_true rfl⟩) rfl rfl (Nat.le_of_ble_eq_true rfl) dL_law_372 ?_
  refine gl_icmp_eq (tgt := 1621) O dL_law_375 (by decide) (fun _ => ?_) (fun h => absurd rfl h)
  exact hN _ _ hR1
set_option maxHeartbeats 4000000 in
set_option maxRecDepth 100000 in
theorem lc_4 {X : XT} {l : Launch} {G : Gp} {am : Nat → Nat} {kc ks b L : Nat} {xs : Nat → Int32} {σ μ : Sg} {R : Sg → Sg → Prop} {x3 : Int32} (O : OkL X G am b L xs) (hkc : kc ≤ 600000 ∧ ks ≤ 7302250) (hst : st_copy R) (hR : R σ μ) (h1 : vp_in (x3 + 1) L) (h2 : vp_in (x3 + 2) L) (h3 : vp_in (x3 + 3) L) (h4 : vp_in (x3 + 4) L) (h5 : vp_in (x3 + 5) L) (hN : ∀ σ1 μ1, R σ1 μ1 → GL X l G am kc ks 1621 [(0, .ref b), (1, .ref (G.2.1 0)), (2, .ref (am 0)), (3, .int x3)] [] σ1 μ1) : GL X l G am kc ks 380 [(0, .ref b), (1, .ref (G.2.1 0)), (2, .ref (am 0)), (3, .int x3)] [] σ μ := by
  obtain ⟨r, σ1, μ1, e1, e2, hR1⟩ := hst σ μ (xs (x3 + 1).toNatClampNeg) (xs (x3 + 2).toNatClampNeg) (xs (x3 + 3).toNatClampNeg) (xs (x3 + 4).toNatClampNeg) (xs (x3 + 5).toNatClampNeg) hR
  refine gl_aload_n O dL_law_380 rfl 1 rfl ?_
  refine gl_aload_n O dL_law_381 rfl 0 rfl ?_
  refine gl_iload_n O dL_law_382 rfl 3 rfl ?_
  refine gl_iconst (v := 1) O dL_law_383 (by decide) ?_
  refine gl_iadd O dL_law_384 ?_
  refine gl_sld O h1 dL_law_385 ?_
  refine gl_aload_n O dL_law_386 rfl 0 rfl ?_
  refine gl_iload_n O dL_law_387 rfl 3 rfl ?_
  refine gl_iconst (v := 2) O dL_law_388 (by decide) ?_
  refine gl_iadd O dL_law_389 ?_
  refine gl_sld O h2 dL_law_390 ?_
  refine gl_aload_n O dL_law_391 rfl 0 rfl ?_
  refine gl_iload_n O dL_law_392 rfl 3 rfl ?_
  refine gl_iconst (v := 3) O dL_law_393 (by decide) ?_
  refine gl_iadd O dL_law_394 ?_
  refine gl_sld O h3 dL_law_395 ?_
  refine gl_aload_n O dL_law_396 rfl 0 rfl ?_
  refine gl_iload_n O dL_law_397 rfl 3 rfl ?_
  refine gl_iconst (v := 4) O dL_law_398 (by decide) ?_
  refine gl_iadd O dL_law_399 ?_
  refine gl_sld O h4 dL_law_400 ?_
  refine gl_aload_n O dL_law_401 rfl 0 rfl ?_
  refine gl_iload_n O dL_law_402 rfl 3 rfl ?_
  refine gl_iconst (v := 5) O dL_law_403 (by decide) ?_
  refine gl_iadd O dL_law_404 ?_
  refine gl_sld O h5 dL_law_405 ?_
  refine gl_callCi (As := [.int (xs (x3 + 1).toNatClampNeg), .int (xs (x3 + 2).toNatClampNeg), .int (xs (x3 + 3).toNatClampNeg), .int (xs (x3 + 4).toNatClampNeg), .int (xs (x3 + 5).toNatClampNeg)]) (rest := []) O hkc (c_X8_copy l G (okC O) e1) (fun s args hts => cwV 5 hts gw_X8_copy rfl rfl rfl (by decide +kernel) ⟨Nat.le_of_ble_eq_true rfl, Nat.le_of_ble_eq_true rfl⟩) rfl rfl (Nat.le_of_ble_eq_true rfl) dL_law_406 ?_
  refine gl_aload_n O dL_law_409 rfl 2 rfl ?_
  refine gl_aload_n O dL_law_410 rfl 0 rfl ?_
  refine gl_iload_n O dL_law_411 rfl 3 rfl ?_
  refine gl_iconst (v := 1) O dL_law_412 (by decide) ?_
  refine gl_iadd O dL_law_413 ?_
  refine gl_sld O h1 dL_law_414 ?_
  refine gl_aload_n O dL_law_415 rfl 0 rfl ?_
  refine gl_iload_n O dL_law_416 rfl 3 rfl ?_
  refine gl_iconst (v := 2) O dL_law_417 (by decide) ?_
  refine gl_iadd O dL_law_418 ?_
  refine gl_sld O h2 dL_law_419 ?_
  refine gl_aload_n O dL_law_420 rfl 0 rfl ?_
  refine gl_iload_n O dL_law_421 rfl 3 rfl ?_
  refine gl_iconst (v := 3) O dL_law_422 (by decide) ?_
  refine gl_iadd O dL_law_423 ?_
  refine gl_sld O h3 dL_law_424 ?_
  refine gl_aload_n O dL_law_425 rfl 0 rfl ?_
  refine gl_iload_n O dL_law_426 rfl 3 rfl ?_
  refine gl_iconst (v := 4) O dL_law_427 (by decide) ?_
  refine gl_iadd O dL_law_428 ?_
  refine gl_sld O h4 dL_law_429 ?_
  refine gl_aload_n O dL_law_430 rfl 0 rfl ?_
  refine gl_iload_n O dL_law_431 rfl 3 rfl ?_
  refine gl_iconst (v := 5) O dL_law_432 (by decide) ?_
  refine gl_iadd O dL_law_433 ?_
  refine gl_sld O h5 dL_law_434 ?_
  refine gl_callMi (As := [.int (xs (x3 + 1).toNatClampNeg), .int (xs (x3 + 2).toNatClampNeg), .int (xs (x3 + 3).toNatClampNeg), .int (xs (x3 + 4).toNatClampNeg), .int (xs (x3 + 5).toNatClampNeg)]) (rest := [.int r]) O hkc (c_X9_copy l (gM G am) (okM O) e2) (fun s args hts => cwV 5 hts gw_X9_copy rfl rfl rfl (by decide +kernel) ⟨Nat.le_of_ble_eq_true rfl, Nat.le_of_ble_eq_true rfl⟩) rfl rfl (Nat.le_of_ble_eq_true rfl) dL_law_435 ?_
  refine gl_icmp_eq (tgt := 1621) O dL_law_438 (by decide) (fun _ => ?_) (fun h => absurd rfl h)
  exact hN _ _ hR1
set_option maxHeartbeats 4000000 in
set_option maxRecDepth 100000 in
theorem lc_5 {X : XT} {l : Launch} {G : Gp} {am : Nat → Nat} {kc ks b L : Nat} {xs : Nat → Int32} {σ μ : Sg} {R : Sg → Sg → Prop} {x3 : Int32} (O : OkL X G am b L xs) (hkc : kc ≤ 600000 ∧ ks ≤ 7302250) (hst : st_mean R) (hR : R σ μ) (h1 : vp_in (x3 + 1) L) (hN : ∀ σ1 μ1, R σ1 μ1 → GL X l G am kc ks 1621 [(0, .ref b), (1, .ref (G.2.1 0)), (2, .ref (am 0)), (3, .int x3)] [] σ1 μ1) : GL X l G am kc ks 443 [(0, .ref b), (1, .ref (G.2.1 0)), (2, .ref (am 0)), (3, .int x3)] [] σ μ := by
  obtain ⟨r, σ1, μ1, e1, e2, hR1⟩ := hst σ μ (xs (x3 + 1).toNatClampNeg) hR
  refine gl_aload_n O dL_law_443 rfl 1 rfl ?_
  refine gl_aload_n O dL_law_444 rfl 0 rfl ?_
  refine gl_iload_n O dL_law_445 rfl 3 rfl ?_
  refine gl_iconst (v := 1) O dL_law_446 (by decide) ?_
  refine gl_iadd O dL_law_447 ?_
  refine gl_sld O h1 dL_law_448 ?_
  refine gl_callCi (As := [.int (xs (x3 + 1).toNatClampNeg)]) (rest := []) O hkc (c_X8_mean l G (okC O) e1) (fun s args hts => cwV 1 hts gw_X8_mean rfl rfl rfl (by decide +kernel) ⟨Nat.le_of_ble_eq_true rfl, Nat.le_of_ble_eq_true rfl⟩) rfl rfl (Nat.le_of_ble_eq_true rfl) dL_law_449 ?_
  refine gl_aload_n O dL_law_452 rfl 2 rfl ?_
  refine gl_aload_n O dL_law_453 rfl 0 rfl ?_
  refine gl_iload_n O dL_law_454 rfl 3 rfl ?_
  refine gl_iconst (v := 1) O dL_law_455 (by decide) ?_
  refine gl_iadd O dL_law_456 ?_
  refine gl_sld O h1 dL_law_457 ?_
  refine gl_callMi (As := [.int (xs (x3 + 1).toNatClampNeg)]) (rest := [.int r]) O hkc (c_X9_mean l (gM G am) (okM O) e2) (fun s args hts => cwV 1 hts gw_X9_mean rfl rfl rfl (by decide +kernel) ⟨Nat.le_of_ble_eq_true rfl, Nat.le_of_ble_eq_true rfl⟩) rfl rfl (Nat.le_of_ble_eq_true rfl) dL_law_458 ?_
  refine gl_icmp_eq (tgt := 1621) O dL_law_461 (by decide) (fun _ => ?_) (fun h => absurd rfl h)
  exact hN _ _ hR1
set_option maxHeartbeats 4000000 in
set_option maxRecDepth 100000 in
theorem lc_6 {X : XT} {l : Launch} {G : Gp} {am : Nat → Nat} {kc ks b L : Nat} {xs : Nat → Int32} {σ μ : Sg} {R : Sg → Sg → Prop} {x3 : Int32} (O : OkL X G am b L xs) (hkc : kc ≤ 600000 ∧ ks ≤ 7302250) (hst : st_text R) (hR : R σ μ) (h1 : vp_in (x3 + 1) L) (h2 : vp_in (x3 + 2) L) (hN : ∀ σ1 μ1, R σ1 μ1 → GL X l G am kc ks 1621 [(0, .ref b), (1, .ref (G.2.1 0)), (2, .ref (am 0)), (3, .int x3)] [] σ1 μ1) : GL X l G am kc ks 466 [(0, .ref b), (1, .ref (G.2.1 0)), (2, .ref (am 0)), (3, .int x3)] [] σ μ := by
  obtain ⟨r, σ1, μ1, e1, e2, hR1⟩ := hst σ μ (xs (x3 + 1).toNatClampNeg) (xs (x3 + 2).toNatClampNeg) hR
  refine gl_aload_n O dL_law_466 rfl 1 rfl ?_
  refine gl_aload_n O dL_law_467 rfl 0 rfl ?_
  refine gl_iload_n O dL_law_468 rfl 3 rfl ?_
  refine gl_iconst (v := 1) O dL_law_469 (by decide) ?_
  refine gl_iadd O dL_law_470 ?_
  refine gl_sld O h1 dL_law_471 ?_
  refine gl_aload_n O dL_law_472 rfl 0 rfl ?_
  refine gl_iload_n O dL_law_473 rfl 3 rfl ?_
  refine gl_iconst (v := 2) O dL_law_474 (by decide) ?_
  refine gl_iadd O dL_law_475 ?_
  refine gl_sld O h2 dL_law_476 ?_
  refine gl_callCi (As := [.int (xs (x3 + 1).toNatClampNeg), .int (xs (x3 + 2).toNatClampNeg)]) (rest := []) O hkc (c_X8_text l G (okC O) e1) (fun s args hts => cwV 2 hts gw_X8_text rfl rfl rfl (by decide +kernel) ⟨Nat.le_of_ble_eq_true rfl, Nat.le_of_ble_eq_true rfl⟩) rfl rfl (Nat.le_of_ble_eq_true rfl) dL_law_477 ?_
  refine gl_aload_n O dL_law_480 rfl 2 rfl ?_
  refine gl_aload_n O dL_law_481 rfl 0 rfl ?_
  refine gl_iload_n O dL_law_482 rfl 3 rfl ?_
  refine gl_iconst (v := 1) O dL_law_483 (by decide) ?_
  refine gl_iadd O dL_law_484 ?_
  refine gl_sld O h1 dL_law_485 ?_
  refine gl_aload_n O dL_law_486 rfl 0 rfl ?_
  refine gl_iload_n O dL_law_487 rfl 3 rfl ?_
  refine gl_iconst (v := 2) O dL_law_488 (by decide) ?_
  refine gl_iadd O dL_law_489 ?_
  refine gl_sld O h2 dL_law_490 ?_
  refine gl_callMi (As := [.int (xs (x3 + 1).toNatClampNeg), .int (xs (x3 + 2).toNatClampNeg)]) (rest := [.int r]) O hkc (c_X9_text l (gM G am) (okM O) e2) (fun s args hts => cwV 2 hts gw_X9_text rfl rfl rfl (by decide +kernel) ⟨Nat.le_of_ble_eq_true rfl, Nat.le_of_ble_eq_true rfl⟩) rfl rfl (Nat.le_of_ble_eq_true rfl) dL_law_491 ?_
  refine gl_icmp_eq (tgt := 1621) O dL_law_494 (by decide) (fun _ => ?_) (fun h => absurd rfl h)
  exact hN _ _ hR1
set_option maxHeartbeats 4000000 in
set_option maxRecDepth 100000 in
theorem lc_7 {X : XT} {l : Launch} {G : Gp} {am : Nat → Nat} {kc ks b L : Nat} {xs : Nat → Int32} {σ μ : Sg} {R : Sg → Sg → Prop} {x3 : Int32} (O : OkL X G am b L xs) (hkc : kc ≤ 600000 ∧ ks ≤ 7302250) (hst : st_put R) (hR : R σ μ) (h1 : vp_in (x3 + 1) L) (h2 : vp_in (x3 + 2) L) (h3 : vp_in (x3 + 3) L) (hN : ∀ σ1 μ1, R σ1 μ1 → GL X l G am kc ks 1621 [(0, .ref b), (1, .ref (G.2.1 0)), (2, .ref (am 0)), (3, .int x3)] [] σ1 μ1) : GL X l G am kc ks 499 [(0, .ref b), (1, .ref (G.2.1 0)), (2, .ref (am 0)), (3, .int x3)] [] σ μ := by
  obtain ⟨r, σ1, μ1, e1, e2, hR1⟩ := hst σ μ (xs (x3 + 1).toNatClampNeg) (xs (x3 + 2).toNatClampNeg) (xs (x3 + 3).toNatClampNeg) hR
  refine gl_aload_n O dL_law_499 rfl 1 rfl ?_
  refine gl_aload_n O dL_law_500 rfl 0 rfl ?_
  refine gl_iload_n O dL_law_501 rfl 3 rfl ?_
  refine gl_iconst (v := 1) O dL_law_502 (by decide) ?_
  refine gl_iadd O dL_law_503 ?_
  refine gl_sld O h1 dL_law_504 ?_
  refine gl_aload_n O dL_law_505 rfl 0 rfl ?_
  refine gl_iload_n O dL_law_506 rfl 3 rfl ?_
  refine gl_iconst (v := 2) O dL_law_507 (by decide) ?_
  refine gl_iadd O dL_law_508 ?_
  refine gl_sld O h2 dL_law_509 ?_
  refine gl_aload_n O dL_law_510 rfl 0 rfl ?_
  refine gl_iload_n O dL_law_511 rfl 3 rfl ?_
  refine gl_iconst (v := 3) O dL_law_512 (by decide) ?_
  refine gl_iadd O dL_law_513 ?_
  refine gl_sld O h3 dL_law_514 ?_
  refine gl_callCi (As := [.int (xs (x3 + 1).toNatClampNeg), .int (xs (x3 + 2).toNatClampNeg), .int (xs (x3 + 3).toNatClampNeg)]) (rest := []) O hkc (c_X8_put l G (okC O) e1) (fun s args hts => cwV 3 hts gw_X8_put rfl rfl rfl (by decide +kernel) ⟨Nat.le_of_ble_eq_true rfl, Nat.le_of_ble_eq_true rfl⟩) rfl rfl (Nat.le_of_ble_eq_true rfl) dL_law_515 ?_
  refine gl_aload_n O dL_law_518 rfl 2 rfl ?_
  refine gl_aload_n O dL_law_519 rfl 0 rfl ?_
  refine gl_iload_n O dL_law_520 rfl 3 rfl ?_
  refine gl_iconst (v := 1) O dL_law_521 (by decide) ?_
  refine gl_iadd O dL_law_522 ?_
  refine gl_sld O h1 dL_law_523 ?_
  refine gl_aload_n O dL_law_524 rfl 0 rfl ?_
  refine gl_iload_n O dL_law_525 rfl 3 rfl ?_
  refine gl_iconst (v := 2) O dL_law_526 (by decide) ?_
  refine gl_iadd O dL_law_527 ?_
  refine gl_sld O h2 dL_law_528 ?_
  refine gl_aload_n O dL_law_529 rfl 0 rfl ?_
  refine gl_iload_n O dL_law_530 rfl 3 rfl ?_
  refine gl_iconst (v := 3) O dL_law_531 (by decide) ?_
  refine gl_iadd O dL_law_532 ?_
  refine gl_sld O h3 dL_law_533 ?_
  refine gl_callMi (As := [.int (xs (x3 + 1).toNatClampNeg), .int (xs (x3 + 2).toNatClampNeg), .int (xs (x3 + 3).toNatClampNeg)]) (rest := [.int r]) O hkc (c_X9_put l (gM G am) (okM O) e2) (fun s args hts => cwV 3 hts gw_X9_put rfl rfl rfl (by decide +kernel) ⟨Nat.le_of_ble_eq_true rfl, Nat.le_of_ble_eq_true rfl⟩) rfl rfl (Nat.le_of_ble_eq_true rfl) dL_law_534 ?_
  refine gl_icmp_eq (tgt := 1621) O dL_law_537 (by decide) (fun _ => ?_) (fun h => absurd rfl h)
  exact hN _ _ hR1
set_option maxHeartbeats 4000000 in
set_option maxRecDepth 100000 in
theorem lc_8 {X : XT} {l : Launch} {G : Gp} {am : Nat → Nat} {kc ks b L : Nat} {xs : Nat → Int32} {σ μ : Sg} {R : Sg → Sg → Prop} {x3 : Int32} (O : OkL X G am b L xs) (hkc : kc ≤ 600000 ∧ ks ≤ 7302250) (hst : st_fault R) (hR : R σ μ) (h1 : vp_in (x3 + 1) L) (hN : ∀ σ1 μ1, R σ1 μ1 → GL X l G am kc ks 1621 [(0, .ref b), (1, .ref (G.2.1 0)), (2, .ref (am 0)), (3, .int x3)] [] σ1 μ1) : GL X l G am kc ks 542 [(0, .ref b), (1, .ref (G.2.1 0)), (2, .ref (am 0)), (3, .int x3)] [] σ μ := by
  obtain ⟨r, σ1, μ1, e1, e2, hR1⟩ := hst σ μ (xs (x3 + 1).toNatClampNeg) hR
  refine gl_aload_n O dL_law_542 rfl 1 rfl ?_
  refine gl_aload_n O dL_law_543 rfl 0 rfl ?_
  refine gl_iload_n O dL_law_544 rfl 3 rfl ?_
  refine gl_iconst (v := 1) O dL_law_545 (by decide) ?_
  refine gl_iadd O dL_law_546 ?_
  refine gl_sld O h1 dL_law_547 ?_
  refine gl_callCi (As := [.int (xs (x3 + 1).toNatClampNeg)]) (rest := []) O hkc (c_X8_fault l G (okC O) e1) (fun s args hts => cwV 1 hts gw_X8_fault rfl rfl rfl (by decide +kernel) ⟨Nat.le_of_ble_eq_true rfl, Nat.le_of_ble_eq_true rfl⟩) rfl rfl (Nat.le_of_ble_eq_true rfl) dL_law_548 ?_
  refine gl_aload_n O dL_law_551 rfl 2 rfl ?_
  refine gl_aload_n O dL_law_552 rfl 0 rfl ?_
  refine gl_iload_n O dL_law_553 rfl 3 rfl ?_
  refine gl_iconst (v := 1) O dL_law_554 (by decide) ?_
  refine gl_iadd O dL_law_555 ?_
  refine gl_sld O h1 dL_law_556 ?_
  refine gl_callMi (As := [.int (xs (x3 + 1).toNatClampNeg)]) (rest := [.int r]) O hkc (c_X9_fault l (gM G am) (okM O) e2) (fun s args hts => cwV 1 hts gw_X9_fault rfl rfl rfl (by decide +kernel) ⟨Nat.le_of_ble_eq_true rfl, Nat.le_of_ble_eq_true rfl⟩) rfl rfl (Nat.le_of_ble_eq_true rfl) dL_law_557 ?_
  refine gl_icmp_eq (tgt := 1621) O dL_law_560 (by decide) (fun _ => ?_) (fun h => absurd rfl h)
  exact hN _ _ hR1
set_option maxHeartbeats 4000000 in
set_option maxRecDepth 100000 in
theorem lc_9 {X : XT} {l : Launch} {G : Gp} {am : Nat → Nat} {kc ks b L : Nat} {xs : Nat → Int32} {σ μ : Sg} {R : Sg → Sg → Prop} {x3 : Int32} (O : OkL X G am b L xs) (hkc : kc ≤ 600000 ∧ ks ≤ 7302250) (hst : st_street R) (hR : R σ μ) (h1 : vp_in (x3 + 1) L) (hN : ∀ σ1 μ1, R σ1 μ1 → GL X l G am kc ks 1621 [(0, .ref b), (1, .ref (G.2.1 0)), (2, .ref (am 0)), (3, .int x3)] [] σ1 μ1) : GL X l G am kc ks 565 [(0, .ref b), (1, .ref (G.2.1 0)), (2, .ref (am 0)), (3, .int x3)] [] σ μ := by
  obtain ⟨r, σ1, μ1, e1, e2, hR1⟩ := hst σ μ (xs (x3 + 1).toNatClampNeg) hR
  refine gl_aload_n O dL_law_565 rfl 1 rfl ?_
  refine gl_aload_n O dL_law_566 rfl 0 rfl ?_
  refine gl_iload_n O dL_law_567 rfl 3 rfl ?_
  refine gl_iconst (v := 1) O dL_law_568 (by decide) ?_
  refine gl_iadd O dL_law_569 ?_
  refine gl_sld O h1 dL_law_570 ?_
  refine gl_callCi (As := [.int (xs (x3 + 1).toNatClampNeg)]) (rest := []) O hkc (c_X8_street l G (okC O) e1) (fun s args hts => cwV 1 hts gw_X8_street rfl rfl rfl (by decide +kernel) ⟨Nat.le_of_ble_eq_true rfl, Nat.le_of_ble_eq_true rfl⟩) rfl rfl (Nat.le_of_ble_eq_true rfl) dL_law_571 ?_
  refine gl_aload_n O dL_law_574 rfl 2 rfl ?_
  refine gl_aload_n O dL_law_575 rfl 0 rfl ?_
  refine gl_iload_n O dL_law_576 rfl 3 rfl ?_
  refine gl_iconst (v := 1) O dL_law_577 (by decide) ?_
  refine gl_iadd O dL_law_578 ?_
  refine gl_sld O h1 dL_law_579 ?_
  refine gl_callMi (As := [.int (xs (x3 + 1).toNatClampNeg)]) (rest := [.int r]) O hkc (c_X9_street l (gM G am) (okM O) e2) (fun s args hts => cwV 1 hts gw_X9_street rfl rfl rfl (by decide +kernel) ⟨Nat.le_of_ble_eq_true rfl, Nat.le_of_ble_eq_true rfl⟩) rfl rfl (Nat.le_of_ble_eq_true rfl) dL_law_580 ?_
  refine gl_icmp_eq (tgt := 1621) O dL_law_583 (by decide) (fun _ => ?_) (fun h => absurd rfl h)
  exact hN _ _ hR1
set_option maxHeartbeats 4000000 in
set_option maxRecDepth 100000 in
theorem lc_10 {X : XT} {l : Launch} {G : Gp} {am : Nat → Nat} {kc ks b L : Nat} {xs : Nat → Int32} {σ μ : Sg} {R : Sg → Sg → Prop} {x3 : Int32} (O : OkL X G am b L xs) (hkc : kc ≤ 600000 ∧ ks ≤ 7302250) (hst : st_person R) (hR : R σ μ) (h1 : vp_in (x3 + 1) L) (h2 : vp_in (x3 + 2) L) (hN : ∀ σ1 μ1, R σ1 μ1 → GL X l G am kc ks 1621 [(0, .ref b), (1, .ref (G.2.1 0)), (2, .ref (am 0)), (3, .int x3)] [] σ1 μ1) : GL X l G am kc ks 588 [(0, .ref b), (1, .ref (G.2.1 0)), (2, .ref (am 0)), (3, .int x3)] [] σ μ := by
  obtain ⟨r, σ1, μ1, e1, e2, hR1⟩ := hst σ μ (xs (x3 + 1).toNatClampNeg) (xs (x3 + 2).toNatClampNeg) hR
  refine gl_aload_n O dL_law_588 rfl 1 rfl ?_
  refine gl_aload_n O dL_law_589 rfl 0 rfl ?_
  refine gl_iload_n O dL_law_590 rfl 3 rfl ?_
  refine gl_iconst (v := 1) O dL_law_591 (by decide) ?_
  refine gl_iadd O dL_law_592 ?_
  refine gl_sld O h1 dL_law_593 ?_
  refine gl_aload_n O dL_law_594 rfl 0 rfl ?_
  refine gl_iload_n O dL_law_595 rfl 3 rfl ?_
  refine gl_iconst (v := 2) O dL_law_596 (by decide) ?_
  refine gl_iadd O dL_law_597 ?_
  refine gl_sld O h2 dL_law_598 ?_
  refine gl_callCi (As := [.int (xs (x3 + 1).toNatClampNeg), .int (xs (x3 + 2).toNatClampNeg)]) (rest := []) O hkc (c_X8_person l G (okC O) e1) (fun s args hts => cwV 2 hts gw_X8_person rfl rfl rfl (by decide +kernel) ⟨Nat.le_of_ble_eq_true rfl, Nat.le_of_ble_eq_true rfl⟩) rfl rfl (Nat.le_of_ble_eq_true rfl) dL_law_599 ?_
  refine gl_aload_n O dL_law_602 rfl 2 rfl ?_
  refine gl_aload_n O dL_law_603 rfl 0 rfl ?_
  refine gl_iload_n O dL_law_604 rfl 3 rfl ?_
  refine gl_iconst (v := 1) O dL_law_605 (by decide) ?_
  refine gl_iadd O dL_law_606 ?_
  refine gl_sld O h1 dL_law_607 ?_
  refine gl_aload_n O dL_law_608 rfl 0 rfl ?_
  refine gl_iload_n O dL_law_609 rfl 3 rfl ?_
  refine gl_iconst (v := 2) O dL_law_610 (by decide) ?_
  refine gl_iadd O dL_law_611 ?_
  refine gl_sld O h2 dL_law_612 ?_
  refine gl_callMi (As := [.int (xs (x3 + 1).toNatClampNeg), .int (xs (x3 + 2).toNatClampNeg)]) (rest := [.int r]) O hkc (c_X9_person l (gM G am) (okM O) e2) (fun s args hts => cwV 2 hts gw_X9_person rfl rfl rfl (by decide +kernel) ⟨Nat.le_of_ble_eq_true rfl, Nat.le_of_ble_eq_true rfl⟩) rfl rfl (Nat.le_of_ble_eq_true rfl) dL_law_613 ?_
  refine gl_icmp_eq (tgt := 1621) O dL_law_616 (by decide) (fun _ => ?_) (fun h => absurd rfl h)
  exact hN _ _ hR1
set_option maxHeartbeats 4000000 in
set_option maxRecDepth 100000 in
theorem lc_11 {X : XT} {l : Launch} {G : Gp} {am : Nat → Nat} {kc ks b L : Nat} {xs : Nat → Int32} {σ μ : Sg} {R : Sg → Sg → Prop} {x3 : Int32} (O : OkL X G am b L xs) (hkc : kc ≤ 600000 ∧ ks ≤ 7302250) (hst : st_mark R) (hR : R σ μ) (h1 : vp_in (x3 + 1) L) (h2 : vp_in (x3 + 2) L) (hN : ∀ σ1 μ1, R σ1 μ1 → GL X l G am kc ks 1621 [(0, .ref b), (1, .ref (G.2.1 0)), (2, .ref (am 0)), (3, .int x3)] [] σ1 μ1) : GL X l G am kc ks 621 [(0, .ref b), (1, .ref (G.2.1 0)), (2, .ref (am 0)), (3, .int x3)] [] σ μ := by
  obtain ⟨r, σ1, μ1, e1, e2, hR1⟩ := hst σ μ (xs (x3 + 1).toNatClampNeg) (xs (x3 + 2).toNatClampNeg) hR
  refine gl_aload_n O dL_law_621 rfl 1 rfl ?_
  refine gl_aload_n O dL_law_622 rfl 0 rfl ?_
  refine gl_iload_n O dL_law_623 rfl 3 rfl ?_
  refine gl_iconst (v := 1) O dL_law_624 (by decide) ?_
  refine gl_iadd O dL_law_625 ?_
  refine gl_sld O h1 dL_law_626 ?_
  refine gl_aload_n O dL_law_627 rfl 0 rfl ?_
  refine gl_iload_n O dL_law_628 rfl 3 rfl ?_
  refine gl_iconst (v := 2) O dL_law_629 (by decide) ?_
  refine gl_iadd O dL_law_630 ?_
  refine gl_sld O h2 dL_law_631 ?_
  refine gl_callCi (As := [.int (xs (x3 + 1).toNatClampNeg), .int (xs (x3 + 2).toNatClampNeg)]) (rest := []) O hkc (c_X8_mark l G (okC O) e1) (fun s args hts => cwV 2 hts gw_X8_mark rfl rfl rfl (by decide +kernel) ⟨Nat.le_of_ble_eq_true rfl, Nat.le_of_ble_eq_true rfl⟩) rfl rfl (Nat.le_of_ble_eq_true rfl) dL_law_632 ?_
  refine gl_aload_n O dL_law_635 rfl 2 rfl ?_
  refine gl_aload_n O dL_law_636 rfl 0 rfl ?_
  refine gl_iload_n O dL_law_637 rfl 3 rfl ?_
  refine gl_iconst (v := 1) O dL_law_638 (by decide) ?_
  refine gl_iadd O dL_law_639 ?_
  refine gl_sld O h1 dL_law_640 ?_
  refine gl_aload_n O dL_law_641 rfl 0 rfl ?_
  refine gl_iload_n O dL_law_642 rfl 3 rfl ?_
  refine gl_iconst (v := 2) O dL_law_643 (by decide) ?_
  refine gl_iadd O dL_law_644 ?_
  refine gl_sld O h2 dL_law_645 ?_
  refine gl_callMi (As := [.int (xs (x3 + 1).toNatClampNeg), .int (xs (x3 + 2).toNatClampNeg)]) (rest := [.int r]) O hkc (c_X9_mark l (gM G am) (okM O) e2) (fun s args hts => cwV 2 hts gw_X9_mark rfl rfl rfl (by decide +kernel) ⟨Nat.le_of_ble_eq_true rfl, Nat.le_of_ble_eq_true rfl⟩) rfl rfl (Nat.le_of_ble_eq_true rfl) dL_law_646 ?_
  refine gl_icmp_eq (tgt := 1621) O dL_law_649 (by decide) (fun _ => ?_) (fun h => absurd rfl h)
  exact hN _ _ hR1
set_option maxHeartbeats 4000000 in
set_option maxRecDepth 100000 in
theorem lc_12 {X : XT} {l : Launch} {G : Gp} {am : Nat → Nat} {kc ks b L : Nat} {xs : Nat → Int32} {σ μ : Sg} {R : Sg → Sg → Prop} {x3 : Int32} (O : OkL X G am b L xs) (hkc : kc ≤ 600000 ∧ ks ≤ 7302250) (hst : st_wall R) (hR : R σ μ) (h1 : vp_in (x3 + 1) L) (h2 : vp_in (x3 + 2) L) (hN : ∀ σ1 μ1, R σ1 μ1 → GL X l G am kc ks 1621 [(0, .ref b), (1, .ref (G.2.1 0)), (2, .ref (am 0)), (3, .int x3)] [] σ1 μ1) : GL X l G am kc ks 654 [(0, .ref b), (1, .ref (G.2.1 0)), (2, .ref (am 0)), (3, .int x3)] [] σ μ := by
  obtain ⟨r, σ1, μ1, e1, e2, hR1⟩ := hst σ μ (xs (x3 + 1).toNatClampNeg) (xs (x3 + 2).toNatClampNeg) hR
  refine gl_aload_n O dL_law_654 rfl 1 rfl ?_
  refine gl_aload_n O dL_law_655 rfl 0 rfl ?_
  refine gl_iload_n O dL_law_656 rfl 3 rfl ?_
  refine gl_iconst (v := 1) O dL_law_657 (by decide) ?_
  refine gl_iadd O dL_law_658 ?_
  refine gl_sld O h1 dL_law_659 ?_
  refine gl_aload_n O dL_law_660 rfl 0 rfl ?_
  refine gl_iload_n O dL_law_661 rfl 3 rfl ?_
  refine gl_iconst (v := 2) O dL_law_662 (by decide) ?_
  refine gl_iadd O dL_law_663 ?_
  refine gl_sld O h2 dL_law_664 ?_
  refine gl_callCi (As := [.int (xs (x3 + 1).toNatClampNeg), .int (xs (x3 + 2).toNatClampNeg)]) (rest := []) O hkc (c_X8_wall l G (okC O) e1) (fun s args hts => cwV 2 hts gw_X8_wall rfl rfl rfl (by decide +kernel) ⟨Nat.le_of_ble_eq_true rfl, Nat.le_of_ble_eq_true rfl⟩) rfl rfl (Nat.le_of_ble_eq_true rfl) dL_law_665 ?_
  refine gl_aload_n O dL_law_668 rfl 2 rfl ?_
  refine gl_aload_n O dL_law_669 rfl 0 rfl ?_
  refine gl_iload_n O dL_law_670 rfl 3 rfl ?_
  refine gl_iconst (v := 1) O dL_law_671 (by decide) ?_
  refine gl_iadd O dL_law_672 ?_
  refine gl_sld O h1 dL_law_673 ?_
  refine gl_aload_n O dL_law_674 rfl 0 rfl ?_
  refine gl_iload_n O dL_law_675 rfl 3 rfl ?_
  refine gl_iconst (v := 2) O dL_law_676 (by decide) ?_
  refine gl_iadd O dL_law_677 ?_
  refine gl_sld O h2 dL_law_678 ?_
  refine gl_callMi (As := [.int (xs (x3 + 1).toNatClampNeg), .int (xs (x3 + 2).toNatClampNeg)]) (rest := [.int r]) O hkc (c_X9_wall l (gM G am) (okM O) e2) (fun s args hts => cwV 2 hts gw_X9_wall rfl rfl rfl (by decide +kernel) ⟨Nat.le_of_ble_eq_true rfl, Nat.le_of_ble_eq_true rfl⟩) rfl rfl (Nat.le_of_ble_eq_true rfl) dL_law_679 ?_
  refine gl_icmp_eq (tgt := 1621) O dL_law_682 (by decide) (fun _ => ?_) (fun h => absurd rfl h)
  exact hN _ _ hR1
set_option maxHeartbeats 4000000 in
set_option maxRecDepth 100000 in
theorem lc_13 {X : XT} {l : Launch} {G : Gp} {am : Nat → Nat} {kc ks b L : Nat} {xs : Nat → Int32} {σ μ : Sg} {R : Sg → Sg → Prop} {x3 : Int32} (O : OkL X G am b L xs) (hkc : kc ≤ 600000 ∧ ks ≤ 7302250) (hst : st_move R) (hR : R σ μ) (h1 : vp_in (x3 + 1) L) (h2 : vp_in (x3 + 2) L) (hN : ∀ σ1 μ1, R σ1 μ1 → GL X l G am kc ks 1621 [(0, .ref b), (1, .ref (G.2.1 0)), (2, .ref (am 0)), (3, .int x3)] [] σ1 μ1) : GL X l G am kc ks 687 [(0, .ref b), (1, .ref (G.2.1 0)), (2, .ref (am 0)), (3, .int x3)] [] σ μ := by
  obtain ⟨r, σ1, μ1, e1, e2, hR1⟩ := hst σ μ (xs (x3 + 1).toNatClampNeg) (xs (x3 + 2).toNatClampNeg) hR
  refine gl_aload_n O dL_law_687 rfl 1 rfl ?_
  refine gl_aload_n O dL_law_688 rfl 0 rfl ?_
  refine gl_iload_n O dL_law_689 rfl 3 rfl ?_
  refine gl_iconst (v := 1) O dL_law_690 (by decide) ?_
  refine gl_iadd O dL_law_691 ?_
  refine gl_sld O h1 dL_law_692 ?_
  refine gl_aload_n O dL_law_693 rfl 0 rfl ?_
  refine gl_iload_n O dL_law_694 rfl 3 rfl ?_
  refine gl_iconst (v := 2) O dL_law_695 (by decide) ?_
  refine gl_iadd O dL_law_696 ?_
  refine gl_sld O h2 dL_law_697 ?_
  refine gl_callCi (As := [.int (xs (x3 + 1).toNatClampNeg), .int (xs (x3 + 2).toNatClampNeg)]) (rest := []) O hkc (c_X8_move l G (okC O) e1) (fun s args hts => cwV 2 hts gw_X8_move rfl rfl rfl (by decide +kernel) ⟨Nat.le_of_ble_eq_true rfl, Nat.le_of_ble_eq_true rfl⟩) rfl rfl (Nat.le_of_ble_eq_true rfl) dL_law_698 ?_
  refine gl_aload_n O dL_law_701 rfl 2 rfl ?_
  refine gl_aload_n O dL_law_702 rfl 0 rfl ?_
  refine gl_iload_n O dL_law_703 rfl 3 rfl ?_
  refine gl_iconst (v := 1) O dL_law_704 (by decide) ?_
  refine gl_iadd O dL_law_705 ?_
  refine gl_sld O h1 dL_law_706 ?_
  refine gl_aload_n O dL_law_707 rfl 0 rfl ?_
  refine gl_iload_n O dL_law_708 rfl 3 rfl ?_
  refine gl_iconst (v := 2) O dL_law_709 (by decide) ?_
  refine gl_iadd O dL_law_710 ?_
  refine gl_sld O h2 dL_law_711 ?_
  refine gl_callMi (As := [.int (xs (x3 + 1).toNatClampNeg), .int (xs (x3 + 2).toNatClampNeg)]) (rest := [.int r]) O hkc (c_X9_move l (gM G am) (okM O) e2) (fun s args hts => cwV 2 hts gw_X9_move rfl rfl rfl (by decide +kernel) ⟨Nat.le_of_ble_eq_true rfl, Nat.le_of_ble_eq_true rfl⟩) rfl rfl (Nat.le_of_ble_eq_true rfl) dL_law_712 ?_
  refine gl_icmp_eq (tgt := 1621) O dL_law_715 (by decide) (fun _ => ?_) (fun h => absurd rfl h)
  exact hN _ _ hR1
set_option maxHeartbeats 4000000 in
set_option maxRecDepth 100000 in
theorem lc_14 {X : XT} {l : Launch} {G : Gp} {am : Nat → Nat} {kc ks b L : Nat} {xs : Nat → Int32} {σ μ : Sg} {R : Sg → Sg → Prop} {x3 : Int32} (O : OkL X G am b L xs) (hkc : kc ≤ 600000 ∧ ks ≤ 7302250) (hst : st_hears R) (hR : R σ μ) (h1 : vp_in (x3 + 1) L) (h2 : vp_in (x3 + 2) L) (hN : ∀ σ1 μ1, R σ1 μ1 → GL X l G am kc ks 1621 [(0, .ref b), (1, .ref (G.2.1 0)), (2, .ref (am 0)), (3, .int x3)] [] σ1 μ1) : GL X l G am kc ks 720 [(0, .ref b), (1, .ref (G.2.1 0)), (2, .ref (am 0)), (3, .int x3)] [] σ μ := by
  obtain ⟨r, σ1, μ1, e1, e2, hR1⟩ := hst σ μ (xs (x3 + 1).toNatClampNeg) (xs (x3 + 2).toNatClampNeg) hR
  refine gl_aload_n O dL_law_720 rfl 1 rfl ?_
  refine gl_aload_n O dL_law_721 rfl 0 rfl ?_
  refine gl_iload_n O dL_law_722 rfl 3 rfl ?_
  refine gl_iconst (v := 1) O dL_law_723 (by decide) ?_
  refine gl_iadd O dL_law_724 ?_
  refine gl_sld O h1 dL_law_725 ?_
  refine gl_aload_n O dL_law_726 rfl 0 rfl ?_
  refine gl_iload_n O dL_law_727 rfl 3 rfl ?_
  refine gl_iconst (v := 2) O dL_law_728 (by decide) ?_
  refine gl_iadd O dL_law_729 ?_
  refine gl_sld O h2 dL_law_730 ?_
  refine gl_callCi (As := [.int (xs (x3 + 1).toNatClampNeg), .int (xs (x3 + 2).toNatClampNeg)]) (rest := []) O hkc (c_X8_hears l G (okC O) e1) (fun s args hts => cwV 2 hts gw_X8_hears rfl rfl rfl (by decide +kernel) ⟨Nat.le_of_ble_eq_true rfl, Nat.le_of_ble_eq_true rfl⟩) rfl rfl (Nat.le_of_ble_eq_true rfl) dL_law_731 ?_
  refine gl_aload_n O dL_law_734 rfl 2 rfl ?_
  refine gl_aload_n O dL_law_735 rfl 0 rfl ?_
  refine gl_iload_n O dL_law_736 rfl 3 rfl ?_
  refine gl_iconst (v := 1) O dL_law_737 (by decide) ?_
  refine gl_iadd O dL_law_738 ?_
  refine gl_sld O h1 dL_law_739 ?_
  refine gl_aload_n O dL_law_740 rfl 0 rfl ?_
  refine gl_iload_n O dL_law_741 rfl 3 rfl ?_
  refine gl_iconst (v := 2) O dL_law_742 (by decide) ?_
  refine gl_iadd O dL_law_743 ?_
  refine gl_sld O h2 dL_law_744 ?_
  refine gl_callMi (As := [.int (xs (x3 + 1).toNatClampNeg), .int (xs (x3 + 2).toNatClampNeg)]) (rest := [.int r]) O hkc (c_X9_hears l (gM G am) (okM O) e2) (fun s args hts => cwV 2 hts gw_X9_hears rfl rfl rfl (by decide +kernel) ⟨Nat.le_of_ble_eq_true rfl, Nat.le_of_ble_eq_true rfl⟩) rfl rfl (Nat.le_of_ble_eq_true rfl) dL_law_745 ?_
  refine gl_icmp_eq (tgt := 1621) O dL_law_748 (by decide) (fun _ => ?_) (fun h => absurd rfl h)
  exact hN _ _ hR1
set_option maxHeartbeats 4000000 in
set_option maxRecDepth 100000 in
theorem lc_15 {X : XT} {l : Launch} {G : Gp} {am : Nat → Nat} {kc ks b L : Nat} {xs : Nat → Int32} {σ μ : Sg} {R : Sg → Sg → Prop} {x3 : Int32} (O : OkL X G am b L xs) (hkc : kc ≤ 600000 ∧ ks ≤ 7302250) (hst : st_heard R) (hR : R σ μ) (h1 : vp_in (x3 + 1) L) (h2 : vp_in (x3 + 2) L) (hN : ∀ σ1 μ1, R σ1 μ1 → GL X l G am kc ks 1621 [(0, .ref b), (1, .ref (G.2.1 0)), (2, .ref (am 0)), (3, .int x3)] [] σ1 μ1) : GL X l G am kc ks 753 [(0, .ref b), (1, .ref (G.2.1 0)), (2, .ref (am 0)), (3, .int x3)] [] σ μ := by
  obtain ⟨r, e1, e2⟩ := hst σ μ (xs (x3 + 1).toNatClampNeg) (xs (x3 + 2).toNatClampNeg) hR
  refine gl_aload_n O dL_law_753 rfl 1 rfl ?_
  refine gl_aload_n O dL_law_754 rfl 0 rfl ?_
  refine gl_iload_n O dL_law_755 rfl 3 rfl ?_
  refine gl_iconst (v := 1) O dL_law_756 (by decide) ?_
  refine gl_iadd O dL_law_757 ?_
  refine gl_sld O h1 dL_law_758 ?_
  refine gl_aload_n O dL_law_759 rfl 0 rfl ?_
  refine gl_iload_n O dL_law_760 rfl 3 rfl ?_
  refine gl_iconst (v := 2) O dL_law_761 (by decide) ?_
  refine gl_iadd O dL_law_762 ?_
  refine gl_sld O h2 dL_law_763 ?_
  refine gl_callCi (As := [.int (xs (x3 + 1).toNatClampNeg), .int (xs (x3 + 2).toNatClampNeg)]) (rest := []) O hkc (c_X8_heard l G (okC O) e1) (fun s args hts => cwV 2 hts gw_X8_heard rfl rfl rfl (by decide +kernel) ⟨Nat.le_of_ble_eq_true rfl, Nat.le_of_ble_eq_true rfl⟩) rfl rfl (Nat.le_of_ble_eq_true rfl) dL_law_764 ?_
  refine gl_aload_n O dL_law_767 rfl 2 rfl ?_
  refine gl_aload_n O dL_law_768 rfl 0 rfl ?_
  refine gl_iload_n O dL_law_769 rfl 3 rfl ?_
  refine gl_iconst (v := 1) O dL_law_770 (by decide) ?_
  refine gl_iadd O dL_law_771 ?_
  refine gl_sld O h1 dL_law_772 ?_
  refine gl_aload_n O dL_law_773 rfl 0 rfl ?_
  refine gl_iload_n O dL_law_774 rfl 3 rfl ?_
  refine gl_iconst (v := 2) O dL_law_775 (by decide) ?_
  refine gl_iadd O dL_law_776 ?_
  refine gl_sld O h2 dL_law_777 ?_
  refine gl_callMi (As := [.int (xs (x3 + 1).toNatClampNeg), .int (xs (x3 + 2).toNatClampNeg)]) (rest := [.int r]) O hkc (c_X9_heard l (gM G am) (okM O) e2) (fun s args hts => cwV 2 hts gw_X9_heard rfl rfl rfl (by decide +kernel) ⟨Nat.le_of_ble_eq_true rfl, Nat.le_of_ble_eq_true rfl⟩) rfl rfl (Nat.le_of_ble_eq_true rfl) dL_law_778 ?_
  refine gl_icmp_eq (tgt := 1621) O dL_law_781 (by decide) (fun _ => ?_) (fun h => absurd rfl h)
  exact hN _ _ hR
set_option maxHeartbeats 4000000 in
set_option maxRecDepth 100000 in
theorem lc_16 {X : XT} {l : Launch} {G : Gp} {am : Nat → Nat} {kc ks b L : Nat} {xs : Nat → Int32} {σ μ : Sg} {R : Sg → Sg → Prop} {x3 : Int32} (O : OkL X G am b L xs) (hkc : kc ≤ 600000 ∧ ks ≤ 7302250) (hst : st_noise R) (hR : R σ μ) (h1 : vp_in (x3 + 1) L) (h2 : vp_in (x3 + 2) L) (hN : ∀ σ1 μ1, R σ1 μ1 → GL X l G am kc ks 1621 [(0, .ref b), (1, .ref (G.2.1 0)), (2, .ref (am 0)), (3, .int x3)] [] σ1 μ1) : GL X l G am kc ks 786 [(0, .ref b), (1, .ref (G.2.1 0)), (2, .ref (am 0)), (3, .int x3)] [] σ μ := by
  obtain ⟨r, e1, e2⟩ := hst σ μ (xs (x3 + 1).toNatClampNeg) (xs (x3 + 2).toNatClampNeg) hR
  refine gl_aload_n O dL_law_786 rfl 1 rfl ?_
  refine gl_aload_n O dL_law_787 rfl 0 rfl ?_
  refine gl_iload_n O dL_law_788 rfl 3 rfl ?_
  refine gl_iconst (v := 1) O dL_law_789 (by decide) ?_
  refine gl_iadd O dL_law_790 ?_
  refine gl_sld O h1 dL_law_791 ?_
  refine gl_aload_n O dL_law_792 rfl 0 rfl ?_
  refine gl_iload_n O dL_law_793 rfl 3 rfl ?_
  refine gl_iconst (v := 2) O dL_law_794 (by decide) ?_
  refine gl_iadd O dL_law_795 ?_
  refine gl_sld O h2 dL_law_796 ?_
  refine gl_callCi (As := [.int (xs (x3 + 1).toNatClampNeg), .int (xs (x3 + 2).toNatClampNeg)]) (rest := []) O hkc (c_X8_noise l G (okC O) e1) (fun s args hts => cwV 2 hts gw_X8_noise rfl rfl rfl (by decide +kernel) ⟨Nat.le_of_ble_eq_true rfl, Nat.le_of_ble_eq_true rfl⟩) rfl rfl (Nat.le_of_ble_eq_true rfl) dL_law_797 ?_
  refine gl_aload_n O dL_law_800 rfl 2 rfl ?_
  refine gl_aload_n O dL_law_801 rfl 0 rfl ?_
  refine gl_iload_n O dL_law_802 rfl 3 rfl ?_
  refine gl_iconst (v := 1) O dL_law_803 (by decide) ?_
  refine gl_iadd O dL_law_804 ?_
  refine gl_sld O h1 dL_law_805 ?_
  refine gl_aload_n O dL_law_806 rfl 0 rfl ?_
  refine gl_iload_n O dL_law_807 rfl 3 rfl ?_
  refine gl_iconst (v := 2) O dL_law_808 (by decide) ?_
  refine gl_iadd O dL_law_809 ?_
  refine gl_sld O h2 dL_law_810 ?_
  refine gl_callMi (As := [.int (xs (x3 + 1).toNatClampNeg), .int (xs (x3 + 2).toNatClampNeg)]) (rest := [.int r]) O hkc (c_X9_noise l (gM G am) (okM O) e2) (fun s args hts => cwV 2 hts gw_X9_noise rfl rfl rfl (by decide +kernel) ⟨Nat.le_of_ble_eq_true rfl, Nat.le_of_ble_eq_true rfl⟩) rfl rfl (Nat.le_of_ble_eq_true rfl) dL_law_811 ?_
  refine gl_icmp_eq (tgt := 1621) O dL_law_814 (by decide) (fun _ => ?_) (fun h => absurd rfl h)
  exact hN _ _ hR
set_option maxHeartbeats 4000000 in
set_option maxRecDepth 100000 in
theorem lc_17 {X : XT} {l : Launch} {G : Gp} {am : Nat → Nat} {kc ks b L : Nat} {xs : Nat → Int32} {σ μ : Sg} {R : Sg → Sg → Prop} {x3 : Int32} (O : OkL X G am b L xs) (hkc : kc ≤ 600000 ∧ ks ≤ 7302250) (hst : st_hush R) (hR : R σ μ) (h1 : vp_in (x3 + 1) L) (hN : ∀ σ1 μ1, R σ1 μ1 → GL X l G am kc ks 1621 [(0, .ref b), (1, .ref (G.2.1 0)), (2, .ref (am 0)), (3, .int x3)] [] σ1 μ1) : GL X l G am kc ks 819 [(0, .ref b), (1, .ref (G.2.1 0)), (2, .ref (am 0)), (3, .int x3)] [] σ μ := by
  obtain ⟨r, σ1, μ1, e1, e2, hR1⟩ := hst σ μ (xs (x3 + 1).toNatClampNeg) hR
  refine gl_aload_n O dL_law_819 rfl 1 rfl ?_
  refine gl_aload_n O dL_law_820 rfl 0 rfl ?_
  refine gl_iload_n O dL_law_821 rfl 3 rfl ?_
  refine gl_iconst (v := 1) O dL_law_822 (by decide) ?_
  refine gl_iadd O dL_law_823 ?_
  refine gl_sld O h1 dL_law_824 ?_
  refine gl_callCi (As := [.int (xs (x3 + 1).toNatClampNeg)]) (rest := []) O hkc (c_X8_hush l G (okC O) e1) (fun s args hts => cwV 1 hts gw_X8_hush rfl rfl rfl (by decide +kernel) ⟨Nat.le_of_ble_eq_true rfl, Nat.le_of_ble_eq_true rfl⟩) rfl rfl (Nat.le_of_ble_eq_true rfl) dL_law_825 ?_
  refine gl_aload_n O dL_law_828 rfl 2 rfl ?_
  refine gl_aload_n O dL_law_829 rfl 0 rfl ?_
  refine gl_iload_n O dL_law_830 rfl 3 rfl ?_
  refine gl_iconst (v := 1) O dL_law_831 (by decide) ?_
  refine gl_iadd O dL_law_832 ?_
  refine gl_sld O h1 dL_law_833 ?_
  refine gl_callMi (As := [.int (xs (x3 + 1).toNatClampNeg)]) (rest := [.int r]) O hkc (c_X9_hush l (gM G am) (okM O) e2) (fun s args hts => cwV 1 hts gw_X9_hush rfl rfl rfl (by decide +kernel) ⟨Nat.le_of_ble_eq_true rfl, Nat.le_of_ble_eq_true rfl⟩) rfl rfl (Nat.le_of_ble_eq_true rfl) dL_law_834 ?_
  refine gl_icmp_eq (tgt := 1621) O dL_law_837 (by decide) (fun _ => ?_) (fun h => absurd rfl h)
  exact hN _ _ hR1
set_option maxHeartbeats 4000000 in
set_option maxRecDepth 100000 in
theorem lc_18 {X : XT} {l : Launch} {G : Gp} {am : Nat → Nat} {kc ks b L : Nat} {xs : Nat → Int32} {σ μ : Sg} {R : Sg → Sg → Prop} {x3 : Int32} (O : OkL X G am b L xs) (hkc : kc ≤ 600000 ∧ ks ≤ 7302250) (hst : st_talk R) (hR : R σ μ) (h1 : vp_in (x3 + 1) L) (h2 : vp_in (x3 + 2) L) (h3 : vp_in (x3 + 3) L) (hN : ∀ σ1 μ1, R σ1 μ1 → GL X l G am kc ks 1621 [(0, .ref b), (1, .ref (G.2.1 0)), (2, .ref (am 0)), (3, .int x3)] [] σ1 μ1) : GL X l G am kc ks 842 [(0, .ref b), (1, .ref (G.2.1 0)), (2, .ref (am 0)), (3, .int x3)] [] σ μ := by
  obtain ⟨r, σ1, μ1, e1, e2, hR1⟩ := hst σ μ (xs (x3 + 1).toNatClampNeg) (xs (x3 + 2).toNatClampNeg) (xs (x3 + 3).toNatClampNeg) hR
  refine gl_aload_n O dL_law_842 rfl 1 rfl ?_
  refine gl_aload_n O dL_law_843 rfl 0 rfl ?_
  refine gl_iload_n O dL_law_844 rfl 3 rfl ?_
  refine gl_iconst (v := 1) O dL_law_845 (by decide) ?_
  refine gl_iadd O dL_law_846 ?_
  refine gl_sld O h1 dL_law_847 ?_
  refine gl_aload_n O dL_law_848 rfl 0 rfl ?_
  refine gl_iload_n O dL_law_849 rfl 3 rfl ?_
  refine gl_iconst (v := 2) O dL_law_850 (by decide) ?_
  refine gl_iadd O dL_law_851 ?_
  refine gl_sld O h2 dL_law_852 ?_
  refine gl_aload_n O dL_law_853 rfl 0 rfl ?_
  refine gl_iload_n O dL_law_854 rfl 3 rfl ?_
  refine gl_iconst (v := 3) O dL_law_855 (by decide) ?_
  refine gl_iadd O dL_law_856 ?_
  refine gl_sld O h3 dL_law_857 ?_
  refine gl_callCi (As := [.int (xs (x3 + 1).toNatClampNeg), .int (xs (x3 + 2).toNatClampNeg), .int (xs (x3 + 3).toNatClampNeg)]) (rest := []) O hkc (c_X8_talk l G (okC O) e1) (fun s args hts => cwV 3 hts gw_X8_talk rfl rfl rfl (by decide +kernel) ⟨Nat.le_of_ble_eq_true rfl, Nat.le_of_ble_eq_true rfl⟩) rfl rfl (Nat.le_of_ble_eq_true rfl) dL_law_858 ?_
  refine gl_aload_n O dL_law_861 rfl 2 rfl ?_
  refine gl_aload_n O dL_law_862 rfl 0 rfl ?_
  refine gl_iload_n O dL_law_863 rfl 3 rfl ?_
  refine gl_iconst (v := 1) O dL_law_864 (by decide) ?_
  refine gl_iadd O dL_law_865 ?_
  refine gl_sld O h1 dL_law_866 ?_
  refine gl_aload_n O dL_law_867 rfl 0 rfl ?_
  refine gl_iload_n O dL_law_868 rfl 3 rfl ?_
  refine gl_iconst (v := 2) O dL_law_869 (by decide) ?_
  refine gl_iadd O dL_law_870 ?_
  refine gl_sld O h2 dL_law_871 ?_
  refine gl_aload_n O dL_law_872 rfl 0 rfl ?_
  refine gl_iload_n O dL_law_873 rfl 3 rfl ?_
  refine gl_iconst (v := 3) O dL_law_874 (by decide) ?_
  refine gl_iadd O dL_law_875 ?_
  refine gl_sld O h3 dL_law_876 ?_
  refine gl_callMi (As := [.int (xs (x3 + 1).toNatClampNeg), .int (xs (x3 + 2).toNatClampNeg), .int (xs (x3 + 3).toNatClampNeg)]) (rest := [.int r]) O hkc (c_X9_talk l (gM G am) (okM O) e2) (fun s args hts => cwV 3 hts gw_X9_talk rfl rfl rfl (by decide +kernel) ⟨Nat.le_of_ble_eq_true rfl, Nat.le_of_ble_eq_true rfl⟩) rfl rfl (Nat.le_of_ble_eq_true rfl) dL_law_877 ?_
  refine gl_icmp_eq (tgt := 1621) O dL_law_880 (by decide) (fun _ => ?_) (fun h => absurd rfl h)
  exact hN _ _ hR1
set_option maxHeartbeats 4000000 in
set_option maxRecDepth 100000 in
theorem lc_19 {X : XT} {l : Launch} {G : Gp} {am : Nat → Nat} {kc ks b L : Nat} {xs : Nat → Int32} {σ μ : Sg} {R : Sg → Sg → Prop} {x3 : Int32} (O : OkL X G am b L xs) (hkc : kc ≤ 600000 ∧ ks ≤ 7302250) (hst : st_off R) (hR : R σ μ) (h1 : vp_in (x3 + 1) L) (hN : ∀ σ1 μ1, R σ1 μ1 → GL X l G am kc ks 1621 [(0, .ref b), (1, .ref (G.2.1 0)), (2, .ref (am 0)), (3, .int x3)] [] σ1 μ1) : GL X l G am kc ks 885 [(0, .ref b), (1, .ref (G.2.1 0)), (2, .ref (am 0)), (3, .int x3)] [] σ μ := by
  obtain ⟨r, σ1, μ1, e1, e2, hR1⟩ := hst σ μ (xs (x3 + 1).toNatClampNeg) hR
  refine gl_aload_n O dL_law_885 rfl 1 rfl ?_
  refine gl_aload_n O dL_law_886 rfl 0 rfl ?_
  refine gl_iload_n O dL_law_887 rfl 3 rfl ?_
  refine gl_iconst (v := 1) O dL_law_888 (by decide) ?_
  refine gl_iadd O dL_law_889 ?_
  refine gl_sld O h1 dL_law_890 ?_
  refine gl_callCi (As := [.int (xs (x3 + 1).toNatClampNeg)]) (rest := []) O hkc (c_X8_off l G (okC O) e1) (fun s args hts => cwV 1 hts gw_X8_off rfl rfl rfl (by decide +kernel) ⟨Nat.le_of_ble_eq_true rfl, Nat.le_of_ble_eq_true rfl⟩) rfl rfl (Nat.le_of_ble_eq_true rfl) dL_law_891 ?_
  refine gl_aload_n O dL_law_894 rfl 2 rfl ?_
  refine gl_aload_n O dL_law_895 rfl 0 rfl ?_
  refine gl_iload_n O dL_law_896 rfl 3 rfl ?_
  refine gl_iconst (v := 1) O dL_law_897 (by decide) ?_
  refine gl_iadd O dL_law_898 ?_
  refine gl_sld O h1 dL_law_899 ?_
  refine gl_callMi (As := [.int (xs (x3 + 1).toNatClampNeg)]) (rest := [.int r]) O hkc (c_X9_off l (gM G am) (okM O) e2) (fun s args hts => cwV 1 hts gw_X9_off rfl rfl rfl (by decide +kernel) ⟨Nat.le_of_ble_eq_true rfl, Nat.le_of_ble_eq_true rfl⟩) rfl rfl (Nat.le_of_ble_eq_true rfl) dL_law_900 ?_
  refine gl_icmp_eq (tgt := 1621) O dL_law_903 (by decide) (fun _ => ?_) (fun h => absurd rfl h)
  exact hN _ _ hR1
set_option maxHeartbeats 4000000 in
set_option maxRecDepth 100000 in
theorem lc_20 {X : XT} {l : Launch} {G : Gp} {am : Nat → Nat} {kc ks b L : Nat} {xs : Nat → Int32} {σ μ : Sg} {R : Sg → Sg → Prop} {x3 : Int32} (O : OkL X G am b L xs) (hkc : kc ≤ 600000 ∧ ks ≤ 7302250) (hst : st_about R) (hR : R σ μ) (h1 : vp_in (x3 + 1) L) (h2 : vp_in (x3 + 2) L) (hN : ∀ σ1 μ1, R σ1 μ1 → GL X l G am kc ks 1621 [(0, .ref b), (1, .ref (G.2.1 0)), (2, .ref (am 0)), (3, .int x3)] [] σ1 μ1) : GL X l G am kc ks 908 [(0, .ref b), (1, .ref (G.2.1 0)), (2, .ref (am 0)), (3, .int x3)] [] σ μ := by
  obtain ⟨r, σ1, μ1, e1, e2, hR1⟩ := hst σ μ (xs (x3 + 1).toNatClampNeg) (xs (x3 + 2).toNatClampNeg) hR
  refine gl_aload_n O dL_law_908 rfl 1 rfl ?_
  refine gl_aload_n O dL_law_909 rfl 0 rfl ?_
  refine gl_iload_n O dL_law_910 rfl 3 rfl ?_
  refine gl_iconst (v := 1) O dL_law_911 (by decide) ?_
  refine gl_iadd O dL_law_912 ?_
  refine gl_sld O h1 dL_law_913 ?_
  refine gl_aload_n O dL_law_914 rfl 0 rfl ?_
  refine gl_iload_n O dL_law_915 rfl 3 rfl ?_
  refine gl_iconst (v := 2) O dL_law_916 (by decide) ?_
  refine gl_iadd O dL_law_917 ?_
  refine gl_sld O h2 dL_law_918 ?_
  refine gl_callCi (As := [.int (xs (x3 + 1).toNatClampNeg), .int (xs (x3 + 2).toNatClampNeg)]) (rest := []) O hkc (c_X8_about l G (okC O) e1) (fun s args hts => cwV 2 hts gw_X8_about rfl rfl rfl (by decide +kernel) ⟨Nat.le_of_ble_eq_true rfl, Nat.le_of_ble_eq_true rfl⟩) rfl rfl (Nat.le_of_ble_eq_true rfl) dL_law_919 ?_
  refine gl_aload_n O dL_law_922 rfl 2 rfl ?_
  refine gl_aload_n O dL_law_923 rfl 0 rfl ?_
  refine gl_iload_n O dL_law_924 rfl 3 rfl ?_
  refine gl_iconst (v := 1) O dL_law_925 (by decide) ?_
  refine gl_iadd O dL_law_926 ?_
  refine gl_sld O h1 dL_law_927 ?_
  refine gl_aload_n O dL_law_928 rfl 0 rfl ?_
  refine gl_iload_n O dL_law_929 rfl 3 rfl ?_
  refine gl_iconst (v := 2) O dL_law_930 (by decide) ?_
  refine gl_iadd O dL_law_931 ?_
  refine gl_sld O h2 dL_law_932 ?_
  refine gl_callMi (As := [.int (xs (x3 + 1).toNatClampNeg), .int (xs (x3 + 2).toNatClampNeg)]) (rest := [.int r]) O hkc (c_X9_about l (gM G am) (okM O) e2) (fun s args hts => cwV 2 hts gw_X9_about rfl rfl rfl (by decide +kernel) ⟨Nat.le_of_ble_eq_true rfl, Nat.le_of_ble_eq_true rfl⟩) rfl rfl (Nat.le_of_ble_eq_true rfl) dL_law_933 ?_
  refine gl_icmp_eq (tgt := 1621) O dL_law_936 (by decide) (fun _ => ?_) (fun h => absurd rfl h)
  exact hN _ _ hR1
set_option maxHeartbeats 4000000 in
set_option maxRecDepth 100000 in
theorem lc_21 {X : XT} {l : Launch} {G : Gp} {am : Nat → Nat} {kc ks b L : Nat} {xs : Nat → Int32} {σ μ : Sg} {R : Sg → Sg → Prop} {x3 : Int32} (O : OkL X G am b L xs) (hkc : kc ≤ 600000 ∧ ks ≤ 7302250) (hst : st_safe R) (hR : R σ μ) (h1 : vp_in (x3 + 1) L) (h2 : vp_in (x3 + 2) L) (hN : ∀ σ1 μ1, R σ1 μ1 → GL X l G am kc ks 1621 [(0, .ref b), (1, .ref (G.2.1 0)), (2, .ref (am 0)), (3, .int x3)] [] σ1 μ1) : GL X l G am kc ks 941 [(0, .ref b), (1, .ref (G.2.1 0)), (2, .ref (am 0)), (3, .int x3)] [] σ μ := by
  obtain ⟨r, σ1, μ1, e1, e2, hR1⟩ := hst σ μ (xs (x3 + 1).toNatClampNeg) (xs (x3 + 2).toNatClampNeg) hR
  refine gl_aload_n O dL_law_941 rfl 1 rfl ?_
  refine gl_aload_n O dL_law_942 rfl 0 rfl ?_
  refine gl_iload_n O dL_law_943 rfl 3 rfl ?_
  refine gl_iconst (v := 1) O dL_law_944 (by decide) ?_
  refine gl_iadd O dL_law_945 ?_
  refine gl_sld O h1 dL_law_946 ?_
  refine gl_aload_n O dL_law_947 rfl 0 rfl ?_
  refine gl_iload_n O dL_law_948 rfl 3 rfl ?_
  refine gl_iconst (v := 2) O dL_law_949 (by decide) ?_
  refine gl_iadd O dL_law_950 ?_
  refine gl_sld O h2 dL_law_951 ?_
  refine gl_callCi (As := [.int (xs (x3 + 1).toNatClampNeg), .int (xs (x3 + 2).toNatClampNeg)]) (rest := []) O hkc (c_X8_safe l G (okC O) e1) (fun s args hts => cwV 2 hts gw_X8_safe rfl rfl rfl (by decide +kernel) ⟨Nat.le_of_ble_eq_true rfl, Nat.le_of_ble_eq_true rfl⟩) rfl rfl (Nat.le_of_ble_eq_true rfl) dL_law_952 ?_
  refine gl_aload_n O dL_law_955 rfl 2 rfl ?_
  refine gl_aload_n O dL_law_956 rfl 0 rfl ?_
  refine gl_iload_n O dL_law_957 rfl 3 rfl ?_
  refine gl_iconst (v := 1) O dL_law_958 (by decide) ?_
  refine gl_iadd O dL_law_959 ?_
  refine gl_sld O h1 dL_law_960 ?_
  refine gl_aload_n O dL_law_961 rfl 0 rfl ?_
  refine gl_iload_n O dL_law_962 rfl 3 rfl ?_
  refine gl_iconst (v := 2) O dL_law_963 (by decide) ?_
  refine gl_iadd O dL_law_964 ?_
  refine gl_sld O h2 dL_law_965 ?_
  refine gl_callMi (As := [.int (xs (x3 + 1).toNatClampNeg), .int (xs (x3 + 2).toNatClampNeg)]) (rest := [.int r]) O hkc (c_X9_safe l (gM G am) (okM O) e2) (fun s args hts => cwV 2 hts gw_X9_safe rfl rfl rfl (by decide +kernel) ⟨Nat.le_of_ble_eq_true rfl, Nat.le_of_ble_eq_true rfl⟩) rfl rfl (Nat.le_of_ble_eq_true rfl) dL_law_966 ?_
  refine gl_icmp_eq (tgt := 1621) O dL_law_969 (by decide) (fun _ => ?_) (fun h => absurd rfl h)
  exact hN _ _ hR1
set_option maxHeartbeats 4000000 in
set_option maxRecDepth 100000 in
theorem lc_22 {X : XT} {l : Launch} {G : Gp} {am : Nat → Nat} {kc ks b L : Nat} {xs : Nat → Int32} {σ μ : Sg} {R : Sg → Sg → Prop} {x3 : Int32} (O : OkL X G am b L xs) (hkc : kc ≤ 600000 ∧ ks ≤ 7302250) (hst : st_cover R) (hR : R σ μ) (h1 : vp_in (x3 + 1) L) (hN : ∀ σ1 μ1, R σ1 μ1 → GL X l G am kc ks 1621 [(0, .ref b), (1, .ref (G.2.1 0)), (2, .ref (am 0)), (3, .int x3)] [] σ1 μ1) : GL X l G am kc ks 974 [(0, .ref b), (1, .ref (G.2.1 0)), (2, .ref (am 0)), (3, .int x3)] [] σ μ := by
  obtain ⟨r, σ1, μ1, e1, e2, hR1⟩ := hst σ μ (xs (x3 + 1).toNatClampNeg) hR
  refine gl_aload_n O dL_law_974 rfl 1 rfl ?_
  refine gl_aload_n O dL_law_975 rfl 0 rfl ?_
  refine gl_iload_n O dL_law_976 rfl 3 rfl ?_
  refine gl_iconst (v := 1) O dL_law_977 (by decide) ?_
  refine gl_iadd O dL_law_978 ?_
  refine gl_sld O h1 dL_law_979 ?_
  refine gl_callCi (As := [.int (xs (x3 + 1).toNatClampNeg)]) (rest := []) O hkc (c_X8_cover l G (okC O) e1) (fun s args hts => cwV 1 hts gw_X8_cover rfl rfl rfl (by decide +kernel) ⟨Nat.le_of_ble_eq_true rfl, Nat.le_of_ble_eq_true rfl⟩) rfl rfl (Nat.le_of_ble_eq_true rfl) dL_law_980 ?_
  refine gl_aload_n O dL_law_983 rfl 2 rfl ?_
  refine gl_aload_n O dL_law_984 rfl 0 rfl ?_
  refine gl_iload_n O dL_law_985 rfl 3 rfl ?_
  refine gl_iconst (v := 1) O dL_law_986 (by decide) ?_
  refine gl_iadd O dL_law_987 ?_
  refine gl_sld O h1 dL_law_988 ?_
  refine gl_callMi (As := [.int (xs (x3 + 1).toNatClampNeg)]) (rest := [.int r]) O hkc (c_X9_cover l (gM G am) (okM O) e2) (fun s args hts => cwV 1 hts gw_X9_cover rfl rfl rfl (by decide +kernel) ⟨Nat.le_of_ble_eq_true rfl, Nat.le_of_ble_eq_true rfl⟩) rfl rfl (Nat.le_of_ble_eq_true rfl) dL_law_989 ?_
  refine gl_icmp_eq (tgt := 1621) O dL_law_992 (by decide) (fun _ => ?_) (fun h => absurd rfl h)
  exact hN _ _ hR1
set_option maxHeartbeats 4000000 in
set_option maxRecDepth 100000 in
theorem lc_23 {X : XT} {l : Launch} {G : Gp} {am : Nat → Nat} {kc ks b L : Nat} {xs : Nat → Int32} {σ μ : Sg} {R : Sg → Sg → Prop} {x3 : Int32} (O : OkL X G am b L xs) (hkc : kc ≤ 600000 ∧ ks ≤ 7302250) (hst : st_beside R) (hR : R σ μ) (h1 : vp_in (x3 + 1) L) (hN : ∀ σ1 μ1, R σ1 μ1 → GL X l G am kc ks 1621 [(0, .ref b), (1, .ref (G.2.1 0)), (2, .ref (am 0)), (3, .int x3)] [] σ1 μ1) : GL X l G am kc ks 997 [(0, .ref b), (1, .ref (G.2.1 0)), (2, .ref (am 0)), (3, .int x3)] [] σ μ := by
  obtain ⟨r, e1, e2⟩ := hst σ μ (xs (x3 + 1).toNatClampNeg) hR
  refine gl_aload_n O dL_law_997 rfl 1 rfl ?_
  refine gl_aload_n O dL_law_998 rfl 0 rfl ?_
  refine gl_iload_n O dL_law_999 rfl 3 rfl ?_
  refine gl_iconst (v := 1) O dL_law_1000 (by decide) ?_
  refine gl_iadd O dL_law_1001 ?_
  refine gl_sld O h1 dL_law_1002 ?_
  refine gl_callCi (As := [.int (xs (x3 + 1).toNatClampNeg)]) (rest := []) O hkc (c_X8_beside l G (okC O) e1) (fun s args hts => cwV 1 hts gw_X8_beside rfl rfl rfl (by decide +kernel) ⟨Nat.le_of_ble_eq_true rfl, Nat.le_of_ble_eq_true rfl⟩) rfl rfl (Nat.le_of_ble_eq_true rfl) dL_law_1003 ?_
  refine gl_aload_n O dL_law_1006 rfl 2 rfl ?_
  refine gl_aload_n O dL_law_1007 rfl 0 rfl ?_
  refine gl_iload_n O dL_law_1008 rfl 3 rfl ?_
  refine gl_iconst (v := 1) O dL_law_1009 (by decide) ?_
  refine gl_iadd O dL_law_1010 ?_
  refine gl_sld O h1 dL_law_1011 ?_
  refine gl_callMi (As := [.int (xs (x3 + 1).toNatClampNeg)]) (rest := [.int r]) O hkc (c_X9_beside l (gM G am) (okM O) e2) (fun s args hts => cwV 1 hts gw_X9_beside rfl rfl rfl (by decide +kernel) ⟨Nat.le_of_ble_eq_true rfl, Nat.le_of_ble_eq_true rfl⟩) rfl rfl (Nat.le_of_ble_eq_true rfl) dL_law_1012 ?_
  refine gl_icmp_eq (tgt := 1621) O dL_law_1015 (by decide) (fun _ => ?_) (fun h => absurd rfl h)
  exact hN _ _ hR
set_option maxHeartbeats 4000000 in
set_option maxRecDepth 100000 in
theorem lc_24 {X : XT} {l : Launch} {G : Gp} {am : Nat → Nat} {kc ks b L : Nat} {xs : Nat → Int32} {σ μ : Sg} {R : Sg → Sg → Prop} {x3 : Int32} (O : OkL X G am b L xs) (hkc : kc ≤ 600000 ∧ ks ≤ 7302250) (hst : st_turns R) (hR : R σ μ) (hN : ∀ σ1 μ1, R σ1 μ1 → GL X l G am kc ks 1621 [(0, .ref b), (1, .ref (G.2.1 0)), (2, .ref (am 0)), (3, .int x3)] [] σ1 μ1) : GL X l G am kc ks 1020 [(0, .ref b), (1, .ref (G.2.1 0)), (2, .ref (am 0)), (3, .int x3)] [] σ μ := by
  obtain ⟨r, σ1, μ1, e1, e2, hR1⟩ := hst σ μ  hR
  refine gl_aload_n O dL_law_1020 rfl 1 rfl ?_
  refine gl_callCi (As := []) (rest := []) O hkc (c_X8_turns l G (okC O) e1) (fun s args hts => cwV 0 hts gw_X8_turns rfl rfl rfl (by decide +kernel) ⟨Nat.le_of_ble_eq_true rfl, Nat.le_of_ble_eq_true rfl⟩) rfl rfl (Nat.le_of_ble_eq_true rfl) dL_law_1021 ?_
  refine gl_aload_n O dL_law_1024 rfl 2 rfl ?_
  refine gl_callMi (As := []) (rest := [.int r]) O hkc (c_X9_turns l (gM G am) (okM O) e2) (fun s args hts => cwV 0 hts gw_X9_turns rfl rfl rfl (by decide +kernel) ⟨Nat.le_of_ble_eq_true rfl, Nat.le_of_ble_eq_true rfl⟩) rfl rfl (Nat.le_of_ble_eq_true rfl) dL_law_1025 ?_
  refine gl_icmp_eq (tgt := 1621) O dL_law_1028 (by decide) (fun _ => ?_) (fun h => absurd rfl h)
  exact hN _ _ hR1
set_option maxHeartbeats 4000000 in
set_option maxRecDepth 100000 in
theorem lc_25 {X : XT} {l : Launch} {G : Gp} {am : Nat → Nat} {kc ks b L : Nat} {xs : Nat → Int32} {σ μ : Sg} {R : Sg → Sg → Prop} {x3 : Int32} (O : OkL X G am b L xs) (hkc : kc ≤ 600000 ∧ ks ≤ 7302250) (hst : st_most R) (hR : R σ μ) (hN : ∀ σ1 μ1, R σ1 μ1 → GL X l G am kc ks 1621 [(0, .ref b), (1, .ref (G.2.1 0)), (2, .ref (am 0)), (3, .int x3)] [] σ1 μ1) : GL X l G am kc ks 1033 [(0, .ref b), (1, .ref (G.2.1 0)), (2, .ref (am 0)), (3, .int x3)] [] σ μ := by
  obtain ⟨r, σ1, μ1, e1, e2, hR1⟩ := hst σ μ  hR
  refine gl_aload_n O dL_law_1033 rfl 1 rfl ?_
  refine gl_callCi (As := []) (rest := []) O hkc (c_X8_most l G (okC O) e1) (fun s args hts => cwV 0 hts gw_X8_most rfl rfl rfl (by decide +kernel) ⟨Nat.le_of_ble_eq_true rfl, Nat.le_of_ble_eq_true rfl⟩) rfl rfl (Nat.le_of_ble_eq_true rfl) dL_law_1034 ?_
  refine gl_aload_n O dL_law_1037 rfl 2 rfl ?_
  refine gl_callMi (As := []) (rest := [.int r]) O hkc (c_X9_most l (gM G am) (okM O) e2) (fun s args hts => cwV 0 hts gw_X9_most rfl rfl rfl (by decide +kernel) ⟨Nat.le_of_ble_eq_true rfl, Nat.le_of_ble_eq_true rfl⟩) rfl rfl (Nat.le_of_ble_eq_true rfl) dL_law_1038 ?_
  refine gl_icmp_eq (tgt := 1621) O dL_law_1041 (by decide) (fun _ => ?_) (fun h => absurd rfl h)
  exact hN _ _ hR1
set_option maxHeartbeats 4000000 in
set_option maxRecDepth 100000 in
theorem lc_26 {X : XT} {l : Launch} {G : Gp} {am : Nat → Nat} {kc ks b L : Nat} {xs : Nat → Int32} {σ μ : Sg} {R : Sg → Sg → Prop} {x3 : Int32} (O : OkL X G am b L xs) (hkc : kc ≤ 600000 ∧ ks ≤ 7302250) (hst : st_safes R) (hR : R σ μ) (hN : ∀ σ1 μ1, R σ1 μ1 → GL X l G am kc ks 1621 [(0, .ref b), (1, .ref (G.2.1 0)), (2, .ref (am 0)), (3, .int x3)] [] σ1 μ1) : GL X l G am kc ks 1046 [(0, .ref b), (1, .ref (G.2.1 0)), (2, .ref (am 0)), (3, .int x3)] [] σ μ := by
  obtain ⟨r, σ1, μ1, e1, e2, hR1⟩ := hst σ μ  hR
  refine gl_aload_n O dL_law_1046 rfl 1 rfl ?_
  refine gl_callCi (As := []) (rest := []) O hkc (c_X8_safes l G (okC O) e1) (fun s args hts => cwV 0 hts gw_X8_safes rfl rfl rfl (by decide +kernel) ⟨Nat.le_of_ble_eq_true rfl, Nat.le_of_ble_eq_true rfl⟩) rfl rfl (Nat.le_of_ble_eq_true rfl) dL_law_1047 ?_
  refine gl_aload_n O dL_law_1050 rfl 2 rfl ?_
  refine gl_callMi (As := []) (rest := [.int r]) O hkc (c_X9_safes l (gM G am) (okM O) e2) (fun s args hts => cwV 0 hts gw_X9_safes rfl rfl rfl (by decide +kernel) ⟨Nat.le_of_ble_eq_true rfl, Nat.le_of_ble_eq_true rfl⟩) rfl rfl (Nat.le_of_ble_eq_true rfl) dL_law_1051 ?_
  refine gl_icmp_eq (tgt := 1621) O dL_law_1054 (by decide) (fun _ => ?_) (fun h => absurd rfl h)
  exact hN _ _ hR1
set_option maxHeartbeats 4000000 in
set_option maxRecDepth 100000 in
theorem lc_27 {X : XT} {l : Launch} {G : Gp} {am : Nat → Nat} {kc ks b L : Nat} {xs : Nat → Int32} {σ μ : Sg} {R : Sg → Sg → Prop} {x3 : Int32} (O : OkL X G am b L xs) (hkc : kc ≤ 600000 ∧ ks ≤ 7302250) (hst : st_rooms R) (hR : R σ μ) (h1 : vp_in (x3 + 1) L) (hN : ∀ σ1 μ1, R σ1 μ1 → GL X l G am kc ks 1621 [(0, .ref b), (1, .ref (G.2.1 0)), (2, .ref (am 0)), (3, .int x3)] [] σ1 μ1) : GL X l G am kc ks 1059 [(0, .ref b), (1, .ref (G.2.1 0)), (2, .ref (am 0)), (3, .int x3)] [] σ μ := by
  obtain ⟨r, σ1, μ1, e1, e2, hR1⟩ := hst σ μ (xs (x3 + 1).toNatClampNeg) hR
  refine gl_aload_n O dL_law_1059 rfl 1 rfl ?_
  refine gl_aload_n O dL_law_1060 rfl 0 rfl ?_
  refine gl_iload_n O dL_law_1061 rfl 3 rfl ?_
  refine gl_iconst (v := 1) O dL_law_1062 (by decide) ?_
  refine gl_iadd O dL_law_1063 ?_
  refine gl_sld O h1 dL_law_1064 ?_
  refine gl_callCi (As := [.int (xs (x3 + 1).toNatClampNeg)]) (rest := []) O hkc (c_X8_rooms l G (okC O) e1) (fun s args hts => cwV 1 hts gw_X8_rooms rfl rfl rfl (by decide +kernel) ⟨Nat.le_of_ble_eq_true rfl, Nat.le_of_ble_eq_true rfl⟩) rfl rfl (Nat.le_of_ble_eq_true rfl) dL_law_1065 ?_
  refine gl_aload_n O dL_law_1068 rfl 2 rfl ?_
  refine gl_aload_n O dL_law_1069 rfl 0 rfl ?_
  refine gl_iload_n O dL_law_1070 rfl 3 rfl ?_
  refine gl_iconst (v := 1) O dL_law_1071 (by decide) ?_
  refine gl_iadd O dL_law_1072 ?_
  refine gl_sld O h1 dL_law_1073 ?_
  refine gl_callMi (As := [.int (xs (x3 + 1).toNatClampNeg)]) (rest := [.int r]) O hkc (c_X9_rooms l (gM G am) (okM O) e2) (fun s args hts => cwV 1 hts gw_X9_rooms rfl rfl rfl (by decide +kernel) ⟨Nat.le_of_ble_eq_true rfl, Nat.le_of_ble_eq_true rfl⟩) rfl rfl (Nat.le_of_ble_eq_true rfl) dL_law_1074 ?_
  refine gl_icmp_eq (tgt := 1621) O dL_law_1077 (by decide) (fun _ => ?_) (fun h => absurd rfl h)
  exact hN _ _ hR1
set_option maxHeartbeats 4000000 in
set_option maxRecDepth 100000 in
theorem lc_28 {X : XT} {l : Launch} {G : Gp} {am : Nat → Nat} {kc ks b L : Nat} {xs : Nat → Int32} {σ μ : Sg} {R : Sg → Sg → Prop} {x3 : Int32} (O : OkL X G am b L xs) (hkc : kc ≤ 600000 ∧ ks ≤ 7302250) (hst : st_swap R) (hR : R σ μ) (hN : ∀ σ1 μ1, R σ1 μ1 → GL X l G am kc ks 1621 [(0, .ref b), (1, .ref (G.2.1 0)), (2, .ref (am 0)), (3, .int x3)] [] σ1 μ1) : GL X l G am kc ks 1082 [(0, .ref b), (1, .ref (G.2.1 0)), (2, .ref (am 0)), (3, .int x3)] [] σ μ := by
  obtain ⟨r, σ1, μ1, e1, e2, hR1⟩ := hst σ μ  hR
  refine gl_aload_n O dL_law_1082 rfl 1 rfl ?_
  refine gl_callCi (As := []) (rest := []) O hkc (c_X8_swap l G (okC O) e1) (fun s args hts => cwV 0 hts gw_X8_swap rfl rfl rfl (by decide +kernel) ⟨Nat.le_of_ble_eq_true rfl, Nat.le_of_ble_eq_true rfl⟩) rfl rfl (Nat.le_of_ble_eq_true rfl) dL_law_1083 ?_
  refine gl_aload_n O dL_law_1086 rfl 2 rfl ?_
  refine gl_callMi (As := []) (rest := [.int r]) O hkc (c_X9_swap l (gM G am) (okM O) e2) (fun s args hts => cwV 0 hts gw_X9_swap rfl rfl rfl (by decide +kernel) ⟨Nat.le_of_ble_eq_true rfl, Nat.le_of_ble_eq_true rfl⟩) rfl rfl (Nat.le_of_ble_eq_true rfl) dL_law_1087 ?_
  refine gl_icmp_eq (tgt := 1621) O dL_law_1090 (by decide) (fun _ => ?_) (fun h => absurd rfl h)
  exact hN _ _ hR1
set_option maxHeartbeats 4000000 in
set_option maxRecDepth 100000 in
theorem lc_29 {X : XT} {l : Launch} {G : Gp} {am : Nat → Nat} {kc ks b L : Nat} {xs : Nat → Int32} {σ μ : Sg} {R : Sg → Sg → Prop} {x3 : Int32} (O : OkL X G am b L xs) (hkc : kc ≤ 600000 ∧ ks ≤ 7302250) (hst : st_paste R) (hR : R σ μ) (h1 : vp_in (x3 + 1) L) (h2 : vp_in (x3 + 2) L) (hN : ∀ σ1 μ1, R σ1 μ1 → GL X l G am kc ks 1621 [(0, .ref b), (1, .ref (G.2.1 0)), (2, .ref (am 0)), (3, .int x3)] [] σ1 μ1) : GL X l G am kc ks 1095 [(0, .ref b), (1, .ref (G.2.1 0)), (2, .ref (am 0)), (3, .int x3)] [] σ μ := by
  obtain ⟨r, σ1, μ1, e1, e2, hR1⟩ := hst σ μ (xs (x3 + 1).toNatClampNeg) (xs (x3 + 2).toNatClampNeg) hR
  refine gl_aload_n O dL_law_1095 rfl 1 rfl ?_
  refine gl_aload_n O dL_law_1096 rfl 0 rfl ?_
  refine gl_iload_n O dL_law_1097 rfl 3 rfl ?_
  refine gl_iconst (v := 1) O dL_law_1098 (by decide) ?_
  refine gl_iadd O dL_law_1099 ?_
  refine gl_sld O h1 dL_law_1100 ?_
  refine gl_aload_n O dL_law_1101 rfl 0 rfl ?_
  refine gl_iload_n O dL_law_1102 rfl 3 rfl ?_
  refine gl_iconst (v := 2) O dL_law_1103 (by decide) ?_
  refine gl_iadd O dL_law_1104 ?_
  refine gl_sld O h2 dL_law_1105 ?_
  refine gl_callCi (As := [.int (xs (x3 + 1).toNatClampNeg), .int (xs (x3 + 2).toNatClampNeg)]) (rest := []) O hkc (c_X8_paste l G (okC O) e1) (fun s args hts => cwV 2 hts gw_X8_paste rfl rfl rfl (by decide +kernel) ⟨Nat.le_of_ble_eq_true rfl, Nat.le_of_ble_eq_true rfl⟩) rfl rfl (Nat.le_of_ble_eq_true rfl) dL_law_1106 ?_
  refine gl_aload_n O dL_law_1109 rfl 2 rfl ?_
  refine gl_aload_n O dL_law_1110 rfl 0 rfl ?_
  refine gl_iload_n O dL_law_1111 rfl 3 rfl ?_
  refine gl_iconst (v := 1) O dL_law_1112 (by decide) ?_
  refine gl_iadd O dL_law_1113 ?_
  refine gl_sld O h1 dL_law_1114 ?_
  refine gl_aload_n O dL_law_1115 rfl 0 rfl ?_
  refine gl_iload_n O dL_law_1116 rfl 3 rfl ?_
  refine gl_iconst (v := 2) O dL_law_1117 (by decide) ?_
  refine gl_iadd O dL_law_1118 ?_
  refine gl_sld O h2 dL_law_1119 ?_
  refine gl_callMi (As := [.int (xs (x3 + 1).toNatClampNeg), .int (xs (x3 + 2).toNatClampNeg)]) (rest := [.int r]) O hkc (c_X9_paste l (gM G am) (okM O) e2) (fun s args hts => cwV 2 hts gw_X9_paste rfl rfl rfl (by decide +kernel) ⟨Nat.le_of_ble_eq_true rfl, Nat.le_of_ble_eq_true rfl⟩) rfl rfl (Nat.le_of_ble_eq_true rfl) dL_law_1120 ?_
  refine gl_icmp_eq (tgt := 1621) O dL_law_1123 (by decide) (fun _ => ?_) (fun h => absurd rfl h)
  exact hN _ _ hR1
set_option maxHeartbeats 4000000 in
set_option maxRecDepth 100000 in
theorem lc_30 {X : XT} {l : Launch} {G : Gp} {am : Nat → Nat} {kc ks b L : Nat} {xs : Nat → Int32} {σ μ : Sg} {R : Sg → Sg → Prop} {x3 : Int32} (O : OkL X G am b L xs) (hkc : kc ≤ 600000 ∧ ks ≤ 7302250) (hst : st_tearOff R) (hR : R σ μ) (h1 : vp_in (x3 + 1) L) (h2 : vp_in (x3 + 2) L) (hN : ∀ σ1 μ1, R σ1 μ1 → GL X l G am kc ks 1621 [(0, .ref b), (1, .ref (G.2.1 0)), (2, .ref (am 0)), (3, .int x3)] [] σ1 μ1) : GL X l G am kc ks 1128 [(0, .ref b), (1, .ref (G.2.1 0)), (2, .ref (am 0)), (3, .int x3)] [] σ μ := by
  obtain ⟨r, σ1, μ1, e1, e2, hR1⟩ := hst σ μ (xs (x3 + 1).toNatClampNeg) (xs (x3 + 2).toNatClampNeg) hR
  refine gl_aload_n O dL_law_1128 rfl 1 rfl ?_
  refine gl_aload_n O dL_law_1129 rfl 0 rfl ?_
  refine gl_iload_n O dL_law_1130 rfl 3 rfl ?_
  refine gl_iconst (v := 1) O dL_law_1131 (by decide) ?_
  refine gl_iadd O dL_law_1132 ?_
  refine gl_sld O h1 dL_law_1133 ?_
  refine gl_aload_n O dL_law_1134 rfl 0 rfl ?_
  refine gl_iload_n O dL_law_1135 rfl 3 rfl ?_
  refine gl_iconst (v := 2) O dL_law_1136 (by decide) ?_
  refine gl_iadd O dL_law_1137 ?_
  refine gl_sld O h2 dL_law_1138 ?_
  refine gl_callCi (As := [.int (xs (x3 + 1).toNatClampNeg), .int (xs (x3 + 2).toNatClampNeg)]) (rest := []) O hkc (c_X8_tearOff l G (okC O) e1) (fun s args hts => cwV 2 hts gw_X8_tearOff rfl rfl rfl (by decide +kernel) ⟨Nat.le_of_ble_eq_true rfl, Nat.le_of_ble_eq_true rfl⟩) rfl rfl (Nat.le_of_ble_eq_true rfl) dL_law_1139 ?_
  refine gl_aload_n O dL_law_1142 rfl 2 rfl ?_
  refine gl_aload_n O dL_law_1143 rfl 0 rfl ?_
  refine gl_iload_n O dL_law_1144 rfl 3 rfl ?_
  refine gl_iconst (v := 1) O dL_law_1145 (by decide) ?_
  refine gl_iadd O dL_law_1146 ?_
  refine gl_sld O h1 dL_law_1147 ?_
  refine gl_aload_n O dL_law_1148 rfl 0 rfl ?_
  refine gl_iload_n O dL_law_1149 rfl 3 rfl ?_
  refine gl_iconst (v := 2) O dL_law_1150 (by decide) ?_
  refine gl_iadd O dL_law_1151 ?_
  refine gl_sld O h2 dL_law_1152 ?_
  refine gl_callMi (As := [.int (xs (x3 + 1).toNatClampNeg), .int (xs (x3 + 2).toNatClampNeg)]) (rest := [.int r]) O hkc (c_X9_tearOff l (gM G am) (okM O) e2) (fun s args hts => cwV 2 hts gw_X9_tearOff rfl rfl rfl (by decide +kernel) ⟨Nat.le_of_ble_eq_true rfl, Nat.le_of_ble_eq_true rfl⟩) rfl rfl (Nat.le_of_ble_eq_true rfl) dL_law_1153 ?_
  refine gl_icmp_eq (tgt := 1621) O dL_law_1156 (by decide) (fun _ => ?_) (fun h => absurd rfl h)
  exact hN _ _ hR1
set_option maxHeartbeats 4000000 in
set_option maxRecDepth 100000 in
theorem lc_31 {X : XT} {l : Launch} {G : Gp} {am : Nat → Nat} {kc ks b L : Nat} {xs : Nat → Int32} {σ μ : Sg} {R : Sg → Sg → Prop} {x3 : Int32} (O : OkL X G am b L xs) (hkc : kc ≤ 600000 ∧ ks ≤ 7302250) (hst : st_rent R) (hR : R σ μ) (h1 : vp_in (x3 + 1) L) (hN : ∀ σ1 μ1, R σ1 μ1 → GL X l G am kc ks 1621 [(0, .ref b), (1, .ref (G.2.1 0)), (2, .ref (am 0)), (3, .int x3)] [] σ1 μ1) : GL X l G am kc ks 1161 [(0, .ref b), (1, .ref (G.2.1 0)), (2, .ref (am 0)), (3, .int x3)] [] σ μ := by
  obtain ⟨r, e1, e2⟩ := hst σ μ (xs (x3 + 1).toNatClampNeg) hR
  refine gl_aload_n O dL_law_1161 rfl 1 rfl ?_
  refine gl_aload_n O dL_law_1162 rfl 0 rfl ?_
  refine gl_iload_n O dL_law_1163 rfl 3 rfl ?_
  refine gl_iconst (v := 1) O dL_law_1164 (by decide) ?_
  refine gl_iadd O dL_law_1165 ?_
  refine gl_sld O h1 dL_law_1166 ?_
  refine gl_callCi (As := [.int (xs (x3 + 1).toNatClampNeg)]) (rest := []) O hkc (c_X8_rent l G (okC O) e1) (fun s args hts => cwV 1 hts gw_X8_rent rfl rfl rfl (by decide +kernel) ⟨Nat.le_of_ble_eq_true rfl, Nat.le_of_ble_eq_true rfl⟩) rfl rfl (Nat.le_of_ble_eq_true rfl) dL_law_1167 ?_
  refine gl_aload_n O dL_law_1170 rfl 2 rfl ?_
  refine gl_aload_n O dL_law_1171 rfl 0 rfl ?_
  refine gl_iload_n O dL_law_1172 rfl 3 rfl ?_
  refine gl_iconst (v := 1) O dL_law_1173 (by decide) ?_
  refine gl_iadd O dL_law_1174 ?_
  refine gl_sld O h1 dL_law_1175 ?_
  refine gl_callMi (As := [.int (xs (x3 + 1).toNatClampNeg)]) (rest := [.int r]) O hkc (c_X9_rent l (gM G am) (okM O) e2) (fun s args hts => cwV 1 hts gw_X9_rent rfl rfl rfl (by decide +kernel) ⟨Nat.le_of_ble_eq_true rfl, Nat.le_of_ble_eq_true rfl⟩) rfl rfl (Nat.le_of_ble_eq_true rfl) dL_law_1176 ?_
  refine gl_icmp_eq (tgt := 1621) O dL_law_1179 (by decide) (fun _ => ?_) (fun h => absurd rfl h)
  exact hN _ _ hR
set_option maxHeartbeats 4000000 in
set_option maxRecDepth 100000 in
theorem lc_32 {X : XT} {l : Launch} {G : Gp} {am : Nat → Nat} {kc ks b L : Nat} {xs : Nat → Int32} {σ μ : Sg} {R : Sg → Sg → Prop} {x3 : Int32} (O : OkL X G am b L xs) (hkc : kc ≤ 600000 ∧ ks ≤ 7302250) (hst : st_comes R) (hR : R σ μ) (h1 : vp_in (x3 + 1) L) (h2 : vp_in (x3 + 2) L) (hN : ∀ σ1 μ1, R σ1 μ1 → GL X l G am kc ks 1621 [(0, .ref b), (1, .ref (G.2.1 0)), (2, .ref (am 0)), (3, .int x3)] [] σ1 μ1) : GL X l G am kc ks 1184 [(0, .ref b), (1, .ref (G.2.1 0)), (2, .ref (am 0)), (3, .int x3)] [] σ μ := by
  obtain ⟨r, σ1, μ1, e1, e2, hR1⟩ := hst σ μ (xs (x3 + 1).toNatClampNeg) (xs (x3 + 2).toNatClampNeg) hR
  refine gl_aload_n O dL_law_1184 rfl 1 rfl ?_
  refine gl_aload_n O dL_law_1185 rfl 0 rfl ?_
  refine gl_iload_n O dL_law_1186 rfl 3 rfl ?_
  refine gl_iconst (v := 1) O dL_law_1187 (by decide) ?_
  refine gl_iadd O dL_law_1188 ?_
  refine gl_sld O h1 dL_law_1189 ?_
  refine gl_aload_n O dL_law_1190 rfl 0 rfl ?_
  refine gl_iload_n O dL_law_1191 rfl 3 rfl ?_
  refine gl_iconst (v := 2) O dL_law_1192 (by decide) ?_
  refine gl_iadd O dL_law_1193 ?_
  refine gl_sld O h2 dL_law_1194 ?_
  refine gl_callCi (As := [.int (xs (x3 + 1).toNatClampNeg), .int (xs (x3 + 2).toNatClampNeg)]) (rest := []) O hkc (c_X8_comes l G (okC O) e1) (fun s args hts => cwV 2 hts gw_X8_comes rfl rfl rfl (by decide +kernel) ⟨Nat.le_of_ble_eq_true rfl, Nat.le_of_ble_eq_true rfl⟩) rfl rfl (Nat.le_of_ble_eq_true rfl) dL_law_1195 ?_
  refine gl_aload_n O dL_law_1198 rfl 2 rfl ?_
  refine gl_aload_n O dL_law_1199 rfl 0 rfl ?_
  refine gl_iload_n O dL_law_1200 rfl 3 rfl ?_
  refine gl_iconst (v := 1) O dL_law_1201 (by decide) ?_
  refine gl_iadd O dL_law_1202 ?_
  refine gl_sld O h1 dL_law_1203 ?_
  refine gl_aload_n O dL_law_1204 rfl 0 rfl ?_
  refine gl_iload_n O dL_law_1205 rfl 3 rfl ?_
  refine gl_iconst (v := 2) O dL_law_1206 (by decide) ?_
  refine gl_iadd O dL_law_1207 ?_
  refine gl_sld O h2 dL_law_1208 ?_
  refine gl_callMi (As := [.int (xs (x3 + 1).toNatClampNeg), .int (xs (x3 + 2).toNatClampNeg)]) (rest := [.int r]) O hkc (c_X9_comes l (gM G am) (okM O) e2) (fun s args hts => cwV 2 hts gw_X9_comes rfl rfl rfl (by decide +kernel) ⟨Nat.le_of_ble_eq_true rfl, Nat.le_of_ble_eq_true rfl⟩) rfl rfl (Nat.le_of_ble_eq_true rfl) dL_law_1209 ?_
  refine gl_icmp_eq (tgt := 1621) O dL_law_1212 (by decide) (fun _ => ?_) (fun h => absurd rfl h)
  exact hN _ _ hR1
set_option maxHeartbeats 4000000 in
set_option maxRecDepth 100000 in
theorem lc_33 {X : XT} {l : Launch} {G : Gp} {am : Nat → Nat} {kc ks b L : Nat} {xs : Nat → Int32} {σ μ : Sg} {R : Sg → Sg → Prop} {x3 : Int32} (O : OkL X G am b L xs) (hkc : kc ≤ 600000 ∧ ks ≤ 7302250) (hst : st_tell R) (hR : R σ μ) (h1 : vp_in (x3 + 1) L) (h2 : vp_in (x3 + 2) L) (hN : ∀ σ1 μ1, R σ1 μ1 → GL X l G am kc ks 1621 [(0, .ref b), (1, .ref (G.2.1 0)), (2, .ref (am 0)), (3, .int x3)] [] σ1 μ1) : GL X l G am kc ks 1217 [(0, .ref b), (1, .ref (G.2.1 0)), (2, .ref (am 0)), (3, .int x3)] [] σ μ := by
  obtain ⟨r, σ1, μ1, e1, e2, hR1⟩ := hst σ μ (xs (x3 + 1).toNatClampNeg) (xs (x3 + 2).toNatClampNeg) hR
  refine gl_aload_n O dL_law_1217 rfl 1 rfl ?_
  refine gl_aload_n O dL_law_1218 rfl 0 rfl ?_
  refine gl_iload_n O dL_law_1219 rfl 3 rfl ?_
  refine gl_iconst (v := 1) O dL_law_1220 (by decide) ?_
  refine gl_iadd O dL_law_1221 ?_
  refine gl_sld O h1 dL_law_1222 ?_
  refine gl_aload_n O dL_law_1223 rfl 0 rfl ?_
  refine gl_iload_n O dL_law_1224 rfl 3 rfl ?_
  refine gl_iconst (v := 2) O dL_law_1225 (by decide) ?_
  refine gl_iadd O dL_law_1226 ?_
  refine gl_sld O h2 dL_law_1227 ?_
  refine gl_callCi (As := [.int (xs (x3 + 1).toNatClampNeg), .int (xs (x3 + 2).toNatClampNeg)]) (rest := []) O hkc (c_X8_tell l G (okC O) e1) (fun s args hts => cwV 2 hts gw_X8_tell rfl rfl rfl (by decide +kernel) ⟨Nat.le_of_ble_eq_true rfl, Nat.le_of_ble_eq_true rfl⟩) rfl rfl (Nat.le_of_ble_eq_true rfl) dL_law_1228 ?_
  refine gl_aload_n O dL_law_1231 rfl 2 rfl ?_
  refine gl_aload_n O dL_law_1232 rfl 0 rfl ?_
  refine gl_iload_n O dL_law_1233 rfl 3 rfl ?_
  refine gl_iconst (v := 1) O dL_law_1234 (by decide) ?_
  refine gl_iadd O dL_law_1235 ?_
  refine gl_sld O h1 dL_law_1236 ?_
  refine gl_aload_n O dL_law_1237 rfl 0 rfl ?_
  refine gl_iload_n O dL_law_1238 rfl 3 rfl ?_
  refine gl_iconst (v := 2) O dL_law_1239 (by decide) ?_
  refine gl_iadd O dL_law_1240 ?_
  refine gl_sld O h2 dL_law_1241 ?_
  refine gl_callMi (As := [.int (xs (x3 + 1).toNatClampNeg), .int (xs (x3 + 2).toNatClampNeg)]) (rest := [.int r]) O hkc (c_X9_tell l (gM G am) (okM O) e2) (fun s args hts => cwV 2 hts gw_X9_tell rfl rfl rfl (by decide +kernel) ⟨Nat.le_of_ble_eq_true rfl, Nat.le_of_ble_eq_true rfl⟩) rfl rfl (Nat.le_of_ble_eq_true rfl) dL_law_1242 ?_
  refine gl_icmp_eq (tgt := 1621) O dL_law_1245 (by decide) (fun _ => ?_) (fun h => absurd rfl h)
  exact hN _ _ hR1
set_option maxHeartbeats 4000000 in
set_option maxRecDepth 100000 in
theorem lc_34 {X : XT} {l : Launch} {G : Gp} {am : Nat → Nat} {kc ks b L : Nat} {xs : Nat → Int32} {σ μ : Sg} {R : Sg → Sg → Prop} {x3 : Int32} (O : OkL X G am b L xs) (hkc : kc ≤ 600000 ∧ ks ≤ 7302250) (hst : st_undo R) (hR : R σ μ) (h1 : vp_in (x3 + 1) L) (hN : ∀ σ1 μ1, R σ1 μ1 → GL X l G am kc ks 1621 [(0, .ref b), (1, .ref (G.2.1 0)), (2, .ref (am 0)), (3, .int x3)] [] σ1 μ1) : GL X l G am kc ks 1250 [(0, .ref b), (1, .ref (G.2.1 0)), (2, .ref (am 0)), (3, .int x3)] [] σ μ := by
  obtain ⟨r, σ1, μ1, e1, e2, hR1⟩ := hst σ μ (xs (x3 + 1).toNatClampNeg) hR
  refine gl_aload_n O dL_law_1250 rfl 1 rfl ?_
  refine gl_aload_n O dL_law_1251 rfl 0 rfl ?_
  refine gl_iload_n O dL_law_1252 rfl 3 rfl ?_
  refine gl_iconst (v := 1) O dL_law_1253 (by decide) ?_
  refine gl_iadd O dL_law_1254 ?_
  refine gl_sld O h1 dL_law_1255 ?_
  refine gl_callCi (As := [.int (xs (x3 + 1).toNatClampNeg)]) (rest := []) O hkc (c_X8_undo l G (okC O) e1) (fun s args hts => cwV 1 hts gw_X8_undo rfl rfl rfl (by decide +kernel) ⟨Nat.le_of_ble_eq_true rfl, Nat.le_of_ble_eq_true rfl⟩) rfl rfl (Nat.le_of_ble_eq_true rfl) dL_law_1256 ?_
  refine gl_aload_n O dL_law_1259 rfl 2 rfl ?_
  refine gl_aload_n O dL_law_1260 rfl 0 rfl ?_
  refine gl_iload_n O dL_law_1261 rfl 3 rfl ?_
  refine gl_iconst (v := 1) O dL_law_1262 (by decide) ?_
  refine gl_iadd O dL_law_1263 ?_
  refine gl_sld O h1 dL_law_1264 ?_
  refine gl_callMi (As := [.int (xs (x3 + 1).toNatClampNeg)]) (rest := [.int r]) O hkc (c_X9_undo l (gM G am) (okM O) e2) (fun s args hts => cwV 1 hts gw_X9_undo rfl rfl rfl (by decide +kernel) ⟨Nat.le_of_ble_eq_true rfl, Nat.le_of_ble_eq_true rfl⟩) rfl rfl (Nat.le_of_ble_eq_true rfl) dL_law_1265 ?_
  refine gl_icmp_eq (tgt := 1621) O dL_law_1268 (by decide) (fun _ => ?_) (fun h => absurd rfl h)
  exact hN _ _ hR1
set_option maxHeartbeats 4000000 in
set_option maxRecDepth 100000 in
theorem lc_35 {X : XT} {l : Launch} {G : Gp} {am : Nat → Nat} {kc ks b L : Nat} {xs : Nat → Int32} {σ μ : Sg} {R : Sg → Sg → Prop} {x3 : Int32} (O : OkL X G am b L xs) (hkc : kc ≤ 600000 ∧ ks ≤ 7302250) (hst : st_know R) (hR : R σ μ) (h1 : vp_in (x3 + 1) L) (hN : ∀ σ1 μ1, R σ1 μ1 → GL X l G am kc ks 1621 [(0, .ref b), (1, .ref (G.2.1 0)), (2, .ref (am 0)), (3, .int x3)] [] σ1 μ1) : GL X l G am kc ks 1273 [(0, .ref b), (1, .ref (G.2.1 0)), (2, .ref (am 0)), (3, .int x3)] [] σ μ := by
  obtain ⟨r, e1, e2⟩ := hst σ μ (xs (x3 + 1).toNatClampNeg) hR
  refine gl_aload_n O dL_law_1273 rfl 1 rfl ?_
  refine gl_aload_n O dL_law_1274 rfl 0 rfl ?_
  refine gl_iload_n O dL_law_1275 rfl 3 rfl ?_
  refine gl_iconst (v := 1) O dL_law_1276 (by decide) ?_
  refine gl_iadd O dL_law_1277 ?_
  refine gl_sld O h1 dL_law_1278 ?_
  refine gl_callCi (As := [.int (xs (x3 + 1).toNatClampNeg)]) (rest := []) O hkc (c_X8_know l G (okC O) e1) (fun s args hts => cwV 1 hts gw_X8_know rfl rfl rfl (by decide +kernel) ⟨Nat.le_of_ble_eq_true rfl, Nat.le_of_ble_eq_true rfl⟩) rfl rfl (Nat.le_of_ble_eq_true rfl) dL_law_1279 ?_
  refine gl_aload_n O dL_law_1282 rfl 2 rfl ?_
  refine gl_aload_n O dL_law_1283 rfl 0 rfl ?_
  refine gl_iload_n O dL_law_1284 rfl 3 rfl ?_
  refine gl_iconst (v := 1) O dL_law_1285 (by decide) ?_
  refine gl_iadd O dL_law_1286 ?_
  refine gl_sld O h1 dL_law_1287 ?_
  refine gl_callMi (As := [.int (xs (x3 + 1).toNatClampNeg)]) (rest := [.int r]) O hkc (c_X9_know l (gM G am) (okM O) e2) (fun s args hts => cwV 1 hts gw_X9_know rfl rfl rfl (by decide +kernel) ⟨Nat.le_of_ble_eq_true rfl, Nat.le_of_ble_eq_true rfl⟩) rfl rfl (Nat.le_of_ble_eq_true rfl) dL_law_1288 ?_
  refine gl_icmp_eq (tgt := 1621) O dL_law_1291 (by decide) (fun _ => ?_) (fun h => absurd rfl h)
  exact hN _ _ hR
set_option maxHeartbeats 4000000 in
set_option maxRecDepth 100000 in
theorem lc_36 {X : XT} {l : Launch} {G : Gp} {am : Nat → Nat} {kc ks b L : Nat} {xs : Nat → Int32} {σ μ : Sg} {R : Sg → Sg → Prop} {x3 : Int32} (O : OkL X G am b L xs) (hkc : kc ≤ 600000 ∧ ks ≤ 7302250) (hst : st_knowsThat R) (hR : R σ μ) (h1 : vp_in (x3 + 1) L) (h2 : vp_in (x3 + 2) L) (h3 : vp_in (x3 + 3) L) (hN : ∀ σ1 μ1, R σ1 μ1 → GL X l G am kc ks 1621 [(0, .ref b), (1, .ref (G.2.1 0)), (2, .ref (am 0)), (3, .int x3)] [] σ1 μ1) : GL X l G am kc ks 1296 [(0, .ref b), (1, .ref (G.2.1 0)), (2, .ref (am 0)), (3, .int x3)] [] σ μ := by
  obtain ⟨r, e1, e2⟩ := hst σ μ (xs (x3 + 1).toNatClampNeg) (xs (x3 + 2).toNatClampNeg) (xs (x3 + 3).toNatClampNeg) hR
  refine gl_aload_n O dL_law_1296 rfl 1 rfl ?_
  refine gl_aload_n O dL_law_1297 rfl 0 rfl ?_
  refine gl_iload_n O dL_law_1298 rfl 3 rfl ?_
  refine gl_iconst (v := 1) O dL_law_1299 (by decide) ?_
  refine gl_iadd O dL_law_1300 ?_
  refine gl_sld O h1 dL_law_1301 ?_
  refine gl_aload_n O dL_law_1302 rfl 0 rfl ?_
  refine gl_iload_n O dL_law_1303 rfl 3 rfl ?_
  refine gl_iconst (v := 2) O dL_law_1304 (by decide) ?_
  refine gl_iadd O dL_law_1305 ?_
  refine gl_sld O h2 dL_law_1306 ?_
  refine gl_aload_n O dL_law_1307 rfl 0 rfl ?_
  refine gl_iload_n O dL_law_1308 rfl 3 rfl ?_
  refine gl_iconst (v := 3) O dL_law_1309 (by decide) ?_
  refine gl_iadd O dL_law_1310 ?_
  refine gl_sld O h3 dL_law_1311 ?_
  refine gl_callCi (As := [.int (xs (x3 + 1).toNatClampNeg), .int (xs (x3 + 2).toNatClampNeg), .int (xs (x3 + 3).toNatClampNeg)]) (rest := []) O hkc (c_X8_knowsThat l G (okC O) e1) (fun s args hts => cwV 3 hts gw_X8_knowsThat rfl rfl rfl (by decide +kernel) ⟨Nat.le_of_ble_eq_true rfl, Nat.le_of_ble_eq_true rfl⟩) rfl rfl (Nat.le_of_ble_eq_true rfl) dL_law_1312 ?_
  refine gl_aload_n O dL_law_1315 rfl 2 rfl ?_
  refine gl_aload_n O dL_law_1316 rfl 0 rfl ?_
  refine gl_iload_n O dL_law_1317 rfl 3 rfl ?_
  refine gl_iconst (v := 1) O dL_law_1318 (by decide) ?_
  refine gl_iadd O dL_law_1319 ?_
  refine gl_sld O h1 dL_law_1320 ?_
  refine gl_aload_n O dL_law_1321 rfl 0 rfl ?_
  refine gl_iload_n O dL_law_1322 rfl 3 rfl ?_
  refine gl_iconst (v := 2) O dL_law_1323 (by decide) ?_
  refine gl_iadd O dL_law_1324 ?_
  refine gl_sld O h2 dL_law_1325 ?_
  refine gl_aload_n O dL_law_1326 rfl 0 rfl ?_
  refine gl_iload_n O dL_law_1327 rfl 3 rfl ?_
  refine gl_iconst (v := 3) O dL_law_1328 (by decide) ?_
  refine gl_iadd O dL_law_1329 ?_
  refine gl_sld O h3 dL_law_1330 ?_
  refine gl_callMi (As := [.int (xs (x3 + 1).toNatClampNeg), .int (xs (x3 + 2).toNatClampNeg), .int (xs (x3 + 3).toNatClampNeg)]) (rest := [.int r]) O hkc (c_X9_knowsThat l (gM G am) (okM O) e2) (fun s args hts => cwV 3 hts gw_X9_knowsThat rfl rfl rfl (by decide +kernel) ⟨Nat.le_of_ble_eq_true rfl, Nat.le_of_ble_eq_true rfl⟩) rfl rfl (Nat.le_of_ble_eq_true rfl) dL_law_1331 ?_
  refine gl_icmp_eq (tgt := 1621) O dL_law_1334 (by decide) (fun _ => ?_) (fun h => absurd rfl h)
  exact hN _ _ hR
set_option maxHeartbeats 4000000 in
set_option maxRecDepth 100000 in
theorem lc_37 {X : XT} {l : Launch} {G : Gp} {am : Nat → Nat} {kc ks b L : Nat} {xs : Nat → Int32} {σ μ : Sg} {R : Sg → Sg → Prop} {x3 : Int32} (O : OkL X G am b L xs) (hkc : kc ≤ 600000 ∧ ks ≤ 7302250) (hst : st_spread R) (hR : R σ μ) (h1 : vp_in (x3 + 1) L) (h2 : vp_in (x3 + 2) L) (hN : ∀ σ1 μ1, R σ1 μ1 → GL X l G am kc ks 1621 [(0, .ref b), (1, .ref (G.2.1 0)), (2, .ref (am 0)), (3, .int x3)] [] σ1 μ1) : GL X l G am kc ks 1339 [(0, .ref b), (1, .ref (G.2.1 0)), (2, .ref (am 0)), (3, .int x3)] [] σ μ := by
  obtain ⟨r, e1, e2⟩ := hst σ μ (xs (x3 + 1).toNatClampNeg) (xs (x3 + 2).toNatClampNeg) hR
  refine gl_aload_n O dL_law_1339 rfl 1 rfl ?_
  refine gl_aload_n O dL_law_1340 rfl 0 rfl ?_
  refine gl_iload_n O dL_law_1341 rfl 3 rfl ?_
  refine gl_iconst (v := 1) O dL_law_1342 (by decide) ?_
  refine gl_iadd O dL_law_1343 ?_
  refine gl_sld O h1 dL_law_1344 ?_
  refine gl_aload_n O dL_law_1345 rfl 0 rfl ?_
  refine gl_iload_n O dL_law_1346 rfl 3 rfl ?_
  refine gl_iconst (v := 2) O dL_law_1347 (by decide) ?_
  refine gl_iadd O dL_law_1348 ?_
  refine gl_sld O h2 dL_law_1349 ?_
  refine gl_callCi (As := [.int (xs (x3 + 1).toNatClampNeg), .int (xs (x3 + 2).toNatClampNeg)]) (rest := []) O hkc (c_X8_spread l G (okC O) e1) (fun s args hts => cwV 2 hts gw_X8_spread rfl rfl rfl (by decide +kernel) ⟨Nat.le_of_ble_eq_true rfl, Nat.le_of_ble_eq_true rfl⟩) rfl rfl (Nat.le_of_ble_eq_true rfl) dL_law_1350 ?_
  refine gl_aload_n O dL_law_1353 rfl 2 rfl ?_
  refine gl_aload_n O dL_law_1354 rfl 0 rfl ?_
  refine gl_iload_n O dL_law_1355 rfl 3 rfl ?_
  refine gl_iconst (v := 1) O dL_law_1356 (by decide) ?_
  refine gl_iadd O dL_law_1357 ?_
  refine gl_sld O h1 dL_law_1358 ?_
  refine gl_aload_n O dL_law_1359 rfl 0 rfl ?_
  refine gl_iload_n O dL_law_1360 rfl 3 rfl ?_
  refine gl_iconst (v := 2) O dL_law_1361 (by decide) ?_
  refine gl_iadd O dL_law_1362 ?_
  refine gl_sld O h2 dL_law_1363 ?_
  refine gl_callMi (As := [.int (xs (x3 + 1).toNatClampNeg), .int (xs (x3 + 2).toNatClampNeg)]) (rest := [.int r]) O hkc (c_X9_spread l (gM G am) (okM O) e2) (fun s args hts => cwV 2 hts gw_X9_spread rfl rfl rfl (by decide +kernel) ⟨Nat.le_of_ble_eq_true rfl, Nat.le_of_ble_eq_true rfl⟩) rfl rfl (Nat.le_of_ble_eq_true rfl) dL_law_1364 ?_
  refine gl_icmp_eq (tgt := 1621) O dL_law_1367 (by decide) (fun _ => ?_) (fun h => absurd rfl h)
  exact hN _ _ hR
set_option maxHeartbeats 4000000 in
set_option maxRecDepth 100000 in
theorem lc_38 {X : XT} {l : Launch} {G : Gp} {am : Nat → Nat} {kc ks b L : Nat} {xs : Nat → Int32} {σ μ : Sg} {R : Sg → Sg → Prop} {x3 : Int32} (O : OkL X G am b L xs) (hkc : kc ≤ 600000 ∧ ks ≤ 7302250) (hst : st_leak R) (hR : R σ μ) (h1 : vp_in (x3 + 1) L) (hN : ∀ σ1 μ1, R σ1 μ1 → GL X l G am kc ks 1621 [(0, .ref b), (1, .ref (G.2.1 0)), (2, .ref (am 0)), (3, .int x3)] [] σ1 μ1) : GL X l G am kc ks 1372 [(0, .ref b), (1, .ref (G.2.1 0)), (2, .ref (am 0)), (3, .int x3)] [] σ μ := by
  obtain ⟨r, e1, e2⟩ := hst σ μ (xs (x3 + 1).toNatClampNeg) hR
  refine gl_aload_n O dL_law_1372 rfl 1 rfl ?_
  refine gl_aload_n O dL_law_1373 rfl 0 rfl ?_
  refine gl_iload_n O dL_law_1374 rfl 3 rfl ?_
  refine gl_iconst (v := 1) O dL_law_1375 (by decide) ?_
  refine gl_iadd O dL_law_1376 ?_
  refine gl_sld O h1 dL_law_1377 ?_
  refine gl_callCi (As := [.int (xs (x3 + 1).toNatClampNeg)]) (rest := []) O hkc (c_X8_leak l G (okC O) e1) (fun s args hts => cwV 1 hts gw_X8_leak rfl rfl rfl (by decide +kernel) ⟨Nat.le_of_ble_eq_true rfl, Nat.le_of_ble_eq_true rfl⟩) rfl rfl (Nat.le_of_ble_eq_true rfl) dL_law_1378 ?_
  refine gl_aload_n O dL_law_1381 rfl 2 rfl ?_
  refine gl_aload_n O dL_law_1382 rfl 0 rfl ?_
  refine gl_iload_n O dL_law_1383 rfl 3 rfl ?_
  refine gl_iconst (v := 1) O dL_law_1384 (by decide) ?_
  refine gl_iadd O dL_law_1385 ?_
  refine gl_sld O h1 dL_law_1386 ?_
  refine gl_callMi (As := [.int (xs (x3 + 1).toNatClampNeg)]) (rest := [.int r]) O hkc (c_X9_leak l (gM G am) (okM O) e2) (fun s args hts => cwV 1 hts gw_X9_leak rfl rfl rfl (by decide +kernel) ⟨Nat.le_of_ble_eq_true rfl, Nat.le_of_ble_eq_true rfl⟩) rfl rfl (Nat.le_of_ble_eq_true rfl) dL_law_1387 ?_
  refine gl_icmp_eq (tgt := 1621) O dL_law_1390 (by decide) (fun _ => ?_) (fun h => absurd rfl h)
  exact hN _ _ hR
set_option maxHeartbeats 4000000 in
set_option maxRecDepth 100000 in
theorem lc_39 {X : XT} {l : Launch} {G : Gp} {am : Nat → Nat} {kc ks b L : Nat} {xs : Nat → Int32} {σ μ : Sg} {R : Sg → Sg → Prop} {x3 : Int32} (O : OkL X G am b L xs) (hkc : kc ≤ 600000 ∧ ks ≤ 7302250) (hst : st_leaks R) (hR : R σ μ) (h1 : vp_in (x3 + 1) L) (hN : ∀ σ1 μ1, R σ1 μ1 → GL X l G am kc ks 1621 [(0, .ref b), (1, .ref (G.2.1 0)), (2, .ref (am 0)), (3, .int x3)] [] σ1 μ1) : GL X l G am kc ks 1395 [(0, .ref b), (1, .ref (G.2.1 0)), (2, .ref (am 0)), (3, .int x3)] [] σ μ := by
  obtain ⟨r, e1, e2⟩ := hst σ μ (xs (x3 + 1).toNatClampNeg) hR
  refine gl_aload_n O dL_law_1395 rfl 1 rfl ?_
  refine gl_aload_n O dL_law_1396 rfl 0 rfl ?_
  refine gl_iload_n O dL_law_1397 rfl 3 rfl ?_
  refine gl_iconst (v := 1) O dL_law_1398 (by decide) ?_
  refine gl_iadd O dL_law_1399 ?_
  refine gl_sld O h1 dL_law_1400 ?_
  refine gl_callCi (As := [.int (xs (x3 + 1).toNatClampNeg)]) (rest := []) O hkc (c_X8_leaks l G (okC O) e1) (fun s args hts => cwV 1 hts gw_X8_leaks rfl rfl rfl (by decide +kernel) ⟨Nat.le_of_ble_eq_true rfl, Nat.le_of_ble_eq_true rfl⟩) rfl rfl (Nat.le_of_ble_eq_true rfl) dL_law_1401 ?_
  refine gl_aload_n O dL_law_1404 rfl 2 rfl ?_
  refine gl_aload_n O dL_law_1405 rfl 0 rfl ?_
  refine gl_iload_n O dL_law_1406 rfl 3 rfl ?_
  refine gl_iconst (v := 1) O dL_law_1407 (by decide) ?_
  refine gl_iadd O dL_law_1408 ?_
  refine gl_sld O h1 dL_law_1409 ?_
  refine gl_callMi (As := [.int (xs (x3 + 1).toNatClampNeg)]) (rest := [.int r]) O hkc (c_X9_leaks l (gM G am) (okM O) e2) (fun s args hts => cwV 1 hts gw_X9_leaks rfl rfl rfl (by decide +kernel) ⟨Nat.le_of_ble_eq_true rfl, Nat.le_of_ble_eq_true rfl⟩) rfl rfl (Nat.le_of_ble_eq_true rfl) dL_law_1410 ?_
  refine gl_icmp_eq (tgt := 1621) O dL_law_1413 (by decide) (fun _ => ?_) (fun h => absurd rfl h)
  exact hN _ _ hR
set_option maxHeartbeats 4000000 in
set_option maxRecDepth 100000 in
theorem lc_40 {X : XT} {l : Launch} {G : Gp} {am : Nat → Nat} {kc ks b L : Nat} {xs : Nat → Int32} {σ μ : Sg} {R : Sg → Sg → Prop} {x3 : Int32} (O : OkL X G am b L xs) (hkc : kc ≤ 600000 ∧ ks ≤ 7302250) (hst : st_keep R) (hR : R σ μ) (h1 : vp_in (x3 + 1) L) (hN : ∀ σ1 μ1, R σ1 μ1 → GL X l G am kc ks 1621 [(0, .ref b), (1, .ref (G.2.1 0)), (2, .ref (am 0)), (3, .int x3)] [] σ1 μ1) : GL X l G am kc ks 1418 [(0, .ref b), (1, .ref (G.2.1 0)), (2, .ref (am 0)), (3, .int x3)] [] σ μ := by
  obtain ⟨r, σ1, μ1, e1, e2, hR1⟩ := hst σ μ (xs (x3 + 1).toNatClampNeg) hR
  refine gl_aload_n O dL_law_1418 rfl 1 rfl ?_
  refine gl_aload_n O dL_law_1419 rfl 0 rfl ?_
  refine gl_iload_n O dL_law_1420 rfl 3 rfl ?_
  refine gl_iconst (v := 1) O dL_law_1421 (by decide) ?_
  refine gl_iadd O dL_law_1422 ?_
  refine gl_sld O h1 dL_law_1423 ?_
  refine gl_callCi (As := [.int (xs (x3 + 1).toNatClampNeg)]) (rest := []) O hkc (c_X8_keep l G (okC O) e1) (fun s args hts => cwV 1 hts gw_X8_keep rfl rfl rfl (by decide +kernel) ⟨Nat.le_of_ble_eq_true rfl, Nat.le_of_ble_eq_true rfl⟩) rfl rfl (Nat.le_of_ble_eq_true rfl) dL_law_1424 ?_
  refine gl_aload_n O dL_law_1427 rfl 2 rfl ?_
  refine gl_aload_n O dL_law_1428 rfl 0 rfl ?_
  refine gl_iload_n O dL_law_1429 rfl 3 rfl ?_
  refine gl_iconst (v := 1) O dL_law_1430 (by decide) ?_
  refine gl_iadd O dL_law_1431 ?_
  refine gl_sld O h1 dL_law_1432 ?_
  refine gl_callMi (As := [.int (xs (x3 + 1).toNatClampNeg)]) (rest := [.int r]) O hkc (c_X9_keep l (gM G am) (okM O) e2) (fun s args hts => cwV 1 hts gw_X9_keep rfl rfl rfl (by decide +kernel) ⟨Nat.le_of_ble_eq_true rfl, Nat.le_of_ble_eq_true rfl⟩) rfl rfl (Nat.le_of_ble_eq_true rfl) dL_law_1433 ?_
  refine gl_icmp_eq (tgt := 1621) O dL_law_1436 (by decide) (fun _ => ?_) (fun h => absurd rfl h)
  exact hN _ _ hR1
set_option maxHeartbeats 4000000 in
set_option maxRecDepth 100000 in
theorem lc_41 {X : XT} {l : Launch} {G : Gp} {am : Nat → Nat} {kc ks b L : Nat} {xs : Nat → Int32} {σ μ : Sg} {R : Sg → Sg → Prop} {x3 : Int32} (O : OkL X G am b L xs) (hkc : kc ≤ 600000 ∧ ks ≤ 7302250) (hst : st_on R) (hR : R σ μ) (h1 : vp_in (x3 + 1) L) (hN : ∀ σ1 μ1, R σ1 μ1 → GL X l G am kc ks 1621 [(0, .ref b), (1, .ref (G.2.1 0)), (2, .ref (am 0)), (3, .int x3)] [] σ1 μ1) : GL X l G am kc ks 1441 [(0, .ref b), (1, .ref (G.2.1 0)), (2, .ref (am 0)), (3, .int x3)] [] σ μ := by
  obtain ⟨r, σ1, μ1, e1, e2, hR1⟩ := hst σ μ (xs (x3 + 1).toNatClampNeg) hR
  refine gl_aload_n O dL_law_1441 rfl 1 rfl ?_
  refine gl_aload_n O dL_law_1442 rfl 0 rfl ?_
  refine gl_iload_n O dL_law_1443 rfl 3 rfl ?_
  refine gl_iconst (v := 1) O dL_law_1444 (by decide) ?_
  refine gl_iadd O dL_law_1445 ?_
  refine gl_sld O h1 dL_law_1446 ?_
  refine gl_callCi (As := [.int (xs (x3 + 1).toNatClampNeg)]) (rest := []) O hkc (c_X8_on l G (okC O) e1) (fun s args hts => cwV 1 hts gw_X8_on rfl rfl rfl (by decide +kernel) ⟨Nat.le_of_ble_eq_true rfl, Nat.le_of_ble_eq_true rfl⟩) rfl rfl (Nat.le_of_ble_eq_true rfl) dL_law_1447 ?_
  refine gl_aload_n O dL_law_1450 rfl 2 rfl ?_
  refine gl_aload_n O dL_law_1451 rfl 0 rfl ?_
  refine gl_iload_n O dL_law_1452 rfl 3 rfl ?_
  refine gl_iconst (v := 1) O dL_law_1453 (by decide) ?_
  refine gl_iadd O dL_law_1454 ?_
  refine gl_sld O h1 dL_law_1455 ?_
  refine gl_callMi (As := [.int (xs (x3 + 1).toNatClampNeg)]) (rest := [.int r]) O hkc (c_X9_on l (gM G am) (okM O) e2) (fun s args hts => cwV 1 hts gw_X9_on rfl rfl rfl (by decide +kernel) ⟨Nat.le_of_ble_eq_true rfl, Nat.le_of_ble_eq_true rfl⟩) rfl rfl (Nat.le_of_ble_eq_true rfl) dL_law_1456 ?_
  refine gl_icmp_eq (tgt := 1621) O dL_law_1459 (by decide) (fun _ => ?_) (fun h => absurd rfl h)
  exact hN _ _ hR1
set_option maxHeartbeats 4000000 in
set_option maxRecDepth 100000 in
theorem lc_42 {X : XT} {l : Launch} {G : Gp} {am : Nat → Nat} {kc ks b L : Nat} {xs : Nat → Int32} {σ μ : Sg} {R : Sg → Sg → Prop} {x3 : Int32} (O : OkL X G am b L xs) (hkc : kc ≤ 600000 ∧ ks ≤ 7302250) (hst : st_nights R) (hR : R σ μ) (h1 : vp_in (x3 + 1) L) (h2 : vp_in (x3 + 2) L) (h3 : vp_in (x3 + 3) L) (hN : ∀ σ1 μ1, R σ1 μ1 → GL X l G am kc ks 1621 [(0, .ref b), (1, .ref (G.2.1 0)), (2, .ref (am 0)), (3, .int x3)] [] σ1 μ1) : GL X l G am kc ks 1464 [(0, .ref b), (1, .ref (G.2.1 0)), (2, .ref (am 0)), (3, .int x3)] [] σ μ := by
  obtain ⟨r, σ1, μ1, e1, e2, hR1⟩ := hst σ μ (xs (x3 + 1).toNatClampNeg) (xs (x3 + 2).toNatClampNeg) (xs (x3 + 3).toNatClampNeg) hR
  refine gl_aload_n O dL_law_1464 rfl 1 rfl ?_
  refine gl_aload_n O dL_law_1465 rfl 0 rfl ?_
  refine gl_iload_n O dL_law_1466 rfl 3 rfl ?_
  refine gl_iconst (v := 1) O dL_law_1467 (by decide) ?_
  refine gl_iadd O dL_law_1468 ?_
  refine gl_sld O h1 dL_law_1469 ?_
  refine gl_aload_n O dL_law_1470 rfl 0 rfl ?_
  refine gl_iload_n O dL_law_1471 rfl 3 rfl ?_
  refine gl_iconst (v := 2) O dL_law_1472 (by decide) ?_
  refine gl_iadd O dL_law_1473 ?_
  refine gl_sld O h2 dL_law_1474 ?_
  refine gl_aload_n O dL_law_1475 rfl 0 rfl ?_
  refine gl_iload_n O dL_law_1476 rfl 3 rfl ?_
  refine gl_iconst (v := 3) O dL_law_1477 (by decide) ?_
  refine gl_iadd O dL_law_1478 ?_
  refine gl_sld O h3 dL_law_1479 ?_
  refine gl_callCi (As := [.int (xs (x3 + 1).toNatClampNeg), .int (xs (x3 + 2).toNatClampNeg), .int (xs (x3 + 3).toNatClampNeg)]) (rest := []) O hkc (c_X8_nights l G (okC O) e1) (fun s args hts => cwV 3 hts gw_X8_nights rfl rfl rfl (by decide +kernel) ⟨Nat.le_of_ble_eq_true rfl, Nat.le_of_ble_eq_true rfl⟩) rfl rfl (Nat.le_of_ble_eq_true rfl) dL_law_1480 ?_
  refine gl_aload_n O dL_law_1483 rfl 2 rfl ?_
  refine gl_aload_n O dL_law_1484 rfl 0 rfl ?_
  refine gl_iload_n O dL_law_1485 rfl 3 rfl ?_
  refine gl_iconst (v := 1) O dL_law_1486 (by decide) ?_
  refine gl_iadd O dL_law_1487 ?_
  refine gl_sld O h1 dL_law_1488 ?_
  refine gl_aload_n O dL_law_1489 rfl 0 rfl ?_
  refine gl_iload_n O dL_law_1490 rfl 3 rfl ?_
  refine gl_iconst (v := 2) O dL_law_1491 (by decide) ?_
  refine gl_iadd O dL_law_1492 ?_
  refine gl_sld O h2 dL_law_1493 ?_
  refine gl_aload_n O dL_law_1494 rfl 0 rfl ?_
  refine gl_iload_n O dL_law_1495 rfl 3 rfl ?_
  refine gl_iconst (v := 3) O dL_law_1496 (by decide) ?_
  refine gl_iadd O dL_law_1497 ?_
  refine gl_sld O h3 dL_law_1498 ?_
  refine gl_callMi (As := [.int (xs (x3 + 1).toNatClampNeg), .int (xs (x3 + 2).toNatClampNeg), .int (xs (x3 + 3).toNatClampNeg)]) (rest := [.int r]) O hkc (c_X9_nights l (gM G am) (okM O) e2) (fun s args hts => cwV 3 hts gw_X9_nights rfl rfl rfl (by decide +kernel) ⟨Nat.le_of_ble_eq_true rfl, Nat.le_of_ble_eq_true rfl⟩) rfl rfl (Nat.le_of_ble_eq_true rfl) dL_law_1499 ?_
  refine gl_icmp_eq (tgt := 1621) O dL_law_1502 (by decide) (fun _ => ?_) (fun h => absurd rfl h)
  exact hN _ _ hR1
set_option maxHeartbeats 4000000 in
set_option maxRecDepth 100000 in
theorem lc_43 {X : XT} {l : Launch} {G : Gp} {am : Nat → Nat} {kc ks b L : Nat} {xs : Nat → Int32} {σ μ : Sg} {R : Sg → Sg → Prop} {x3 : Int32} (O : OkL X G am b L xs) (hkc : kc ≤ 600000 ∧ ks ≤ 7302250) (hst : st_asked R) (hR : R σ μ) (hN : ∀ σ1 μ1, R σ1 μ1 → GL X l G am kc ks 1621 [(0, .ref b), (1, .ref (G.2.1 0)), (2, .ref (am 0)), (3, .int x3)] [] σ1 μ1) : GL X l G am kc ks 1507 [(0, .ref b), (1, .ref (G.2.1 0)), (2, .ref (am 0)), (3, .int x3)] [] σ μ := by
  obtain ⟨r, e1, e2⟩ := hst σ μ  hR
  refine gl_aload_n O dL_law_1507 rfl 1 rfl ?_
  refine gl_callCi (As := []) (rest := []) O hkc (c_X8_asked l G (okC O) e1) (fun s args hts => cwV 0 hts gw_X8_asked rfl rfl rfl (by decide +kernel) ⟨Nat.le_of_ble_eq_true rfl, Nat.le_of_ble_eq_true rfl⟩) rfl rfl (Nat.le_of_ble_eq_true rfl) dL_law_1508 ?_
  refine gl_aload_n O dL_law_1511 rfl 2 rfl ?_
  refine gl_callMi (As := []) (rest := [.int r]) O hkc (c_X9_asked l (gM G am) (okM O) e2) (fun s args hts => cwV 0 hts gw_X9_asked rfl rfl rfl (by decide +kernel) ⟨Nat.le_of_ble_eq_true rfl, Nat.le_of_ble_eq_true rfl⟩) rfl rfl (Nat.le_of_ble_eq_true rfl) dL_law_1512 ?_
  refine gl_icmp_eq (tgt := 1621) O dL_law_1515 (by decide) (fun _ => ?_) (fun h => absurd rfl h)
  exact hN _ _ hR
set_option maxHeartbeats 4000000 in
set_option maxRecDepth 100000 in
theorem lc_44 {X : XT} {l : Launch} {G : Gp} {am : Nat → Nat} {kc ks b L : Nat} {xs : Nat → Int32} {σ μ : Sg} {R : Sg → Sg → Prop} {x3 : Int32} (O : OkL X G am b L xs) (hkc : kc ≤ 600000 ∧ ks ≤ 7302250) (hst : st_upper R) (hR : R σ μ) (hN : ∀ σ1 μ1, R σ1 μ1 → GL X l G am kc ks 1621 [(0, .ref b), (1, .ref (G.2.1 0)), (2, .ref (am 0)), (3, .int x3)] [] σ1 μ1) : GL X l G am kc ks 1520 [(0, .ref b), (1, .ref (G.2.1 0)), (2, .ref (am 0)), (3, .int x3)] [] σ μ := by
  obtain ⟨r, e1, e2⟩ := hst σ μ  hR
  refine gl_aload_n O dL_law_1520 rfl 1 rfl ?_
  refine gl_callCl (As := []) (rest := []) O hkc (c_X8_upper l G (okC O) e1) (fun s args hts => cwV 0 hts gw_X8_upper rfl rfl rfl (by decide +kernel) ⟨Nat.le_of_ble_eq_true rfl, Nat.le_of_ble_eq_true rfl⟩) rfl rfl (Nat.le_of_ble_eq_true rfl) dL_law_1521 ?_
  refine gl_aload_n O dL_law_1524 rfl 2 rfl ?_
  refine gl_callMl (As := []) (rest := [.long r]) O hkc (c_X9_upper l (gM G am) (okM O) e2) (fun s args hts => cwV 0 hts gw_X9_upper rfl rfl rfl (by decide +kernel) ⟨Nat.le_of_ble_eq_true rfl, Nat.le_of_ble_eq_true rfl⟩) rfl rfl (Nat.le_of_ble_eq_true rfl) dL_law_1525 ?_
  refine gl_lcmp O dL_law_1528 ?_
  refine gl_if_eq (tgt := 1621) O dL_law_1529 (by decide) (fun _ => ?_) (fun h => absurd (lg_self _) h)
  exact hN _ _ hR
set_option maxHeartbeats 4000000 in
set_option maxRecDepth 100000 in
theorem lc_45 {X : XT} {l : Launch} {G : Gp} {am : Nat → Nat} {kc ks b L : Nat} {xs : Nat → Int32} {σ μ : Sg} {R : Sg → Sg → Prop} {x3 : Int32} (O : OkL X G am b L xs) (hkc : kc ≤ 600000 ∧ ks ≤ 7302250) (hst : st_lower R) (hR : R σ μ) (hN : ∀ σ1 μ1, R σ1 μ1 → GL X l G am kc ks 1621 [(0, .ref b), (1, .ref (G.2.1 0)), (2, .ref (am 0)), (3, .int x3)] [] σ1 μ1) : GL X l G am kc ks 1534 [(0, .ref b), (1, .ref (G.2.1 0)), (2, .ref (am 0)), (3, .int x3)] [] σ μ := by
  obtain ⟨r, e1, e2⟩ := hst σ μ  hR
  refine gl_aload_n O dL_law_1534 rfl 1 rfl ?_
  refine gl_callCl (As := []) (rest := []) O hkc (c_X8_lower l G (okC O) e1) (fun s args hts => cwV 0 hts gw_X8_lower rfl rfl rfl (by decide +kernel) ⟨Nat.le_of_ble_eq_true rfl, Nat.le_of_ble_eq_true rfl⟩) rfl rfl (Nat.le_of_ble_eq_true rfl) dL_law_1535 ?_
  refine gl_aload_n O dL_law_1538 rfl 2 rfl ?_
  refine gl_callMl (As := []) (rest := [.long r]) O hkc (c_X9_lower l (gM G am) (okM O) e2) (fun s args hts => cwV 0 hts gw_X9_lower rfl rfl rfl (by decide +kernel) ⟨Nat.le_of_ble_eq_true rfl, Nat.le_of_ble_eq_true rfl⟩) rfl rfl (Nat.le_of_ble_eq_true rfl) dL_law_1539 ?_
  refine gl_lcmp O dL_law_1542 ?_
  refine gl_if_eq (tgt := 1621) O dL_law_1543 (by decide) (fun _ => ?_) (fun h => absurd (lg_self _) h)
  exact hN _ _ hR
set_option maxHeartbeats 4000000 in
set_option maxRecDepth 100000 in
theorem lc_46 {X : XT} {l : Launch} {G : Gp} {am : Nat → Nat} {kc ks b L : Nat} {xs : Nat → Int32} {σ μ : Sg} {R : Sg → Sg → Prop} {x3 : Int32} (O : OkL X G am b L xs) (hkc : kc ≤ 600000 ∧ ks ≤ 7302250) (hst : st_count R) (hR : R σ μ) (h1 : vp_in (x3 + 1) L) (hN : ∀ σ1 μ1, R σ1 μ1 → GL X l G am kc ks 1621 [(0, .ref b), (1, .ref (G.2.1 0)), (2, .ref (am 0)), (3, .int x3)] [] σ1 μ1) : GL X l G am kc ks 1548 [(0, .ref b), (1, .ref (G.2.1 0)), (2, .ref (am 0)), (3, .int x3)] [] σ μ := by
  obtain ⟨r, e1, e2⟩ := hst σ μ (xs (x3 + 1).toNatClampNeg) hR
  refine gl_aload_n O dL_law_1548 rfl 1 rfl ?_
  refine gl_aload_n O dL_law_1549 rfl 0 rfl ?_
  refine gl_iload_n O dL_law_1550 rfl 3 rfl ?_
  refine gl_iconst (v := 1) O dL_law_1551 (by decide) ?_
  refine gl_iadd O dL_law_1552 ?_
  refine gl_sld O h1 dL_law_1553 ?_
  refine gl_callCi (As := [.int (xs (x3 + 1).toNatClampNeg)]) (rest := []) O hkc (c_X8_count l G (okC O) e1) (fun s args hts => cwV 1 hts gw_X8_count rfl rfl rfl (by decide +kernel) ⟨Nat.le_of_ble_eq_true rfl, Nat.le_of_ble_eq_true rfl⟩) rfl rfl (Nat.le_of_ble_eq_true rfl) dL_law_1554 ?_
  refine gl_aload_n O dL_law_1557 rfl 2 rfl ?_
  refine gl_aload_n O dL_law_1558 rfl 0 rfl ?_
  refine gl_iload_n O dL_law_1559 rfl 3 rfl ?_
  refine gl_iconst (v := 1) O dL_law_1560 (by decide) ?_
  refine gl_iadd O dL_law_1561 ?_
  refine gl_sld O h1 dL_law_1562 ?_
  refine gl_callMi (As := [.int (xs (x3 + 1).toNatClampNeg)]) (rest := [.int r]) O hkc (c_X9_count l (gM G am) (okM O) e2) (fun s args hts => cwV 1 hts gw_X9_count rfl rfl rfl (by decide +kernel) ⟨Nat.le_of_ble_eq_true rfl, Nat.le_of_ble_eq_true rfl⟩) rfl rfl (Nat.le_of_ble_eq_true rfl) dL_law_1563 ?_
  refine gl_icmp_eq (tgt := 1621) O dL_law_1566 (by decide) (fun _ => ?_) (fun h => absurd rfl h)
  exact hN _ _ hR
set_option maxHeartbeats 4000000 in
set_option maxRecDepth 100000 in
theorem lc_47 {X : XT} {l : Launch} {G : Gp} {am : Nat → Nat} {kc ks b L : Nat} {xs : Nat → Int32} {σ μ : Sg} {R : Sg → Sg → Prop} {x3 : Int32} (O : OkL X G am b L xs) (hkc : kc ≤ 600000 ∧ ks ≤ 7302250) (hst : st_finding R) (hR : R σ μ) (hN : ∀ σ1 μ1, R σ1 μ1 → GL X l G am kc ks 1621 [(0, .ref b), (1, .ref (G.2.1 0)), (2, .ref (am 0)), (3, .int x3)] [] σ1 μ1) : GL X l G am kc ks 1571 [(0, .ref b), (1, .ref (G.2.1 0)), (2, .ref (am 0)), (3, .int x3)] [] σ μ := by
  obtain ⟨r, e1, e2⟩ := hst σ μ  hR
  refine gl_aload_n O dL_law_1571 rfl 1 rfl ?_
  refine gl_callCi (As := []) (rest := []) O hkc (c_X8_finding l G (okC O) e1) (fun s args hts => cwV 0 hts gw_X8_finding rfl rfl rfl (by decide +kernel) ⟨Nat.le_of_ble_eq_true rfl, Nat.le_of_ble_eq_true rfl⟩) rfl rfl (Nat.le_of_ble_eq_true rfl) dL_law_1572 ?_
  refine gl_aload_n O dL_law_1575 rfl 2 rfl ?_
  refine gl_callMi (As := []) (rest := [.int r]) O hkc (c_X9_finding l (gM G am) (okM O) e2) (fun s args hts => cwV 0 hts gw_X9_finding rfl rfl rfl (by decide +kernel) ⟨Nat.le_of_ble_eq_true rfl, Nat.le_of_ble_eq_true rfl⟩) rfl rfl (Nat.le_of_ble_eq_true rfl) dL_law_1576 ?_
  refine gl_icmp_eq (tgt := 1621) O dL_law_1579 (by decide) (fun _ => ?_) (fun h => absurd rfl h)
  exact hN _ _ hR
set_option maxHeartbeats 4000000 in
set_option maxRecDepth 100000 in
theorem lc_48 {X : XT} {l : Launch} {G : Gp} {am : Nat → Nat} {kc ks b L : Nat} {xs : Nat → Int32} {σ μ : Sg} {R : Sg → Sg → Prop} {x3 : Int32} (O : OkL X G am b L xs) (hkc : kc ≤ 600000 ∧ ks ≤ 7302250) (hst : st_findings R) (hR : R σ μ) (h1 : vp_in (x3 + 1) L) (hN : ∀ σ1 μ1, R σ1 μ1 → GL X l G am kc ks 1621 [(0, .ref b), (1, .ref (G.2.1 0)), (2, .ref (am 0)), (3, .int x3)] [] σ1 μ1) : GL X l G am kc ks 1584 [(0, .ref b), (1, .ref (G.2.1 0)), (2, .ref (am 0)), (3, .int x3)] [] σ μ := by
  obtain ⟨r, e1, e2⟩ := hst σ μ (xs (x3 + 1).toNatClampNeg) hR
  refine gl_aload_n O dL_law_1584 rfl 1 rfl ?_
  refine gl_aload_n O dL_law_1585 rfl 0 rfl ?_
  refine gl_iload_n O dL_law_1586 rfl 3 rfl ?_
  refine gl_iconst (v := 1) O dL_law_1587 (by decide) ?_
  refine gl_iadd O dL_law_1588 ?_
  refine gl_sld O h1 dL_law_1589 ?_
  refine gl_callCi (As := [.int (xs (x3 + 1).toNatClampNeg)]) (rest := []) O hkc (c_X8_findings l G (okC O) e1) (fun s args hts => cwV 1 hts gw_X8_findings rfl rfl rfl (by decide +kernel) ⟨Nat.le_of_ble_eq_true rfl, Nat.le_of_ble_eq_true rfl⟩) rfl rfl (Nat.le_of_ble_eq_true rfl) dL_law_1590 ?_
  refine gl_aload_n O dL_law_1593 rfl 2 rfl ?_
  refine gl_aload_n O dL_law_1594 rfl 0 rfl ?_
  refine gl_iload_n O dL_law_1595 rfl 3 rfl ?_
  refine gl_iconst (v := 1) O dL_law_1596 (by decide) ?_
  refine gl_iadd O dL_law_1597 ?_
  refine gl_sld O h1 dL_law_1598 ?_
  refine gl_callMi (As := [.int (xs (x3 + 1).toNatClampNeg)]) (rest := [.int r]) O hkc (c_X9_findings l (gM G am) (okM O) e2) (fun s args hts => cwV 1 hts gw_X9_findings rfl rfl rfl (by decide +kernel) ⟨Nat.le_of_ble_eq_true rfl, Nat.le_of_ble_eq_true rfl⟩) rfl rfl (Nat.le_of_ble_eq_true rfl) dL_law_1599 ?_
  refine gl_icmp_eq (tgt := 1621) O dL_law_1602 (by decide) (fun _ => ?_) (fun h => absurd rfl h)
  exact hN _ _ hR
set_option maxHeartbeats 4000000 in
set_option maxRecDepth 100000 in
theorem lc_49 {X : XT} {l : Launch} {G : Gp} {am : Nat → Nat} {kc ks b L : Nat} {xs : Nat → Int32} {σ μ : Sg} {R : Sg → Sg → Prop} {x3 : Int32} (O : OkL X G am b L xs) (hkc : kc ≤ 600000 ∧ ks ≤ 7302250) (hst : st_digest R) (hR : R σ μ) (hN : ∀ σ1 μ1, R σ1 μ1 → GL X l G am kc ks 1621 [(0, .ref b), (1, .ref (G.2.1 0)), (2, .ref (am 0)), (3, .int x3)] [] σ1 μ1) : GL X l G am kc ks 1607 [(0, .ref b), (1, .ref (G.2.1 0)), (2, .ref (am 0)), (3, .int x3)] [] σ μ := by
  obtain ⟨r, μ1, e1, e2, hR1⟩ := hst σ μ  hR
  refine gl_aload_n O dL_law_1607 rfl 1 rfl ?_
  refine gl_callCl (As := []) (rest := []) O hkc (c_X8_digest l G (okC O) e1) (fun s args hts => cwV 0 hts gw_X8_digest rfl rfl rfl (by decide +kernel) ⟨Nat.le_of_ble_eq_true rfl, Nat.le_of_ble_eq_true rfl⟩) rfl rfl (Nat.le_of_ble_eq_true rfl) dL_law_1608 ?_
  refine gl_aload_n O dL_law_1611 rfl 2 rfl ?_
  refine gl_callMl (As := []) (rest := [.long r]) O hkc (c_X9_digest l (gM G am) (okM O) e2) (fun s args hts => cwV 0 hts gw_X9_digest rfl rfl rfl (by decide +kernel) ⟨Nat.le_of_ble_eq_true rfl, Nat.le_of_ble_eq_true rfl⟩) rfl rfl (Nat.le_of_ble_eq_true rfl) dL_law_1612 ?_
  refine gl_lcmp O dL_law_1615 ?_
  refine gl_if_eq (tgt := 1621) O dL_law_1616 (by decide) (fun _ => ?_) (fun h => absurd (lg_self _) h)
  exact hN _ _ hR1
def Stp_all (R : Sg → Sg → Prop) : Prop := st_row R ∧ st_lay R ∧ st_at R ∧ st_tear R ∧ st_copy R ∧ st_mean R ∧ st_text R ∧ st_put R ∧ st_fault R ∧ st_street R ∧ st_person R ∧ st_mark R ∧ st_wall R ∧ st_move R ∧ st_hears R ∧ st_heard R ∧ st_noise R ∧ st_hush R ∧ st_talk R ∧ st_off R ∧ st_about R ∧ st_safe R ∧ st_cover R ∧ st_beside R ∧ st_turns R ∧ st_most R ∧ st_safes R ∧ st_rooms R ∧ st_swap R ∧ st_paste R ∧ st_tearOff R ∧ st_rent R ∧ st_comes R ∧ st_tell R ∧ st_undo R ∧ st_know R ∧ st_knowsThat R ∧ st_spread R ∧ st_leak R ∧ st_leaks R ∧ st_keep R ∧ st_on R ∧ st_nights R ∧ st_asked R ∧ st_upper R ∧ st_lower R ∧ st_count R ∧ st_finding R ∧ st_findings R ∧ st_digest R
set_option maxHeartbeats 8000000 in
set_option maxRecDepth 100000 in
theorem law_switch {X : XT} {l : Launch} {G : Gp} {am : Nat → Nat} {kc ks b L : Nat} {xs : Nat → Int32} {σ μ : Sg} {R : Sg → Sg → Prop} {x3 v : Int32} (O : OkL X G am b L xs) (hkc : kc ≤ 600000 ∧ ks ≤ 7302250) (hs : Stp_all R) (hR : R σ μ) (hin : ∀ j : Nat, j < 6 → vp_in (x3 + Int32.ofNat j) L) (hN : ∀ σ1 μ1, R σ1 μ1 → GL X l G am kc ks 1621 [(0, .ref b), (1, .ref (G.2.1 0)), (2, .ref (am 0)), (3, .int x3)] [] σ1 μ1) : GL X l G am kc ks 33 [(0, .ref b), (1, .ref (G.2.1 0)), (2, .ref (am 0)), (3, .int x3)] [.int v] σ μ := by
  obtain ⟨h0, h1, h2, h3, h4, h5, h6, h7, h8, h9, h10, h11, h12, h13, h14, h15, h16, h17, h18, h19, h20, h21, h22, h23, h24, h25, h26, h27, h28, h29, h30, h31, h32, h33, h34, h35, h36, h37, h38, h39, h40, h41, h42, h43, h44, h45, h46, h47, h48, h49⟩ := hs
  by_cases t0 : v = 0
  · refine gl_tblIn (tgt := 248) (off := 215) O dL_law_33 (by rw [t0]; decide) (by rw [t0]; decide) (by rw [t0]; rfl) (by decide) ?_
    exact lc_0 O hkc h0 hR (hin 1 (by decide)) (hin 2 (by decide)) hN
  by_cases t1 : v = 1
  · refine gl_tblIn (tgt := 281) (off := 248) O dL_law_33 (by rw [t1]; decide) (by rw [t1]; decide) (by rw [t1]; rfl) (by decide) ?_
    exact lc_1 O hkc h1 hR (hin 1 (by decide)) (hin 2 (by decide)) (hin 3 (by decide)) hN
  by_cases t2 : v = 2
  · refine gl_tblIn (tgt := 324) (off := 291) O dL_law_33 (by rw [t2]; decide) (by rw [t2]; decide) (by rw [t2]; rfl) (by decide) ?_
    exact lc_2 O hkc h2 hR (hin 1 (by decide)) (hin 2 (by decide)) hN
  by_cases t3 : v = 3
  · refine gl_tblIn (tgt := 357) (off := 324) O dL_law_33 (by rw [t3]; decide) (by rw [t3]; decide) (by rw [t3]; rfl) (by decide) ?_
    exact lc_3 O hkc h3 hR (hin 1 (by decide)) hN
  by_cases t4 : v = 4
  · refine gl_tblIn (tgt := 380) (off := 347) O dL_law_33 (by rw [t4]; decide) (by rw [t4]; decide) (by rw [t4]; rfl) (by decide) ?_
    exact lc_4 O hkc h4 hR (hin 1 (by decide)) (hin 2 (by decide)) (hin 3 (by decide)) (hin 4 (by decide)) (hin 5 (by decide)) hN
  by_cases t5 : v = 5
  · refine gl_tblIn (tgt := 443) (off := 410) O dL_law_33 (by rw [t5]; decide) (by rw [t5]; decide) (by rw [t5]; rfl) (by decide) ?_
    exact lc_5 O hkc h5 hR (hin 1 (by decide)) hN
  by_cases t6 : v = 6
  · refine gl_tblIn (tgt := 466) (off := 433) O dL_law_33 (by rw [t6]; decide) (by rw [t6]; decide) (by rw [t6]; rfl) (by decide) ?_
    exact lc_6 O hkc h6 hR (hin 1 (by decide)) (hin 2 (by decide)) hN
  by_cases t7 : v = 7
  · refine gl_tblIn (tgt := 499) (off := 466) O dL_law_33 (by rw [t7]; decide) (by rw [t7]; decide) (by rw [t7]; rfl) (by decide) ?_
    exact lc_7 O hkc h7 hR (hin 1 (by decide)) (hin 2 (by decide)) (hin 3 (by decide)) hN
  by_cases t8 : v = 8
  · refine gl_tblIn (tgt := 542) (off := 509) O dL_law_33 (by rw [t8]; decide) (by rw [t8]; decide) (by rw [t8]; rfl) (by decide) ?_
    exact lc_8 O hkc h8 hR (hin 1 (by decide)) hN
  by_cases t9 : v = 9
  · refine gl_tblIn (tgt := 565) (off := 532) O dL_law_33 (by rw [t9]; decide) (by rw [t9]; decide) (by rw [t9]; rfl) (by decide) ?_
    exact lc_9 O hkc h9 hR (hin 1 (by decide)) hN
  by_cases t10 : v = 10
  · refine gl_tblIn (tgt := 588) (off := 555) O dL_law_33 (by rw [t10]; decide) (by rw [t10]; decide) (by rw [t10]; rfl) (by decide) ?_
    exact lc_10 O hkc h10 hR (hin 1 (by decide)) (hin 2 (by decide)) hN
  by_cases t11 : v = 11
  · refine gl_tblIn (tgt := 621) (off := 588) O dL_law_33 (by rw [t11]; decide) (by rw [t11]; decide) (by rw [t11]; rfl) (by decide) ?_
    exact lc_11 O hkc h11 hR (hin 1 (by decide)) (hin 2 (by decide)) hN
  by_cases t12 : v = 12
  · refine gl_tblIn (tgt := 654) (off := 621) O dL_law_33 (by rw [t12]; decide) (by rw [t12]; decide) (by rw [t12]; rfl) (by decide) ?_
    exact lc_12 O hkc h12 hR (hin 1 (by decide)) (hin 2 (by decide)) hN
  by_cases t13 : v = 13
  · refine gl_tblIn (tgt := 687) (off := 654) O dL_law_33 (by rw [t13]; decide) (by rw [t13]; decide) (by rw [t13]; rfl) (by decide) ?_
    exact lc_13 O hkc h13 hR (hin 1 (by decide)) (hin 2 (by decide)) hN
  by_cases t14 : v = 14
  · refine gl_tblIn (tgt := 720) (off := 687) O dL_law_33 (by rw [t14]; decide) (by rw [t14]; decide) (by rw [t14]; rfl) (by decide) ?_
    exact lc_14 O hkc h14 hR (hin 1 (by decide)) (hin 2 (by decide)) hN
  by_cases t15 : v = 15
  · refine gl_tblIn (tgt := 753) (off := 720) O dL_law_33 (by rw [t15]; decide) (by rw [t15]; decide) (by rw [t15]; rfl) (by decide) ?_
    exact lc_15 O hkc h15 hR (hin 1 (by decide)) (hin 2 (by decide)) hN
  by_cases t16 : v = 16
  · refine gl_tblIn (tgt := 786) (off := 753) O dL_law_33 (by rw [t16]; decide) (by rw [t16]; decide) (by rw [t16]; rfl) (by decide) ?_
    exact lc_16 O hkc h16 hR (hin 1 (by decide)) (hin 2 (by decide)) hN
  by_cases t17 : v = 17
  · refine gl_tblIn (tgt := 819) (off := 786) O dL_law_33 (by rw [t17]; decide) (by rw [t17]; decide) (by rw [t17]; rfl) (by decide) ?_
    exact lc_17 O hkc h17 hR (hin 1 (by decide)) hN
  by_cases t18 : v = 18
  · refine gl_tblIn (tgt := 842) (off := 809) O dL_law_33 (by rw [t18]; decide) (by rw [t18]; decide) (by rw [t18]; rfl) (by decide) ?_
    exact lc_18 O hkc h18 hR (hin 1 (by decide)) (hin 2 (by decide)) (hin 3 (by decide)) hN
  by_cases t19 : v = 19
  · refine gl_tblIn (tgt := 885) (off := 852) O dL_law_33 (by rw [t19]; decide) (by rw [t19]; decide) (by rw [t19]; rfl) (by decide) ?_
    exact lc_19 O hkc h19 hR (hin 1 (by decide)) hN
  by_cases t20 : v = 20
  · refine gl_tblIn (tgt := 908) (off := 875) O dL_law_33 (by rw [t20]; decide) (by rw [t20]; decide) (by rw [t20]; rfl) (by decide) ?_
    exact lc_20 O hkc h20 hR (hin 1 (by decide)) (hin 2 (by decide)) hN
  by_cases t21 : v = 21
  · refine gl_tblIn (tgt := 941) (off := 908) O dL_law_33 (by rw [t21]; decide) (by rw [t21]; decide) (by rw [t21]; rfl) (by decide) ?_
    exact lc_21 O hkc h21 hR (hin 1 (by decide)) (hin 2 (by decide)) hN
  by_cases t22 : v = 22
  · refine gl_tblIn (tgt := 974) (off := 941) O dL_law_33 (by rw [t22]; decide) (by rw [t22]; decide) (by rw [t22]; rfl) (by decide) ?_
    exact lc_22 O hkc h22 hR (hin 1 (by decide)) hN
  by_cases t23 : v = 23
  · refine gl_tblIn (tgt := 997) (off := 964) O dL_law_33 (by rw [t23]; decide) (by rw [t23]; decide) (by rw [t23]; rfl) (by decide) ?_
    exact lc_23 O hkc h23 hR (hin 1 (by decide)) hN
  by_cases t24 : v = 24
  · refine gl_tblIn (tgt := 1020) (off := 987) O dL_law_33 (by rw [t24]; decide) (by rw [t24]; decide) (by rw [t24]; rfl) (by decide) ?_
    exact lc_24 O hkc h24 hR  hN
  by_cases t25 : v = 25
  · refine gl_tblIn (tgt := 1033) (off := 1000) O dL_law_33 (by rw [t25]; decide) (by rw [t25]; decide) (by rw [t25]; rfl) (by decide) ?_
    exact lc_25 O hkc h25 hR  hN
  by_cases t26 : v = 26
  · refine gl_tblIn (tgt := 1046) (off := 1013) O dL_law_33 (by rw [t26]; decide) (by rw [t26]; decide) (by rw [t26]; rfl) (by decide) ?_
    exact lc_26 O hkc h26 hR  hN
  by_cases t27 : v = 27
  · refine gl_tblIn (tgt := 1059) (off := 1026) O dL_law_33 (by rw [t27]; decide) (by rw [t27]; decide) (by rw [t27]; rfl) (by decide) ?_
    exact lc_27 O hkc h27 hR (hin 1 (by decide)) hN
  by_cases t28 : v = 28
  · refine gl_tblIn (tgt := 1082) (off := 1049) O dL_law_33 (by rw [t28]; decide) (by rw [t28]; decide) (by rw [t28]; rfl) (by decide) ?_
    exact lc_28 O hkc h28 hR  hN
  by_cases t29 : v = 29
  · refine gl_tblIn (tgt := 1095) (off := 1062) O dL_law_33 (by rw [t29]; decide) (by rw [t29]; decide) (by rw [t29]; rfl) (by decide) ?_
    exact lc_29 O hkc h29 hR (hin 1 (by decide)) (hin 2 (by decide)) hN
  by_cases t30 : v = 30
  · refine gl_tblIn (tgt := 1128) (off := 1095) O dL_law_33 (by rw [t30]; decide) (by rw [t30]; decide) (by rw [t30]; rfl) (by decide) ?_
    exact lc_30 O hkc h30 hR (hin 1 (by decide)) (hin 2 (by decide)) hN
  by_cases t31 : v = 31
  · refine gl_tblIn (tgt := 1161) (off := 1128) O dL_law_33 (by rw [t31]; decide) (by rw [t31]; decide) (by rw [t31]; rfl) (by decide) ?_
    exact lc_31 O hkc h31 hR (hin 1 (by decide)) hN
  by_cases t32 : v = 32
  · refine gl_tblIn (tgt := 1184) (off := 1151) O dL_law_33 (by rw [t32]; decide) (by rw [t32]; decide) (by rw [t32]; rfl) (by decide) ?_
    exact lc_32 O hkc h32 hR (hin 1 (by decide)) (hin 2 (by decide)) hN
  by_cases t33 : v = 33
  · refine gl_tblIn (tgt := 1217) (off := 1184) O dL_law_33 (by rw [t33]; decide) (by rw [t33]; decide) (by rw [t33]; rfl) (by decide) ?_
    exact lc_33 O hkc h33 hR (hin 1 (by decide)) (hin 2 (by decide)) hN
  by_cases t34 : v = 34
  · refine gl_tblIn (tgt := 1250) (off := 1217) O dL_law_33 (by rw [t34]; decide) (by rw [t34]; decide) (by rw [t34]; rfl) (by decide) ?_
    exact lc_34 O hkc h34 hR (hin 1 (by decide)) hN
  by_cases t35 : v = 35
  · refine gl_tblIn (tgt := 1273) (off := 1240) O dL_law_33 (by rw [t35]; decide) (by rw [t35]; decide) (by rw [t35]; rfl) (by decide) ?_
    exact lc_35 O hkc h35 hR (hin 1 (by decide)) hN
  by_cases t36 : v = 36
  · refine gl_tblIn (tgt := 1296) (off := 1263) O dL_law_33 (by rw [t36]; decide) (by rw [t36]; decide) (by rw [t36]; rfl) (by decide) ?_
    exact lc_36 O hkc h36 hR (hin 1 (by decide)) (hin 2 (by decide)) (hin 3 (by decide)) hN
  by_cases t37 : v = 37
  · refine gl_tblIn (tgt := 1339) (off := 1306) O dL_law_33 (by rw [t37]; decide) (by rw [t37]; decide) (by rw [t37]; rfl) (by decide) ?_
    exact lc_37 O hkc h37 hR (hin 1 (by decide)) (hin 2 (by decide)) hN
  by_cases t38 : v = 38
  · refine gl_tblIn (tgt := 1372) (off := 1339) O dL_law_33 (by rw [t38]; decide) (by rw [t38]; decide) (by rw [t38]; rfl) (by decide) ?_
    exact lc_38 O hkc h38 hR (hin 1 (by decide)) hN
  by_cases t39 : v = 39
  · refine gl_tblIn (tgt := 1395) (off := 1362) O dL_law_33 (by rw [t39]; decide) (by rw [t39]; decide) (by rw [t39]; rfl) (by decide) ?_
    exact lc_39 O hkc h39 hR (hin 1 (by decide)) hN
  by_cases t40 : v = 40
  · refine gl_tblIn (tgt := 1418) (off := 1385) O dL_law_33 (by rw [t40]; decide) (by rw [t40]; decide) (by rw [t40]; rfl) (by decide) ?_
    exact lc_40 O hkc h40 hR (hin 1 (by decide)) hN
  by_cases t41 : v = 41
  · refine gl_tblIn (tgt := 1441) (off := 1408) O dL_law_33 (by rw [t41]; decide) (by rw [t41]; decide) (by rw [t41]; rfl) (by decide) ?_
    exact lc_41 O hkc h41 hR (hin 1 (by decide)) hN
  by_cases t42 : v = 42
  · refine gl_tblIn (tgt := 1464) (off := 1431) O dL_law_33 (by rw [t42]; decide) (by rw [t42]; decide) (by rw [t42]; rfl) (by decide) ?_
    exact lc_42 O hkc h42 hR (hin 1 (by decide)) (hin 2 (by decide)) (hin 3 (by decide)) hN
  by_cases t43 : v = 43
  · refine gl_tblIn (tgt := 1507) (off := 1474) O dL_law_33 (by rw [t43]; decide) (by rw [t43]; decide) (by rw [t43]; rfl) (by decide) ?_
    exact lc_43 O hkc h43 hR  hN
  by_cases t44 : v = 44
  · refine gl_tblIn (tgt := 1520) (off := 1487) O dL_law_33 (by rw [t44]; decide) (by rw [t44]; decide) (by rw [t44]; rfl) (by decide) ?_
    exact lc_44 O hkc h44 hR  hN
  by_cases t45 : v = 45
  · refine gl_tblIn (tgt := 1534) (off := 1501) O dL_law_33 (by rw [t45]; decide) (by rw [t45]; decide) (by rw [t45]; rfl) (by decide) ?_
    exact lc_45 O hkc h45 hR  hN
  by_cases t46 : v = 46
  · refine gl_tblIn (tgt := 1548) (off := 1515) O dL_law_33 (by rw [t46]; decide) (by rw [t46]; decide) (by rw [t46]; rfl) (by decide) ?_
    exact lc_46 O hkc h46 hR (hin 1 (by decide)) hN
  by_cases t47 : v = 47
  · refine gl_tblIn (tgt := 1571) (off := 1538) O dL_law_33 (by rw [t47]; decide) (by rw [t47]; decide) (by rw [t47]; rfl) (by decide) ?_
    exact lc_47 O hkc h47 hR  hN
  by_cases t48 : v = 48
  · refine gl_tblIn (tgt := 1584) (off := 1551) O dL_law_33 (by rw [t48]; decide) (by rw [t48]; decide) (by rw [t48]; rfl) (by decide) ?_
    exact lc_48 O hkc h48 hR (hin 1 (by decide)) hN
  by_cases t49 : v = 49
  · refine gl_tblIn (tgt := 1607) (off := 1574) O dL_law_33 (by rw [t49]; decide) (by rw [t49]; decide) (by rw [t49]; rfl) (by decide) ?_
    exact lc_49 O hkc h49 hR  hN
  refine gl_tblOut (tgt := 1621) O dL_law_33 (by have u0 := ne_toInt t0 (k := 0) (by decide); have u1 := ne_toInt t1 (k := 1) (by decide); have u2 := ne_toInt t2 (k := 2) (by decide); have u3 := ne_toInt t3 (k := 3) (by decide); have u4 := ne_toInt t4 (k := 4) (by decide); have u5 := ne_toInt t5 (k := 5) (by decide); have u6 := ne_toInt t6 (k := 6) (by decide); have u7 := ne_toInt t7 (k := 7) (by decide); have u8 := ne_toInt t8 (k := 8) (by decide); have u9 := ne_toInt t9 (k := 9) (by decide); have u10 := ne_toInt t10 (k := 10) (by decide); have u11 := ne_toInt t11 (k := 11) (by decide); have u12 := ne_toInt t12 (k := 12) (by decide); have u13 := ne_toInt t13 (k := 13) (by decide); have u14 := ne_toInt t14 (k := 14) (by decide); have u15 := ne_toInt t15 (k := 15) (by decide); have u16 := ne_toInt t16 (k := 16) (by decide); have u17 := ne_toInt t17 (k := 17) (by decide); have u18 := ne_toInt t18 (k := 18) (by decide); have u19 := ne_toInt t19 (k := 19) (by decide); have u20 := ne_toInt t20 (k := 20) (by decide); have u21 := ne_toInt t21 (k := 21) (by decide); have u22 := ne_toInt t22 (k := 22) (by decide); have u23 := ne_toInt t23 (k := 23) (by decide); have u24 := ne_toInt t24 (k := 24) (by decide); have u25 := ne_toInt t25 (k := 25) (by decide); have u26 := ne_toInt t26 (k := 26) (by decide); have u27 := ne_toInt t27 (k := 27) (by decide); have u28 := ne_toInt t28 (k := 28) (by decide); have u29 := ne_toInt t29 (k := 29) (by decide); have u30 := ne_toInt t30 (k := 30) (by decide); have u31 := ne_toInt t31 (k := 31) (by decide); have u32 := ne_toInt t32 (k := 32) (by decide); have u33 := ne_toInt t33 (k := 33) (by decide); have u34 := ne_toInt t34 (k := 34) (by decide); have u35 := ne_toInt t35 (k := 35) (by decide); have u36 := ne_toInt t36 (k := 36) (by decide); have u37 := ne_toInt t37 (k := 37) (by decide); have u38 := ne_toInt t38 (k := 38) (by decide); have u39 := ne_toInt t39 (k := 39) (by decide); have u40 := ne_toInt t40 (k := 40) (by decide); have u41 := ne_toInt t41 (k := 41) (by decide); have u42 := ne_toInt t42 (k := 42) (by decide); have u43 := ne_toInt t43 (k := 43) (by decide); have u44 := ne_toInt t44 (k := 44) (by decide); have u45 := ne_toInt t45 (k := 45) (by decide); have u46 := ne_toInt t46 (k := 46) (by decide); have u47 := ne_toInt t47 (k := 47) (by decide); have u48 := ne_toInt t48 (k := 48) (by decide); have u49 := ne_toInt t49 (k := 49) (by decide); omega) (by decide) ?_
  exact hN _ _ hR
set_option maxHeartbeats 8000000 in
set_option maxRecDepth 100000 in
theorem law_loop {X : XT} {l : Launch} {G : Gp} {am : Nat → Nat} {kc ks b L : Nat} {xs : Nat → Int32} {R : Sg → Sg → Prop} (hL : L ≤ 3072) (O : OkL X G am b L xs) (hkc : kc ≤ 600000 ∧ ks ≤ 7302250) (hs : Stp_all R) (hE : ∀ σ μ ls, GL X l G am kc ks 1627 ls [] σ μ) : ∀ (n i : Nat) (σ μ : Sg), i ≤ L → L - i < 6 * n → R σ μ → GL X l G am kc ks 18 [(0, .ref b), (1, .ref (G.2.1 0)), (2, .ref (am 0)), (3, .int (zI i))] [] σ μ := by
  intro n
  induction n with
  | zero => intro i σ μ _ h; omega
  | succ n ih =>
    intro i σ μ hi hn hR
    refine gl_iload_n O dL_law_18 rfl 3 rfl ?_
    refine gl_aload_n O dL_law_19 rfl 0 rfl ?_
    refine gl_alen O dL_law_20 ?_
    refine gl_bipush (v := 6) O dL_law_21 (by decide) ?_
    refine gl_isub O dL_law_23 ?_
    have e6 : Int32.ofNat L - 6 = zI ((L : Int) - 6) := by rw [← z_sub]; rfl
    refine gl_icmp_gt (tgt := 1627) O dL_law_24 (by decide) (fun _ => hE _ _ _) (fun hc => ?_)
    rw [e6, z_lt (by omega) (by omega) (by omega) (by omega)] at hc
    have hin : ∀ j : Nat, j < 6 → vp_in (zI i + Int32.ofNat j) L := by
      intro j hj
      have e : zI i + Int32.ofNat j = zI ((i + j : Nat) : Int) := by rw [Int.natCast_add, ← z_add]; rfl
      rw [e]
      exact inB_in (inB_N (by omega) (by omega))
    have hin0 : vp_in (zI i) L := inB_in (inB_N (by omega) (by omega))
    refine gl_aload_n O dL_law_27 rfl 0 rfl ?_
    refine gl_iload_n O dL_law_28 rfl 3 rfl ?_
    refine gl_sld O hin0 dL_law_29 ?_
    refine gl_bipush (v := 63) O dL_law_30 (by decide) ?_
    refine gl_iand O dL_law_32 ?_
    refine law_switch O hkc hs hR hin (fun σ1 μ1 hR1 => ?_)
    refine gl_iinc (d := 6) (ls' := [(3, .int (zI i + 6)), (0, .ref b), (1, .ref (G.2.1 0)), (2, .ref (am 0))]) O dL_law_1621 3 rfl (by decide) (by decide) rfl ?_
    refine gl_goto (tgt := 18) O dL_law_1624 (by decide) ?_
    refine gl_perm (ls' := [(0, .ref b), (1, .ref (G.2.1 0)), (2, .ref (am 0)), (3, .int (zI i + 6))]) [1, 2, 3, 0] rfl ?_
    have e7 : zI i + 6 = zI ((i + 6 : Nat) : Int) := by rw [Int.natCast_add, ← z_add]; rfl
    rw [e7]
    exact ih (i + 6) σ1 μ1 (by omega) (by omega) hR1
