set_option maxRecDepth 20000 in
theorem w_L_law_3082 {F : jFm} (C : jA F RL cL_law 9 2048 603072 7182442 94400) {b L : Nat} {xs : Nat → Int32} (hX : jScr F b L xs) {κ : jKt} {a1 : Nat} (ha1 : jSof F a1 = (1, 10, 11)) {a2 : Nat} (ha2 : jSof F a2 = (1, 11, 22)) {a3 : Nat} (ha3 : jSof F a3 = (2, 3, 1)) {a4 : Nat} (ha4 : jSof F a4 = (2, 4, 1)) {v5 : Int32} {κr : jKt} (hq : ∀ κ k1 k2 lv, κ = κr → k1 ≤ 603072 → k2 ≤ 7182442 → jW F 9 k1 k2 κ 3089 lv [.int 1]) {k1 k2 : Nat} (hk1 : k1 + 52 ≤ 603072) (hk2 : k2 + 7248 ≤ 7182442) {K28 : jKt → Int32 → Option (Int32 × jKt)} (hK28 : ∀ (κ : jKt) (u5 : Int32), K28 κ u5 = some (1, κr) → ∀ k1a k2a, k1a ≤ k1 + 52 → k2a ≤ k2 + 7248 → jW F 9 k1a k2a κ 28 [(0, .ref b), (1, .ref a1), (2, .ref a2), (3, .ref a3), (4, .ref a4), (5, .int u5)] []) (h : P_L_law_3082 xs L κ a1 a2 a3 a4 v5 K28 = some (1, κr)) : jW F 9 (k1 + 52) (k2 + 7248) κ 3082 [(0, .ref b), (1, .ref a1), (2, .ref a2), (3, .ref a3), (4, .ref a4), (5, .int v5)] [] := by
  unfold P_L_law_3082 at h
  refine r_iinc C (lv' := [(0, .ref b), (1, .ref a1), (2, .ref a2), (3, .ref a3), (4, .ref a4), (5, .int (v5 + 4))]) 5 [1, 2, 3, 4, 5, 0] 3085 rfl dL_law_3082 rfl (Nat.le_of_ble_eq_true rfl) rfl rfl ?_
  refine r_goto C 28 dL_law_3085 rfl ?_
  exact hK28 κ (v5 + 4) h _ _ (by omega) (by omega)
set_option maxRecDepth 20000 in
theorem w_L_law_272 {F : jFm} (C : jA F RL cL_law 9 2048 603072 7182442 94400) {b L : Nat} {xs : Nat → Int32} (hX : jScr F b L xs) {κ : jKt} {a1 : Nat} (ha1 : jSof F a1 = (1, 10, 11)) {a2 : Nat} (ha2 : jSof F a2 = (1, 11, 22)) {a3 : Nat} (ha3 : jSof F a3 = (2, 3, 1)) {a4 : Nat} (ha4 : jSof F a4 = (2, 4, 1)) {v5 : Int32} {κr : jKt} (hq : ∀ κ k1 k2 lv, κ = κr → k1 ≤ 603072 → k2 ≤ 7182442 → jW F 9 k1 k2 κ 3089 lv [.int 1]) {k1 k2 : Nat} (hk1 : k1 + 52 ≤ 603072) (hk2 : k2 + 7248 ≤ 7182442) {K28 : jKt → Int32 → Option (Int32 × jKt)} (hK28 : ∀ (κ : jKt) (u5 : Int32), K28 κ u5 = some (1, κr) → ∀ k1a k2a, k1a ≤ k1 + 52 → k2a ≤ k2 + 7248 → jW F 9 k1a k2a κ 28 [(0, .ref b), (1, .ref a1), (2, .ref a2), (3, .ref a3), (4, .ref a4), (5, .int u5)] []) (h : P_L_law_272 xs L κ a1 a2 a3 a4 v5 K28 = some (1, κr)) : jW F 9 k1 k2 κ 272 [(0, .ref b), (1, .ref a1), (2, .ref a2), (3, .ref a3), (4, .ref a4), (5, .int v5)] [] := by
  unfold P_L_law_272 at h
  refine r_aload_n C 1 273 rfl dL_law_272 rfl ?_
  refine r_aload_n C 0 274 rfl dL_law_273 rfl ?_
  refine r_iload C 5 276 rfl dL_law_274 rfl ?_
  refine r_iconst C 1 rfl 277 rfl dL_law_276 ?_
  refine r_iadd C 278 rfl dL_law_277 ?_
  obtain ⟨i1441, h⟩ := ck_some h
  refine r_sld C hX i1441 279 rfl dL_law_278 ?_
  refine r_aload_n C 0 280 rfl dL_law_279 rfl ?_
  refine r_iload C 5 282 rfl dL_law_280 rfl ?_
  refine r_iconst C 2 rfl 283 rfl dL_law_282 ?_
  refine r_iadd C 284 rfl dL_law_283 ?_
  obtain ⟨i1442, h⟩ := ck_some h
  refine r_sld C hX i1442 285 rfl dL_law_284 ?_
  refine r_aload_n C 3 286 rfl dL_law_285 rfl ?_
  obtain ⟨y1444, κ1445, e1443, h⟩ := bd2_some h
  refine r_cSh C (st := []) (c_L_buyCloth ha1 ha3 e1443) yv_L_buyCloth ml_L_169 rfl ⟨Nat.le_of_ble_eq_true rfl, Nat.le_of_ble_eq_true rfl⟩ ⟨by omega, by omega⟩ (Nat.le_of_ble_eq_true rfl) rfl (k1 + 1) (k2 + 6) rfl rfl 289 rfl dL_law_286 ?_
  refine r_istore C (lv' := [(0, .ref b), (1, .ref a1), (2, .ref a2), (3, .ref a3), (4, .ref a4), (5, .int v5), (6, .int y1444)]) [1, 2, 3, 4, 5, 6, 0] 291 rfl dL_law_289 (Nat.le_of_ble_eq_true rfl) rfl ?_
  refine r_aload_n C 2 292 rfl dL_law_291 rfl ?_
  refine r_aload_n C 0 293 rfl dL_law_292 rfl ?_
  refine r_iload C 5 295 rfl dL_law_293 rfl ?_
  refine r_iconst C 1 rfl 296 rfl dL_law_295 ?_
  refine r_iadd C 297 rfl dL_law_296 ?_
  obtain ⟨i1446, h⟩ := ck_some h
  refine r_sld C hX i1446 298 rfl dL_law_297 ?_
  refine r_aload_n C 0 299 rfl dL_law_298 rfl ?_
  refine r_iload C 5 301 rfl dL_law_299 rfl ?_
  refine r_iconst C 2 rfl 302 rfl dL_law_301 ?_
  refine r_iadd C 303 rfl dL_law_302 ?_
  obtain ⟨i1447, h⟩ := ck_some h
  refine r_sld C hX i1447 304 rfl dL_law_303 ?_
  obtain ⟨y1449, κ1450, e1448, h⟩ := bd2_some h
  refine r_cVi C (st := []) (c_X7_buyCloth ha2 e1448) yv_X7_buyCloth ml_L_174 rfl ha2 rfl ⟨Nat.le_of_ble_eq_true rfl, Nat.le_of_ble_eq_true rfl⟩ ⟨by omega, by omega⟩ (Nat.le_of_ble_eq_true rfl) rfl (k1 + 1) (k2 + 6) rfl rfl 307 rfl dL_law_304 ?_
  refine r_istore C (lv' := [(0, .ref b), (1, .ref a1), (2, .ref a2), (3, .ref a3), (4, .ref a4), (5, .int v5), (6, .int y1444), (7, .int y1449)]) [1, 2, 3, 4, 5, 6, 7, 0] 309 rfl dL_law_307 (Nat.le_of_ble_eq_true rfl) rfl ?_
  refine r_aload_n C 2 310 rfl dL_law_309 rfl ?_
  obtain ⟨y1452, e1451, h⟩ := bd_some h
  refine r_cVi C (st := []) (c_X7_thrown ha2 e1451) yv_X7_thrown ml_L_175 rfl ha2 rfl ⟨Nat.le_of_ble_eq_true rfl, Nat.le_of_ble_eq_true rfl⟩ ⟨by omega, by omega⟩ (Nat.le_of_ble_eq_true rfl) rfl (k1 + 1) (k2 + 6) rfl rfl 313 rfl dL_law_310 ?_
  refine r_iload C 6 315 rfl dL_law_313 rfl ?_
  refine r_icmp_eq C 320 318 rfl dL_law_315 rfl ⟨fun c1453 => ?_, fun c1453 => ?_⟩
  · have h := if_some_t c1453 h
    refine r_iload C 6 322 rfl dL_law_320 rfl ?_
    refine r_if_ne C 337 325 rfl dL_law_322 rfl ⟨fun c1454 => ?_, fun c1454 => ?_⟩
    · have h := if_some_f c1454 h
      refine r_goto C 3082 dL_law_337 rfl ?_
      refine r_lv [0, 1, 2, 3, 4, 5] rfl ?_
      refine r_wd (k1' := (k1 + 52)) (k2' := (k2 + 7248)) (by omega) (by omega) ?_
      exact w_L_law_3082 C hX ha1 ha2 ha3 ha4 hq (k1 := k1) (k2 := k2) (by omega) (by omega) (fun κ u5 h k1a k2a g1 g2 => hK28 κ u5 h k1a k2a (by omega) (by omega)) h
    · have h := if_some_t c1454 h
      refine r_aload_n C 3 326 rfl dL_law_325 rfl ?_
      refine r_iconst C 0 rfl 327 rfl dL_law_326 ?_
      refine r_lald C ha3 (by decide) 328 rfl dL_law_327 ?_
      refine r_iload C 7 330 rfl dL_law_328 rfl ?_
      refine r_i2l C 331 rfl dL_law_330 ?_
      refine r_lcmp C 332 rfl dL_law_331 ?_
      refine r_if_eq C 337 335 rfl dL_law_332 rfl ⟨fun c1455 => ?_, fun c1455 => ?_⟩
      · have h := if_some_t c1455 h
        refine r_goto C 3082 dL_law_337 rfl ?_
        refine r_lv [0, 1, 2, 3, 4, 5] rfl ?_
        refine r_wd (k1' := (k1 + 52)) (k2' := (k2 + 7248)) (by omega) (by omega) ?_
        exact w_L_law_3082 C hX ha1 ha2 ha3 ha4 hq (k1 := k1) (k2 := k2) (by omega) (by omega) (fun κ u5 h k1a k2a g1 g2 => hK28 κ u5 h k1a k2a (by omega) (by omega)) h
      · have h := if_some_f c1455 h
        refine r_iconst C 0 rfl 336 rfl dL_law_335 ?_
        exact absurd (congrArg (fun z => z.1) (Option.some.inj h)) (show ¬ ((0 : Int32) = 1) by decide)
  · have h := if_some_f c1453 h
    refine r_iconst C 0 rfl 319 rfl dL_law_318 ?_
    exact absurd (congrArg (fun z => z.1) (Option.some.inj h)) (show ¬ ((0 : Int32) = 1) by decide)
set_option maxRecDepth 20000 in
theorem w_L_law_340 {F : jFm} (C : jA F RL cL_law 9 2048 603072 7182442 94400) {b L : Nat} {xs : Nat → Int32} (hX : jScr F b L xs) {κ : jKt} {a1 : Nat} (ha1 : jSof F a1 = (1, 10, 11)) {a2 : Nat} (ha2 : jSof F a2 = (1, 11, 22)) {a3 : Nat} (ha3 : jSof F a3 = (2, 3, 1)) {a4 : Nat} (ha4 : jSof F a4 = (2, 4, 1)) {v5 : Int32} {κr : jKt} (hq : ∀ κ k1 k2 lv, κ = κr → k1 ≤ 603072 → k2 ≤ 7182442 → jW F 9 k1 k2 κ 3089 lv [.int 1]) {k1 k2 : Nat} (hk1 : k1 + 52 ≤ 603072) (hk2 : k2 + 7248 ≤ 7182442) {K28 : jKt → Int32 → Option (Int32 × jKt)} (hK28 : ∀ (κ : jKt) (u5 : Int32), K28 κ u5 = some (1, κr) → ∀ k1a k2a, k1a ≤ k1 + 52 → k2a ≤ k2 + 7248 → jW F 9 k1a k2a κ 28 [(0, .ref b), (1, .ref a1), (2, .ref a2), (3, .ref a3), (4, .ref a4), (5, .int u5)] []) (h : P_L_law_340 xs L κ a1 a2 a3 a4 v5 K28 = some (1, κr)) : jW F 9 k1 k2 κ 340 [(0, .ref b), (1, .ref a1), (2, .ref a2), (3, .ref a3), (4, .ref a4), (5, .int v5)] [] := by
  unfold P_L_law_340 at h
  refine r_aload_n C 1 341 rfl dL_law_340 rfl ?_
  refine r_aload_n C 0 342 rfl dL_law_341 rfl ?_
  refine r_iload C 5 344 rfl dL_law_342 rfl ?_
  refine r_iconst C 1 rfl 345 rfl dL_law_344 ?_
  refine r_iadd C 346 rfl dL_law_345 ?_
  obtain ⟨i1456, h⟩ := ck_some h
  refine r_sld C hX i1456 347 rfl dL_law_346 ?_
  refine r_aload_n C 0 348 rfl dL_law_347 rfl ?_
  refine r_iload C 5 350 rfl dL_law_348 rfl ?_
  refine r_iconst C 2 rfl 351 rfl dL_law_350 ?_
  refine r_iadd C 352 rfl dL_law_351 ?_
  obtain ⟨i1457, h⟩ := ck_some h
  refine r_sld C hX i1457 353 rfl dL_law_352 ?_
  refine r_aload_n C 3 354 rfl dL_law_353 rfl ?_
  obtain ⟨y1459, κ1460, e1458, h⟩ := bd2_some h
  refine r_cSh C (st := []) (c_L_addCustomer ha1 ha3 e1458) yv_L_addCustomer ml_L_178 rfl ⟨Nat.le_of_ble_eq_true rfl, Nat.le_of_ble_eq_true rfl⟩ ⟨by omega, by omega⟩ (Nat.le_of_ble_eq_true rfl) rfl (k1 + 1) (k2 + 6) rfl rfl 357 rfl dL_law_354 ?_
  refine r_istore C (lv' := [(0, .ref b), (1, .ref a1), (2, .ref a2), (3, .ref a3), (4, .ref a4), (5, .int v5), (6, .int y1459)]) [1, 2, 3, 4, 5, 6, 0] 359 rfl dL_law_357 (Nat.le_of_ble_eq_true rfl) rfl ?_
  refine r_aload_n C 2 360 rfl dL_law_359 rfl ?_
  refine r_aload_n C 0 361 rfl dL_law_360 rfl ?_
  refine r_iload C 5 363 rfl dL_law_361 rfl ?_
  refine r_iconst C 1 rfl 364 rfl dL_law_363 ?_
  refine r_iadd C 365 rfl dL_law_364 ?_
  obtain ⟨i1461, h⟩ := ck_some h
  refine r_sld C hX i1461 366 rfl dL_law_365 ?_
  refine r_aload_n C 0 367 rfl dL_law_366 rfl ?_
  refine r_iload C 5 369 rfl dL_law_367 rfl ?_
  refine r_iconst C 2 rfl 370 rfl dL_law_369 ?_
  refine r_iadd C 371 rfl dL_law_370 ?_
  obtain ⟨i1462, h⟩ := ck_some h
  refine r_sld C hX i1462 372 rfl dL_law_371 ?_
  obtain ⟨y1464, κ1465, e1463, h⟩ := bd2_some h
  refine r_cVi C (st := []) (c_X7_addCustomer ha2 e1463) yv_X7_addCustomer ml_L_180 rfl ha2 rfl ⟨Nat.le_of_ble_eq_true rfl, Nat.le_of_ble_eq_true rfl⟩ ⟨by omega, by omega⟩ (Nat.le_of_ble_eq_true rfl) rfl (k1 + 1) (k2 + 6) rfl rfl 375 rfl dL_law_372 ?_
  refine r_istore C (lv' := [(0, .ref b), (1, .ref a1), (2, .ref a2), (3, .ref a3), (4, .ref a4), (5, .int v5), (6, .int y1459), (7, .int y1464)]) [1, 2, 3, 4, 5, 6, 7, 0] 377 rfl dL_law_375 (Nat.le_of_ble_eq_true rfl) rfl ?_
  refine r_aload_n C 2 378 rfl dL_law_377 rfl ?_
  obtain ⟨y1467, e1466, h⟩ := bd_some h
  refine r_cVi C (st := []) (c_X7_thrown ha2 e1466) yv_X7_thrown ml_L_175 rfl ha2 rfl ⟨Nat.le_of_ble_eq_true rfl, Nat.le_of_ble_eq_true rfl⟩ ⟨by omega, by omega⟩ (Nat.le_of_ble_eq_true rfl) rfl (k1 + 1) (k2 + 6) rfl rfl 381 rfl dL_law_378 ?_
  refine r_iload C 6 383 rfl dL_law_381 rfl ?_
  refine r_icmp_eq C 388 386 rfl dL_law_383 rfl ⟨fun c1468 => ?_, fun c1468 => ?_⟩
  · have h := if_some_t c1468 h
    refine r_iload C 6 390 rfl dL_law_388 rfl ?_
    refine r_if_ne C 405 393 rfl dL_law_390 rfl ⟨fun c1469 => ?_, fun c1469 => ?_⟩
    · have h := if_some_f c1469 h
      refine r_goto C 3082 dL_law_405 rfl ?_
      refine r_lv [0, 1, 2, 3, 4, 5] rfl ?_
      refine r_wd (k1' := (k1 + 52)) (k2' := (k2 + 7248)) (by omega) (by omega) ?_
      exact w_L_law_3082 C hX ha1 ha2 ha3 ha4 hq (k1 := k1) (k2 := k2) (by omega) (by omega) (fun κ u5 h k1a k2a g1 g2 => hK28 κ u5 h k1a k2a (by omega) (by omega)) h
    · have h := if_some_t c1469 h
      refine r_aload_n C 3 394 rfl dL_law_393 rfl ?_
      refine r_iconst C 0 rfl 395 rfl dL_law_394 ?_
      refine r_lald C ha3 (by decide) 396 rfl dL_law_395 ?_
      refine r_iload C 7 398 rfl dL_law_396 rfl ?_
      refine r_i2l C 399 rfl dL_law_398 ?_
      refine r_lcmp C 400 rfl dL_law_399 ?_
      refine r_if_eq C 405 403 rfl dL_law_400 rfl ⟨fun c1470 => ?_, fun c1470 => ?_⟩
      · have h := if_some_t c1470 h
        refine r_goto C 3082 dL_law_405 rfl ?_
        refine r_lv [0, 1, 2, 3, 4, 5] rfl ?_
        refine r_wd (k1' := (k1 + 52)) (k2' := (k2 + 7248)) (by omega) (by omega) ?_
        exact w_L_law_3082 C hX ha1 ha2 ha3 ha4 hq (k1 := k1) (k2 := k2) (by omega) (by omega) (fun κ u5 h k1a k2a g1 g2 => hK28 κ u5 h k1a k2a (by omega) (by omega)) h
      · have h := if_some_f c1470 h
        refine r_iconst C 0 rfl 404 rfl dL_law_403 ?_
        exact absurd (congrArg (fun z => z.1) (Option.some.inj h)) (show ¬ ((0 : Int32) = 1) by decide)
  · have h := if_some_f c1468 h
    refine r_iconst C 0 rfl 387 rfl dL_law_386 ?_
    exact absurd (congrArg (fun z => z.1) (Option.some.inj h)) (show ¬ ((0 : Int32) = 1) by decide)
set_option maxRecDepth 20000 in
theorem w_L_law_408 {F : jFm} (C : jA F RL cL_law 9 2048 603072 7182442 94400) {b L : Nat} {xs : Nat → Int32} (hX : jScr F b L xs) {κ : jKt} {a1 : Nat} (ha1 : jSof F a1 = (1, 10, 11)) {a2 : Nat} (ha2 : jSof F a2 = (1, 11, 22)) {a3 : Nat} (ha3 : jSof F a3 = (2, 3, 1)) {a4 : Nat} (ha4 : jSof F a4 = (2, 4, 1)) {v5 : Int32} {κr : jKt} (hq : ∀ κ k1 k2 lv, κ = κr → k1 ≤ 603072 → k2 ≤ 7182442 → jW F 9 k1 k2 κ 3089 lv [.int 1]) {k1 k2 : Nat} (hk1 : k1 + 52 ≤ 603072) (hk2 : k2 + 7248 ≤ 7182442) {K28 : jKt → Int32 → Option (Int32 × jKt)} (hK28 : ∀ (κ : jKt) (u5 : Int32), K28 κ u5 = some (1, κr) → ∀ k1a k2a, k1a ≤ k1 + 52 → k2a ≤ k2 + 7248 → jW F 9 k1a k2a κ 28 [(0, .ref b), (1, .ref a1), (2, .ref a2), (3, .ref a3), (4, .ref a4), (5, .int u5)] []) (h : P_L_law_408 xs L κ a1 a2 a3 a4 v5 K28 = some (1, κr)) : jW F 9 k1 k2 κ 408 [(0, .ref b), (1, .ref a1), (2, .ref a2), (3, .ref a3), (4, .ref a4), (5, .int v5)] [] := by
  unfold P_L_law_408 at h
  refine r_aload_n C 1 409 rfl dL_law_408 rfl ?_
  refine r_aload_n C 0 410 rfl dL_law_409 rfl ?_
  refine r_iload C 5 412 rfl dL_law_410 rfl ?_
  refine r_iconst C 1 rfl 413 rfl dL_law_412 ?_
  refine r_iadd C 414 rfl dL_law_413 ?_
  obtain ⟨i1471, h⟩ := ck_some h
  refine r_sld C hX i1471 415 rfl dL_law_414 ?_
  refine r_aload_n C 0 416 rfl dL_law_415 rfl ?_
  refine r_iload C 5 418 rfl dL_law_416 rfl ?_
  refine r_iconst C 2 rfl 419 rfl dL_law_418 ?_
  refine r_iadd C 420 rfl dL_law_419 ?_
  obtain ⟨i1472, h⟩ := ck_some h
  refine r_sld C hX i1472 421 rfl dL_law_420 ?_
  refine r_aload_n C 0 422 rfl dL_law_421 rfl ?_
  refine r_iload C 5 424 rfl dL_law_422 rfl ?_
  refine r_iconst C 3 rfl 425 rfl dL_law_424 ?_
  refine r_iadd C 426 rfl dL_law_425 ?_
  obtain ⟨i1473, h⟩ := ck_some h
  refine r_sld C hX i1473 427 rfl dL_law_426 ?_
  refine r_aload_n C 3 428 rfl dL_law_427 rfl ?_
  obtain ⟨y1475, κ1476, e1474, h⟩ := bd2_some h
  refine r_cSh C (st := []) (c_L_fit ha1 ha3 e1474) yv_L_fit ml_L_181 rfl ⟨Nat.le_of_ble_eq_true rfl, Nat.le_of_ble_eq_true rfl⟩ ⟨by omega, by omega⟩ (Nat.le_of_ble_eq_true rfl) rfl (k1 + 1) (k2 + 6) rfl rfl 431 rfl dL_law_428 ?_
  refine r_istore C (lv' := [(0, .ref b), (1, .ref a1), (2, .ref a2), (3, .ref a3), (4, .ref a4), (5, .int v5), (6, .int y1475)]) [1, 2, 3, 4, 5, 6, 0] 433 rfl dL_law_431 (Nat.le_of_ble_eq_true rfl) rfl ?_
  refine r_aload_n C 2 434 rfl dL_law_433 rfl ?_
  refine r_aload_n C 0 435 rfl dL_law_434 rfl ?_
  refine r_iload C 5 437 rfl dL_law_435 rfl ?_
  refine r_iconst C 1 rfl 438 rfl dL_law_437 ?_
  refine r_iadd C 439 rfl dL_law_438 ?_
  obtain ⟨i1477, h⟩ := ck_some h
  refine r_sld C hX i1477 440 rfl dL_law_439 ?_
  refine r_aload_n C 0 441 rfl dL_law_440 rfl ?_
  refine r_iload C 5 443 rfl dL_law_441 rfl ?_
  refine r_iconst C 2 rfl 444 rfl dL_law_443 ?_
  refine r_iadd C 445 rfl dL_law_444 ?_
  obtain ⟨i1478, h⟩ := ck_some h
  refine r_sld C hX i1478 446 rfl dL_law_445 ?_
  refine r_aload_n C 0 447 rfl dL_law_446 rfl ?_
  refine r_iload C 5 449 rfl dL_law_447 rfl ?_
  refine r_iconst C 3 rfl 450 rfl dL_law_449 ?_
  refine r_iadd C 451 rfl dL_law_450 ?_
  obtain ⟨i1479, h⟩ := ck_some h
  refine r_sld C hX i1479 452 rfl dL_law_451 ?_
  obtain ⟨y1481, κ1482, e1480, h⟩ := bd2_some h
  refine r_cVi C (st := []) (c_X7_fit ha2 e1480) yv_X7_fit ml_L_184 rfl ha2 rfl ⟨Nat.le_of_ble_eq_true rfl, Nat.le_of_ble_eq_true rfl⟩ ⟨by omega, by omega⟩ (Nat.le_of_ble_eq_true rfl) rfl (k1 + 1) (k2 + 6) rfl rfl 455 rfl dL_law_452 ?_
  refine r_istore C (lv' := [(0, .ref b), (1, .ref a1), (2, .ref a2), (3, .ref a3), (4, .ref a4), (5, .int v5), (6, .int y1475), (7, .int y1481)]) [1, 2, 3, 4, 5, 6, 7, 0] 457 rfl dL_law_455 (Nat.le_of_ble_eq_true rfl) rfl ?_
  refine r_aload_n C 2 458 rfl dL_law_457 rfl ?_
  obtain ⟨y1484, e1483, h⟩ := bd_some h
  refine r_cVi C (st := []) (c_X7_thrown ha2 e1483) yv_X7_thrown ml_L_175 rfl ha2 rfl ⟨Nat.le_of_ble_eq_true rfl, Nat.le_of_ble_eq_true rfl⟩ ⟨by omega, by omega⟩ (Nat.le_of_ble_eq_true rfl) rfl (k1 + 1) (k2 + 6) rfl rfl 461 rfl dL_law_458 ?_
  refine r_iload C 6 463 rfl dL_law_461 rfl ?_
  refine r_icmp_eq C 468 466 rfl dL_law_463 rfl ⟨fun c1485 => ?_, fun c1485 => ?_⟩
  · have h := if_some_t c1485 h
    refine r_iload C 6 470 rfl dL_law_468 rfl ?_
    refine r_if_ne C 485 473 rfl dL_law_470 rfl ⟨fun c1486 => ?_, fun c1486 => ?_⟩
    · have h := if_some_f c1486 h
      refine r_goto C 3082 dL_law_485 rfl ?_
      refine r_lv [0, 1, 2, 3, 4, 5] rfl ?_
      refine r_wd (k1' := (k1 + 52)) (k2' := (k2 + 7248)) (by omega) (by omega) ?_
      exact w_L_law_3082 C hX ha1 ha2 ha3 ha4 hq (k1 := k1) (k2 := k2) (by omega) (by omega) (fun κ u5 h k1a k2a g1 g2 => hK28 κ u5 h k1a k2a (by omega) (by omega)) h
    · have h := if_some_t c1486 h
      refine r_aload_n C 3 474 rfl dL_law_473 rfl ?_
      refine r_iconst C 0 rfl 475 rfl dL_law_474 ?_
      refine r_lald C ha3 (by decide) 476 rfl dL_law_475 ?_
      refine r_iload C 7 478 rfl dL_law_476 rfl ?_
      refine r_i2l C 479 rfl dL_law_478 ?_
      refine r_lcmp C 480 rfl dL_law_479 ?_
      refine r_if_eq C 485 483 rfl dL_law_480 rfl ⟨fun c1487 => ?_, fun c1487 => ?_⟩
      · have h := if_some_t c1487 h
        refine r_goto C 3082 dL_law_485 rfl ?_
        refine r_lv [0, 1, 2, 3, 4, 5] rfl ?_
        refine r_wd (k1' := (k1 + 52)) (k2' := (k2 + 7248)) (by omega) (by omega) ?_
        exact w_L_law_3082 C hX ha1 ha2 ha3 ha4 hq (k1 := k1) (k2 := k2) (by omega) (by omega) (fun κ u5 h k1a k2a g1 g2 => hK28 κ u5 h k1a k2a (by omega) (by omega)) h
      · have h := if_some_f c1487 h
        refine r_iconst C 0 rfl 484 rfl dL_law_483 ?_
        exact absurd (congrArg (fun z => z.1) (Option.some.inj h)) (show ¬ ((0 : Int32) = 1) by decide)
  · have h := if_some_f c1485 h
    refine r_iconst C 0 rfl 467 rfl dL_law_466 ?_
    exact absurd (congrArg (fun z => z.1) (Option.some.inj h)) (show ¬ ((0 : Int32) = 1) by decide)
set_option maxRecDepth 20000 in
theorem w_L_law_488 {F : jFm} (C : jA F RL cL_law 9 2048 603072 7182442 94400) {b L : Nat} {xs : Nat → Int32} (hX : jScr F b L xs) {κ : jKt} {a1 : Nat} (ha1 : jSof F a1 = (1, 10, 11)) {a2 : Nat} (ha2 : jSof F a2 = (1, 11, 22)) {a3 : Nat} (ha3 : jSof F a3 = (2, 3, 1)) {a4 : Nat} (ha4 : jSof F a4 = (2, 4, 1)) {v5 : Int32} {κr : jKt} (hq : ∀ κ k1 k2 lv, κ = κr → k1 ≤ 603072 → k2 ≤ 7182442 → jW F 9 k1 k2 κ 3089 lv [.int 1]) {k1 k2 : Nat} (hk1 : k1 + 52 ≤ 603072) (hk2 : k2 + 7248 ≤ 7182442) {K28 : jKt → Int32 → Option (Int32 × jKt)} (hK28 : ∀ (κ : jKt) (u5 : Int32), K28 κ u5 = some (1, κr) → ∀ k1a k2a, k1a ≤ k1 + 52 → k2a ≤ k2 + 7248 → jW F 9 k1a k2a κ 28 [(0, .ref b), (1, .ref a1), (2, .ref a2), (3, .ref a3), (4, .ref a4), (5, .int u5)] []) (h : P_L_law_488 xs L κ a1 a2 a3 a4 v5 K28 = some (1, κr)) : jW F 9 k1 k2 κ 488 [(0, .ref b), (1, .ref a1), (2, .ref a2), (3, .ref a3), (4, .ref a4), (5, .int v5)] [] := by
  unfold P_L_law_488 at h
  refine r_aload_n C 1 489 rfl dL_law_488 rfl ?_
  refine r_aload_n C 0 490 rfl dL_law_489 rfl ?_
  refine r_iload C 5 492 rfl dL_law_490 rfl ?_
  refine r_iconst C 1 rfl 493 rfl dL_law_492 ?_
  refine r_iadd C 494 rfl dL_law_493 ?_
  obtain ⟨i1488, h⟩ := ck_some h
  refine r_sld C hX i1488 495 rfl dL_law_494 ?_
  refine r_aload_n C 0 496 rfl dL_law_495 rfl ?_
  refine r_iload C 5 498 rfl dL_law_496 rfl ?_
  refine r_iconst C 2 rfl 499 rfl dL_law_498 ?_
  refine r_iadd C 500 rfl dL_law_499 ?_
  obtain ⟨i1489, h⟩ := ck_some h
  refine r_sld C hX i1489 501 rfl dL_law_500 ?_
  refine r_aload_n C 3 502 rfl dL_law_501 rfl ?_
  obtain ⟨y1491, κ1492, e1490, h⟩ := bd2_some h
  refine r_cSh C (st := []) (c_L_orderSuit ha1 ha3 e1490) yv_L_orderSuit ml_L_185 rfl ⟨Nat.le_of_ble_eq_true rfl, Nat.le_of_ble_eq_true rfl⟩ ⟨by omega, by omega⟩ (Nat.le_of_ble_eq_true rfl) rfl (k1 + 1) (k2 + 6) rfl rfl 505 rfl dL_law_502 ?_
  refine r_istore C (lv' := [(0, .ref b), (1, .ref a1), (2, .ref a2), (3, .ref a3), (4, .ref a4), (5, .int v5), (6, .int y1491)]) [1, 2, 3, 4, 5, 6, 0] 507 rfl dL_law_505 (Nat.le_of_ble_eq_true rfl) rfl ?_
  refine r_aload_n C 2 508 rfl dL_law_507 rfl ?_
  refine r_aload_n C 0 509 rfl dL_law_508 rfl ?_
  refine r_iload C 5 511 rfl dL_law_509 rfl ?_
  refine r_iconst C 1 rfl 512 rfl dL_law_511 ?_
  refine r_iadd C 513 rfl dL_law_512 ?_
  obtain ⟨i1493, h⟩ := ck_some h
  refine r_sld C hX i1493 514 rfl dL_law_513 ?_
  refine r_aload_n C 0 515 rfl dL_law_514 rfl ?_
  refine r_iload C 5 517 rfl dL_law_515 rfl ?_
  refine r_iconst C 2 rfl 518 rfl dL_law_517 ?_
  refine r_iadd C 519 rfl dL_law_518 ?_
  obtain ⟨i1494, h⟩ := ck_some h
  refine r_sld C hX i1494 520 rfl dL_law_519 ?_
  obtain ⟨y1496, κ1497, e1495, h⟩ := bd2_some h
  refine r_cVi C (st := []) (c_X7_orderSuit ha2 e1495) yv_X7_orderSuit ml_L_187 rfl ha2 rfl ⟨Nat.le_of_ble_eq_true rfl, Nat.le_of_ble_eq_true rfl⟩ ⟨by omega, by omega⟩ (Nat.le_of_ble_eq_true rfl) rfl (k1 + 1) (k2 + 6) rfl rfl 523 rfl dL_law_520 ?_
  refine r_istore C (lv' := [(0, .ref b), (1, .ref a1), (2, .ref a2), (3, .ref a3), (4, .ref a4), (5, .int v5), (6, .int y1491), (7, .int y1496)]) [1, 2, 3, 4, 5, 6, 7, 0] 525 rfl dL_law_523 (Nat.le_of_ble_eq_true rfl) rfl ?_
  refine r_aload_n C 2 526 rfl dL_law_525 rfl ?_
  obtain ⟨y1499, e1498, h⟩ := bd_some h
  refine r_cVi C (st := []) (c_X7_thrown ha2 e1498) yv_X7_thrown ml_L_175 rfl ha2 rfl ⟨Nat.le_of_ble_eq_true rfl, Nat.le_of_ble_eq_true rfl⟩ ⟨by omega, by omega⟩ (Nat.le_of_ble_eq_true rfl) rfl (k1 + 1) (k2 + 6) rfl rfl 529 rfl dL_law_526 ?_
  refine r_iload C 6 531 rfl dL_law_529 rfl ?_
  refine r_icmp_eq C 536 534 rfl dL_law_531 rfl ⟨fun c1500 => ?_, fun c1500 => ?_⟩
  · have h := if_some_t c1500 h
    refine r_iload C 6 538 rfl dL_law_536 rfl ?_
    refine r_if_ne C 553 541 rfl dL_law_538 rfl ⟨fun c1501 => ?_, fun c1501 => ?_⟩
    · have h := if_some_f c1501 h
      refine r_goto C 3082 dL_law_553 rfl ?_
      refine r_lv [0, 1, 2, 3, 4, 5] rfl ?_
      refine r_wd (k1' := (k1 + 52)) (k2' := (k2 + 7248)) (by omega) (by omega) ?_
      exact w_L_law_3082 C hX ha1 ha2 ha3 ha4 hq (k1 := k1) (k2 := k2) (by omega) (by omega) (fun κ u5 h k1a k2a g1 g2 => hK28 κ u5 h k1a k2a (by omega) (by omega)) h
    · have h := if_some_t c1501 h
      refine r_aload_n C 3 542 rfl dL_law_541 rfl ?_
      refine r_iconst C 0 rfl 543 rfl dL_law_542 ?_
      refine r_lald C ha3 (by decide) 544 rfl dL_law_543 ?_
      refine r_iload C 7 546 rfl dL_law_544 rfl ?_
      refine r_i2l C 547 rfl dL_law_546 ?_
      refine r_lcmp C 548 rfl dL_law_547 ?_
      refine r_if_eq C 553 551 rfl dL_law_548 rfl ⟨fun c1502 => ?_, fun c1502 => ?_⟩
      · have h := if_some_t c1502 h
        refine r_goto C 3082 dL_law_553 rfl ?_
        refine r_lv [0, 1, 2, 3, 4, 5] rfl ?_
        refine r_wd (k1' := (k1 + 52)) (k2' := (k2 + 7248)) (by omega) (by omega) ?_
        exact w_L_law_3082 C hX ha1 ha2 ha3 ha4 hq (k1 := k1) (k2 := k2) (by omega) (by omega) (fun κ u5 h k1a k2a g1 g2 => hK28 κ u5 h k1a k2a (by omega) (by omega)) h
      · have h := if_some_f c1502 h
        refine r_iconst C 0 rfl 552 rfl dL_law_551 ?_
        exact absurd (congrArg (fun z => z.1) (Option.some.inj h)) (show ¬ ((0 : Int32) = 1) by decide)
  · have h := if_some_f c1500 h
    refine r_iconst C 0 rfl 535 rfl dL_law_534 ?_
    exact absurd (congrArg (fun z => z.1) (Option.some.inj h)) (show ¬ ((0 : Int32) = 1) by decide)
set_option maxRecDepth 20000 in
theorem w_L_law_556 {F : jFm} (C : jA F RL cL_law 9 2048 603072 7182442 94400) {b L : Nat} {xs : Nat → Int32} (hX : jScr F b L xs) {κ : jKt} {a1 : Nat} (ha1 : jSof F a1 = (1, 10, 11)) {a2 : Nat} (ha2 : jSof F a2 = (1, 11, 22)) {a3 : Nat} (ha3 : jSof F a3 = (2, 3, 1)) {a4 : Nat} (ha4 : jSof F a4 = (2, 4, 1)) {v5 : Int32} {κr : jKt} (hq : ∀ κ k1 k2 lv, κ = κr → k1 ≤ 603072 → k2 ≤ 7182442 → jW F 9 k1 k2 κ 3089 lv [.int 1]) {k1 k2 : Nat} (hk1 : k1 + 52 ≤ 603072) (hk2 : k2 + 7248 ≤ 7182442) {K28 : jKt → Int32 → Option (Int32 × jKt)} (hK28 : ∀ (κ : jKt) (u5 : Int32), K28 κ u5 = some (1, κr) → ∀ k1a k2a, k1a ≤ k1 + 52 → k2a ≤ k2 + 7248 → jW F 9 k1a k2a κ 28 [(0, .ref b), (1, .ref a1), (2, .ref a2), (3, .ref a3), (4, .ref a4), (5, .int u5)] []) (h : P_L_law_556 xs L κ a1 a2 a3 a4 v5 K28 = some (1, κr)) : jW F 9 k1 k2 κ 556 [(0, .ref b), (1, .ref a1), (2, .ref a2), (3, .ref a3), (4, .ref a4), (5, .int v5)] [] := by
  unfold P_L_law_556 at h
  refine r_aload_n C 1 557 rfl dL_law_556 rfl ?_
  refine r_aload_n C 0 558 rfl dL_law_557 rfl ?_
  refine r_iload C 5 560 rfl dL_law_558 rfl ?_
  refine r_iconst C 1 rfl 561 rfl dL_law_560 ?_
  refine r_iadd C 562 rfl dL_law_561 ?_
  obtain ⟨i1503, h⟩ := ck_some h
  refine r_sld C hX i1503 563 rfl dL_law_562 ?_
  refine r_aload_n C 0 564 rfl dL_law_563 rfl ?_
  refine r_iload C 5 566 rfl dL_law_564 rfl ?_
  refine r_iconst C 2 rfl 567 rfl dL_law_566 ?_
  refine r_iadd C 568 rfl dL_law_567 ?_
  obtain ⟨i1504, h⟩ := ck_some h
  refine r_sld C hX i1504 569 rfl dL_law_568 ?_
  refine r_aload_n C 3 570 rfl dL_law_569 rfl ?_
  obtain ⟨y1506, κ1507, e1505, h⟩ := bd2_some h
  refine r_cSh C (st := []) (c_L_cut ha1 ha3 e1505) yv_L_cut ml_L_188 rfl ⟨Nat.le_of_ble_eq_true rfl, Nat.le_of_ble_eq_true rfl⟩ ⟨by omega, by omega⟩ (Nat.le_of_ble_eq_true rfl) rfl (k1 + 1) (k2 + 6) rfl rfl 573 rfl dL_law_570 ?_
  refine r_istore C (lv' := [(0, .ref b), (1, .ref a1), (2, .ref a2), (3, .ref a3), (4, .ref a4), (5, .int v5), (6, .int y1506)]) [1, 2, 3, 4, 5, 6, 0] 575 rfl dL_law_573 (Nat.le_of_ble_eq_true rfl) rfl ?_
  refine r_aload_n C 2 576 rfl dL_law_575 rfl ?_
  refine r_aload_n C 0 577 rfl dL_law_576 rfl ?_
  refine r_iload C 5 579 rfl dL_law_577 rfl ?_
  refine r_iconst C 1 rfl 580 rfl dL_law_579 ?_
  refine r_iadd C 581 rfl dL_law_580 ?_
  obtain ⟨i1508, h⟩ := ck_some h
  refine r_sld C hX i1508 582 rfl dL_law_581 ?_
  refine r_aload_n C 0 583 rfl dL_law_582 rfl ?_
  refine r_iload C 5 585 rfl dL_law_583 rfl ?_
  refine r_iconst C 2 rfl 586 rfl dL_law_585 ?_
  refine r_iadd C 587 rfl dL_law_586 ?_
  obtain ⟨i1509, h⟩ := ck_some h
  refine r_sld C hX i1509 588 rfl dL_law_587 ?_
  obtain ⟨y1511, κ1512, e1510, h⟩ := bd2_some h
  refine r_cVi C (st := []) (c_X7_cut ha2 e1510) yv_X7_cut ml_L_190 rfl ha2 rfl ⟨Nat.le_of_ble_eq_true rfl, Nat.le_of_ble_eq_true rfl⟩ ⟨by omega, by omega⟩ (Nat.le_of_ble_eq_true rfl) rfl (k1 + 1) (k2 + 6) rfl rfl 591 rfl dL_law_588 ?_
  refine r_istore C (lv' := [(0, .ref b), (1, .ref a1), (2, .ref a2), (3, .ref a3), (4, .ref a4), (5, .int v5), (6, .int y1506), (7, .int y1511)]) [1, 2, 3, 4, 5, 6, 7, 0] 593 rfl dL_law_591 (Nat.le_of_ble_eq_true rfl) rfl ?_
  refine r_aload_n C 2 594 rfl dL_law_593 rfl ?_
  obtain ⟨y1514, e1513, h⟩ := bd_some h
  refine r_cVi C (st := []) (c_X7_thrown ha2 e1513) yv_X7_thrown ml_L_175 rfl ha2 rfl ⟨Nat.le_of_ble_eq_true rfl, Nat.le_of_ble_eq_true rfl⟩ ⟨by omega, by omega⟩ (Nat.le_of_ble_eq_true rfl) rfl (k1 + 1) (k2 + 6) rfl rfl 597 rfl dL_law_594 ?_
  refine r_iload C 6 599 rfl dL_law_597 rfl ?_
  refine r_icmp_eq C 604 602 rfl dL_law_599 rfl ⟨fun c1515 => ?_, fun c1515 => ?_⟩
  · have h := if_some_t c1515 h
    refine r_iload C 6 606 rfl dL_law_604 rfl ?_
    refine r_if_ne C 621 609 rfl dL_law_606 rfl ⟨fun c1516 => ?_, fun c1516 => ?_⟩
    · have h := if_some_f c1516 h
      refine r_goto C 3082 dL_law_621 rfl ?_
      refine r_lv [0, 1, 2, 3, 4, 5] rfl ?_
      refine r_wd (k1' := (k1 + 52)) (k2' := (k2 + 7248)) (by omega) (by omega) ?_
      exact w_L_law_3082 C hX ha1 ha2 ha3 ha4 hq (k1 := k1) (k2 := k2) (by omega) (by omega) (fun κ u5 h k1a k2a g1 g2 => hK28 κ u5 h k1a k2a (by omega) (by omega)) h
    · have h := if_some_t c1516 h
      refine r_aload_n C 3 610 rfl dL_law_609 rfl ?_
      refine r_iconst C 0 rfl 611 rfl dL_law_610 ?_
      refine r_lald C ha3 (by decide) 612 rfl dL_law_611 ?_
      refine r_iload C 7 614 rfl dL_law_612 rfl ?_
      refine r_i2l C 615 rfl dL_law_614 ?_
      refine r_lcmp C 616 rfl dL_law_615 ?_
      refine r_if_eq C 621 619 rfl dL_law_616 rfl ⟨fun c1517 => ?_, fun c1517 => ?_⟩
      · have h := if_some_t c1517 h
        refine r_goto C 3082 dL_law_621 rfl ?_
        refine r_lv [0, 1, 2, 3, 4, 5] rfl ?_
        refine r_wd (k1' := (k1 + 52)) (k2' := (k2 + 7248)) (by omega) (by omega) ?_
        exact w_L_law_3082 C hX ha1 ha2 ha3 ha4 hq (k1 := k1) (k2 := k2) (by omega) (by omega) (fun κ u5 h k1a k2a g1 g2 => hK28 κ u5 h k1a k2a (by omega) (by omega)) h
      · have h := if_some_f c1517 h
        refine r_iconst C 0 rfl 620 rfl dL_law_619 ?_
        exact absurd (congrArg (fun z => z.1) (Option.some.inj h)) (show ¬ ((0 : Int32) = 1) by decide)
  · have h := if_some_f c1515 h
    refine r_iconst C 0 rfl 603 rfl dL_law_602 ?_
    exact absurd (congrArg (fun z => z.1) (Option.some.inj h)) (show ¬ ((0 : Int32) = 1) by decide)
set_option maxRecDepth 20000 in
theorem w_L_law_624 {F : jFm} (C : jA F RL cL_law 9 2048 603072 7182442 94400) {b L : Nat} {xs : Nat → Int32} (hX : jScr F b L xs) {κ : jKt} {a1 : Nat} (ha1 : jSof F a1 = (1, 10, 11)) {a2 : Nat} (ha2 : jSof F a2 = (1, 11, 22)) {a3 : Nat} (ha3 : jSof F a3 = (2, 3, 1)) {a4 : Nat} (ha4 : jSof F a4 = (2, 4, 1)) {v5 : Int32} {κr : jKt} (hq : ∀ κ k1 k2 lv, κ = κr → k1 ≤ 603072 → k2 ≤ 7182442 → jW F 9 k1 k2 κ 3089 lv [.int 1]) {k1 k2 : Nat} (hk1 : k1 + 52 ≤ 603072) (hk2 : k2 + 7248 ≤ 7182442) {K28 : jKt → Int32 → Option (Int32 × jKt)} (hK28 : ∀ (κ : jKt) (u5 : Int32), K28 κ u5 = some (1, κr) → ∀ k1a k2a, k1a ≤ k1 + 52 → k2a ≤ k2 + 7248 → jW F 9 k1a k2a κ 28 [(0, .ref b), (1, .ref a1), (2, .ref a2), (3, .ref a3), (4, .ref a4), (5, .int u5)] []) (h : P_L_law_624 xs L κ a1 a2 a3 a4 v5 K28 = some (1, κr)) : jW F 9 k1 k2 κ 624 [(0, .ref b), (1, .ref a1), (2, .ref a2), (3, .ref a3), (4, .ref a4), (5, .int v5)] [] := by
  unfold P_L_law_624 at h
  refine r_aload_n C 1 625 rfl dL_law_624 rfl ?_
  refine r_aload_n C 0 626 rfl dL_law_625 rfl ?_
  refine r_iload C 5 628 rfl dL_law_626 rfl ?_
  refine r_iconst C 1 rfl 629 rfl dL_law_628 ?_
  refine r_iadd C 630 rfl dL_law_629 ?_
  obtain ⟨i1518, h⟩ := ck_some h
  refine r_sld C hX i1518 631 rfl dL_law_630 ?_
  refine r_aload_n C 0 632 rfl dL_law_631 rfl ?_
  refine r_iload C 5 634 rfl dL_law_632 rfl ?_
  refine r_iconst C 2 rfl 635 rfl dL_law_634 ?_
  refine r_iadd C 636 rfl dL_law_635 ?_
  obtain ⟨i1519, h⟩ := ck_some h
  refine r_sld C hX i1519 637 rfl dL_law_636 ?_
  refine r_aload_n C 3 638 rfl dL_law_637 rfl ?_
  obtain ⟨y1521, κ1522, e1520, h⟩ := bd2_some h
  refine r_cSh C (st := []) (c_L_sew ha1 ha3 e1520) yv_L_sew ml_L_191 rfl ⟨Nat.le_of_ble_eq_true rfl, Nat.le_of_ble_eq_true rfl⟩ ⟨by omega, by omega⟩ (Nat.le_of_ble_eq_true rfl) rfl (k1 + 1) (k2 + 6) rfl rfl 641 rfl dL_law_638 ?_
  refine r_istore C (lv' := [(0, .ref b), (1, .ref a1), (2, .ref a2), (3, .ref a3), (4, .ref a4), (5, .int v5), (6, .int y1521)]) [1, 2, 3, 4, 5, 6, 0] 643 rfl dL_law_641 (Nat.le_of_ble_eq_true rfl) rfl ?_
  refine r_aload_n C 2 644 rfl dL_law_643 rfl ?_
  refine r_aload_n C 0 645 rfl dL_law_644 rfl ?_
  refine r_iload C 5 647 rfl dL_law_645 rfl ?_
  refine r_iconst C 1 rfl 648 rfl dL_law_647 ?_
  refine r_iadd C 649 rfl dL_law_648 ?_
  obtain ⟨i1523, h⟩ := ck_some h
  refine r_sld C hX i1523 650 rfl dL_law_649 ?_
  refine r_aload_n C 0 651 rfl dL_law_650 rfl ?_
  refine r_iload C 5 653 rfl dL_law_651 rfl ?_
  refine r_iconst C 2 rfl 654 rfl dL_law_653 ?_
  refine r_iadd C 655 rfl dL_law_654 ?_
  obtain ⟨i1524, h⟩ := ck_some h
  refine r_sld C hX i1524 656 rfl dL_law_655 ?_
  obtain ⟨y1526, κ1527, e1525, h⟩ := bd2_some h
  refine r_cVi C (st := []) (c_X7_sew ha2 e1525) yv_X7_sew ml_L_193 rfl ha2 rfl ⟨Nat.le_of_ble_eq_true rfl, Nat.le_of_ble_eq_true rfl⟩ ⟨by omega, by omega⟩ (Nat.le_of_ble_eq_true rfl) rfl (k1 + 1) (k2 + 6) rfl rfl 659 rfl dL_law_656 ?_
  refine r_istore C (lv' := [(0, .ref b), (1, .ref a1), (2, .ref a2), (3, .ref a3), (4, .ref a4), (5, .int v5), (6, .int y1521), (7, .int y1526)]) [1, 2, 3, 4, 5, 6, 7, 0] 661 rfl dL_law_659 (Nat.le_of_ble_eq_true rfl) rfl ?_
  refine r_aload_n C 2 662 rfl dL_law_661 rfl ?_
  obtain ⟨y1529, e1528, h⟩ := bd_some h
  refine r_cVi C (st := []) (c_X7_thrown ha2 e1528) yv_X7_thrown ml_L_175 rfl ha2 rfl ⟨Nat.le_of_ble_eq_true rfl, Nat.le_of_ble_eq_true rfl⟩ ⟨by omega, by omega⟩ (Nat.le_of_ble_eq_true rfl) rfl (k1 + 1) (k2 + 6) rfl rfl 665 rfl dL_law_662 ?_
  refine r_iload C 6 667 rfl dL_law_665 rfl ?_
  refine r_icmp_eq C 672 670 rfl dL_law_667 rfl ⟨fun c1530 => ?_, fun c1530 => ?_⟩
  · have h := if_some_t c1530 h
    refine r_iload C 6 674 rfl dL_law_672 rfl ?_
    refine r_if_ne C 689 677 rfl dL_law_674 rfl ⟨fun c1531 => ?_, fun c1531 => ?_⟩
    · have h := if_some_f c1531 h
      refine r_goto C 3082 dL_law_689 rfl ?_
      refine r_lv [0, 1, 2, 3, 4, 5] rfl ?_
      refine r_wd (k1' := (k1 + 52)) (k2' := (k2 + 7248)) (by omega) (by omega) ?_
      exact w_L_law_3082 C hX ha1 ha2 ha3 ha4 hq (k1 := k1) (k2 := k2) (by omega) (by omega) (fun κ u5 h k1a k2a g1 g2 => hK28 κ u5 h k1a k2a (by omega) (by omega)) h
    · have h := if_some_t c1531 h
      refine r_aload_n C 3 678 rfl dL_law_677 rfl ?_
      refine r_iconst C 0 rfl 679 rfl dL_law_678 ?_
      refine r_lald C ha3 (by decide) 680 rfl dL_law_679 ?_
      refine r_iload C 7 682 rfl dL_law_680 rfl ?_
      refine r_i2l C 683 rfl dL_law_682 ?_
      refine r_lcmp C 684 rfl dL_law_683 ?_
      refine r_if_eq C 689 687 rfl dL_law_684 rfl ⟨fun c1532 => ?_, fun c1532 => ?_⟩
      · have h := if_some_t c1532 h
        refine r_goto C 3082 dL_law_689 rfl ?_
        refine r_lv [0, 1, 2, 3, 4, 5] rfl ?_
        refine r_wd (k1' := (k1 + 52)) (k2' := (k2 + 7248)) (by omega) (by omega) ?_
        exact w_L_law_3082 C hX ha1 ha2 ha3 ha4 hq (k1 := k1) (k2 := k2) (by omega) (by omega) (fun κ u5 h k1a k2a g1 g2 => hK28 κ u5 h k1a k2a (by omega) (by omega)) h
      · have h := if_some_f c1532 h
        refine r_iconst C 0 rfl 688 rfl dL_law_687 ?_
        exact absurd (congrArg (fun z => z.1) (Option.some.inj h)) (show ¬ ((0 : Int32) = 1) by decide)
  · have h := if_some_f c1530 h
    refine r_iconst C 0 rfl 671 rfl dL_law_670 ?_
    exact absurd (congrArg (fun z => z.1) (Option.some.inj h)) (show ¬ ((0 : Int32) = 1) by decide)
set_option maxRecDepth 20000 in
theorem w_L_law_692 {F : jFm} (C : jA F RL cL_law 9 2048 603072 7182442 94400) {b L : Nat} {xs : Nat → Int32} (hX : jScr F b L xs) {κ : jKt} {a1 : Nat} (ha1 : jSof F a1 = (1, 10, 11)) {a2 : Nat} (ha2 : jSof F a2 = (1, 11, 22)) {a3 : Nat} (ha3 : jSof F a3 = (2, 3, 1)) {a4 : Nat} (ha4 : jSof F a4 = (2, 4, 1)) {v5 : Int32} {κr : jKt} (hq : ∀ κ k1 k2 lv, κ = κr → k1 ≤ 603072 → k2 ≤ 7182442 → jW F 9 k1 k2 κ 3089 lv [.int 1]) {k1 k2 : Nat} (hk1 : k1 + 52 ≤ 603072) (hk2 : k2 + 7248 ≤ 7182442) {K28 : jKt → Int32 → Option (Int32 × jKt)} (hK28 : ∀ (κ : jKt) (u5 : Int32), K28 κ u5 = some (1, κr) → ∀ k1a k2a, k1a ≤ k1 + 52 → k2a ≤ k2 + 7248 → jW F 9 k1a k2a κ 28 [(0, .ref b), (1, .ref a1), (2, .ref a2), (3, .ref a3), (4, .ref a4), (5, .int u5)] []) (h : P_L_law_692 xs L κ a1 a2 a3 a4 v5 K28 = some (1, κr)) : jW F 9 k1 k2 κ 692 [(0, .ref b), (1, .ref a1), (2, .ref a2), (3, .ref a3), (4, .ref a4), (5, .int v5)] [] := by
  unfold P_L_law_692 at h
  refine r_aload_n C 1 693 rfl dL_law_692 rfl ?_
  refine r_aload_n C 0 694 rfl dL_law_693 rfl ?_
  refine r_iload C 5 696 rfl dL_law_694 rfl ?_
  refine r_iconst C 1 rfl 697 rfl dL_law_696 ?_
  refine r_iadd C 698 rfl dL_law_697 ?_
  obtain ⟨i1533, h⟩ := ck_some h
  refine r_sld C hX i1533 699 rfl dL_law_698 ?_
  refine r_aload_n C 0 700 rfl dL_law_699 rfl ?_
  refine r_iload C 5 702 rfl dL_law_700 rfl ?_
  refine r_iconst C 2 rfl 703 rfl dL_law_702 ?_
  refine r_iadd C 704 rfl dL_law_703 ?_
  obtain ⟨i1534, h⟩ := ck_some h
  refine r_sld C hX i1534 705 rfl dL_law_704 ?_
  refine r_aload_n C 3 706 rfl dL_law_705 rfl ?_
  obtain ⟨y1536, κ1537, e1535, h⟩ := bd2_some h
  refine r_cSh C (st := []) (c_L_unpick ha1 ha3 e1535) yv_L_unpick ml_L_194 rfl ⟨Nat.le_of_ble_eq_true rfl, Nat.le_of_ble_eq_true rfl⟩ ⟨by omega, by omega⟩ (Nat.le_of_ble_eq_true rfl) rfl (k1 + 1) (k2 + 6) rfl rfl 709 rfl dL_law_706 ?_
  refine r_istore C (lv' := [(0, .ref b), (1, .ref a1), (2, .ref a2), (3, .ref a3), (4, .ref a4), (5, .int v5), (6, .int y1536)]) [1, 2, 3, 4, 5, 6, 0] 711 rfl dL_law_709 (Nat.le_of_ble_eq_true rfl) rfl ?_
  refine r_aload_n C 2 712 rfl dL_law_711 rfl ?_
  refine r_aload_n C 0 713 rfl dL_law_712 rfl ?_
  refine r_iload C 5 715 rfl dL_law_713 rfl ?_
  refine r_iconst C 1 rfl 716 rfl dL_law_715 ?_
  refine r_iadd C 717 rfl dL_law_716 ?_
  obtain ⟨i1538, h⟩ := ck_some h
  refine r_sld C hX i1538 718 rfl dL_law_717 ?_
  refine r_aload_n C 0 719 rfl dL_law_718 rfl ?_
  refine r_iload C 5 721 rfl dL_law_719 rfl ?_
  refine r_iconst C 2 rfl 722 rfl dL_law_721 ?_
  refine r_iadd C 723 rfl dL_law_722 ?_
  obtain ⟨i1539, h⟩ := ck_some h
  refine r_sld C hX i1539 724 rfl dL_law_723 ?_
  obtain ⟨y1541, κ1542, e1540, h⟩ := bd2_some h
  refine r_cVi C (st := []) (c_X7_unpick ha2 e1540) yv_X7_unpick ml_L_196 rfl ha2 rfl ⟨Nat.le_of_ble_eq_true rfl, Nat.le_of_ble_eq_true rfl⟩ ⟨by omega, by omega⟩ (Nat.le_of_ble_eq_true rfl) rfl (k1 + 1) (k2 + 6) rfl rfl 727 rfl dL_law_724 ?_
  refine r_istore C (lv' := [(0, .ref b), (1, .ref a1), (2, .ref a2), (3, .ref a3), (4, .ref a4), (5, .int v5), (6, .int y1536), (7, .int y1541)]) [1, 2, 3, 4, 5, 6, 7, 0] 729 rfl dL_law_727 (Nat.le_of_ble_eq_true rfl) rfl ?_
  refine r_aload_n C 2 730 rfl dL_law_729 rfl ?_
  obtain ⟨y1544, e1543, h⟩ := bd_some h
  refine r_cVi C (st := []) (c_X7_thrown ha2 e1543) yv_X7_thrown ml_L_175 rfl ha2 rfl ⟨Nat.le_of_ble_eq_true rfl, Nat.le_of_ble_eq_true rfl⟩ ⟨by omega, by omega⟩ (Nat.le_of_ble_eq_true rfl) rfl (k1 + 1) (k2 + 6) rfl rfl 733 rfl dL_law_730 ?_
  refine r_iload C 6 735 rfl dL_law_733 rfl ?_
  refine r_icmp_eq C 740 738 rfl dL_law_735 rfl ⟨fun c1545 => ?_, fun c1545 => ?_⟩
  · have h := if_some_t c1545 h
    refine r_iload C 6 742 rfl dL_law_740 rfl ?_
    refine r_if_ne C 757 745 rfl dL_law_742 rfl ⟨fun c1546 => ?_, fun c1546 => ?_⟩
    · have h := if_some_f c1546 h
      refine r_goto C 3082 dL_law_757 rfl ?_
      refine r_lv [0, 1, 2, 3, 4, 5] rfl ?_
      refine r_wd (k1' := (k1 + 52)) (k2' := (k2 + 7248)) (by omega) (by omega) ?_
      exact w_L_law_3082 C hX ha1 ha2 ha3 ha4 hq (k1 := k1) (k2 := k2) (by omega) (by omega) (fun κ u5 h k1a k2a g1 g2 => hK28 κ u5 h k1a k2a (by omega) (by omega)) h
    · have h := if_some_t c1546 h
      refine r_aload_n C 3 746 rfl dL_law_745 rfl ?_
      refine r_iconst C 0 rfl 747 rfl dL_law_746 ?_
      refine r_lald C ha3 (by decide) 748 rfl dL_law_747 ?_
      refine r_iload C 7 750 rfl dL_law_748 rfl ?_
      refine r_i2l C 751 rfl dL_law_750 ?_
      refine r_lcmp C 752 rfl dL_law_751 ?_
      refine r_if_eq C 757 755 rfl dL_law_752 rfl ⟨fun c1547 => ?_, fun c1547 => ?_⟩
      · have h := if_some_t c1547 h
        refine r_goto C 3082 dL_law_757 rfl ?_
        refine r_lv [0, 1, 2, 3, 4, 5] rfl ?_
        refine r_wd (k1' := (k1 + 52)) (k2' := (k2 + 7248)) (by omega) (by omega) ?_
        exact w_L_law_3082 C hX ha1 ha2 ha3 ha4 hq (k1 := k1) (k2 := k2) (by omega) (by omega) (fun κ u5 h k1a k2a g1 g2 => hK28 κ u5 h k1a k2a (by omega) (by omega)) h
      · have h := if_some_f c1547 h
        refine r_iconst C 0 rfl 756 rfl dL_law_755 ?_
        exact absurd (congrArg (fun z => z.1) (Option.some.inj h)) (show ¬ ((0 : Int32) = 1) by decide)
  · have h := if_some_f c1545 h
    refine r_iconst C 0 rfl 739 rfl dL_law_738 ?_
    exact absurd (congrArg (fun z => z.1) (Option.some.inj h)) (show ¬ ((0 : Int32) = 1) by decide)
set_option maxRecDepth 20000 in
theorem w_L_law_760 {F : jFm} (C : jA F RL cL_law 9 2048 603072 7182442 94400) {b L : Nat} {xs : Nat → Int32} (hX : jScr F b L xs) {κ : jKt} {a1 : Nat} (ha1 : jSof F a1 = (1, 10, 11)) {a2 : Nat} (ha2 : jSof F a2 = (1, 11, 22)) {a3 : Nat} (ha3 : jSof F a3 = (2, 3, 1)) {a4 : Nat} (ha4 : jSof F a4 = (2, 4, 1)) {v5 : Int32} {κr : jKt} (hq : ∀ κ k1 k2 lv, κ = κr → k1 ≤ 603072 → k2 ≤ 7182442 → jW F 9 k1 k2 κ 3089 lv [.int 1]) {k1 k2 : Nat} (hk1 : k1 + 52 ≤ 603072) (hk2 : k2 + 7248 ≤ 7182442) {K28 : jKt → Int32 → Option (Int32 × jKt)} (hK28 : ∀ (κ : jKt) (u5 : Int32), K28 κ u5 = some (1, κr) → ∀ k1a k2a, k1a ≤ k1 + 52 → k2a ≤ k2 + 7248 → jW F 9 k1a k2a κ 28 [(0, .ref b), (1, .ref a1), (2, .ref a2), (3, .ref a3), (4, .ref a4), (5, .int u5)] []) (h : P_L_law_760 xs L κ a1 a2 a3 a4 v5 K28 = some (1, κr)) : jW F 9 k1 k2 κ 760 [(0, .ref b), (1, .ref a1), (2, .ref a2), (3, .ref a3), (4, .ref a4), (5, .int v5)] [] := by
  unfold P_L_law_760 at h
  refine r_aload_n C 1 761 rfl dL_law_760 rfl ?_
  refine r_aload_n C 0 762 rfl dL_law_761 rfl ?_
  refine r_iload C 5 764 rfl dL_law_762 rfl ?_
  refine r_iconst C 1 rfl 765 rfl dL_law_764 ?_
  refine r_iadd C 766 rfl dL_law_765 ?_
  obtain ⟨i1548, h⟩ := ck_some h
  refine r_sld C hX i1548 767 rfl dL_law_766 ?_
  refine r_aload_n C 0 768 rfl dL_law_767 rfl ?_
  refine r_iload C 5 770 rfl dL_law_768 rfl ?_
  refine r_iconst C 2 rfl 771 rfl dL_law_770 ?_
  refine r_iadd C 772 rfl dL_law_771 ?_
  obtain ⟨i1549, h⟩ := ck_some h
  refine r_sld C hX i1549 773 rfl dL_law_772 ?_
  refine r_aload_n C 0 774 rfl dL_law_773 rfl ?_
  refine r_iload C 5 776 rfl dL_law_774 rfl ?_
  refine r_iconst C 3 rfl 777 rfl dL_law_776 ?_
  refine r_iadd C 778 rfl dL_law_777 ?_
  obtain ⟨i1550, h⟩ := ck_some h
  refine r_sld C hX i1550 779 rfl dL_law_778 ?_
  refine r_aload_n C 3 780 rfl dL_law_779 rfl ?_
  obtain ⟨y1552, κ1553, e1551, h⟩ := bd2_some h
  refine r_cSh C (st := []) (c_L_demand ha1 ha3 e1551) yv_L_demand ml_L_197 rfl ⟨Nat.le_of_ble_eq_true rfl, Nat.le_of_ble_eq_true rfl⟩ ⟨by omega, by omega⟩ (Nat.le_of_ble_eq_true rfl) rfl (k1 + 1) (k2 + 6) rfl rfl 783 rfl dL_law_780 ?_
  refine r_istore C (lv' := [(0, .ref b), (1, .ref a1), (2, .ref a2), (3, .ref a3), (4, .ref a4), (5, .int v5), (6, .int y1552)]) [1, 2, 3, 4, 5, 6, 0] 785 rfl dL_law_783 (Nat.le_of_ble_eq_true rfl) rfl ?_
  refine r_aload_n C 2 786 rfl dL_law_785 rfl ?_
  refine r_aload_n C 0 787 rfl dL_law_786 rfl ?_
  refine r_iload C 5 789 rfl dL_law_787 rfl ?_
  refine r_iconst C 1 rfl 790 rfl dL_law_789 ?_
  refine r_iadd C 791 rfl dL_law_790 ?_
  obtain ⟨i1554, h⟩ := ck_some h
  refine r_sld C hX i1554 792 rfl dL_law_791 ?_
  refine r_aload_n C 0 793 rfl dL_law_792 rfl ?_
  refine r_iload C 5 795 rfl dL_law_793 rfl ?_
  refine r_iconst C 2 rfl 796 rfl dL_law_795 ?_
  refine r_iadd C 797 rfl dL_law_796 ?_
  obtain ⟨i1555, h⟩ := ck_some h
  refine r_sld C hX i1555 798 rfl dL_law_797 ?_
  refine r_aload_n C 0 799 rfl dL_law_798 rfl ?_
  refine r_iload C 5 801 rfl dL_law_799 rfl ?_
  refine r_iconst C 3 rfl 802 rfl dL_law_801 ?_
  refine r_iadd C 803 rfl dL_law_802 ?_
  obtain ⟨i1556, h⟩ := ck_some h
  refine r_sld C hX i1556 804 rfl dL_law_803 ?_
  obtain ⟨y1558, κ1559, e1557, h⟩ := bd2_some h
  refine r_cVi C (st := []) (c_X7_demand ha2 e1557) yv_X7_demand ml_L_199 rfl ha2 rfl ⟨Nat.le_of_ble_eq_true rfl, Nat.le_of_ble_eq_true rfl⟩ ⟨by omega, by omega⟩ (Nat.le_of_ble_eq_true rfl) rfl (k1 + 1) (k2 + 6) rfl rfl 807 rfl dL_law_804 ?_
  refine r_istore C (lv' := [(0, .ref b), (1, .ref a1), (2, .ref a2), (3, .ref a3), (4, .ref a4), (5, .int v5), (6, .int y1552), (7, .int y1558)]) [1, 2, 3, 4, 5, 6, 7, 0] 809 rfl dL_law_807 (Nat.le_of_ble_eq_true rfl) rfl ?_
  refine r_aload_n C 2 810 rfl dL_law_809 rfl ?_
  obtain ⟨y1561, e1560, h⟩ := bd_some h
  refine r_cVi C (st := []) (c_X7_thrown ha2 e1560) yv_X7_thrown ml_L_175 rfl ha2 rfl ⟨Nat.le_of_ble_eq_true rfl, Nat.le_of_ble_eq_true rfl⟩ ⟨by omega, by omega⟩ (Nat.le_of_ble_eq_true rfl) rfl (k1 + 1) (k2 + 6) rfl rfl 813 rfl dL_law_810 ?_
  refine r_iload C 6 815 rfl dL_law_813 rfl ?_
  refine r_icmp_eq C 820 818 rfl dL_law_815 rfl ⟨fun c1562 => ?_, fun c1562 => ?_⟩
  · have h := if_some_t c1562 h
    refine r_iload C 6 822 rfl dL_law_820 rfl ?_
    refine r_if_ne C 837 825 rfl dL_law_822 rfl ⟨fun c1563 => ?_, fun c1563 => ?_⟩
    · have h := if_some_f c1563 h
      refine r_goto C 3082 dL_law_837 rfl ?_
      refine r_lv [0, 1, 2, 3, 4, 5] rfl ?_
      refine r_wd (k1' := (k1 + 52)) (k2' := (k2 + 7248)) (by omega) (by omega) ?_
      exact w_L_law_3082 C hX ha1 ha2 ha3 ha4 hq (k1 := k1) (k2 := k2) (by omega) (by omega) (fun κ u5 h k1a k2a g1 g2 => hK28 κ u5 h k1a k2a (by omega) (by omega)) h
    · have h := if_some_t c1563 h
      refine r_aload_n C 3 826 rfl dL_law_825 rfl ?_
      refine r_iconst C 0 rfl 827 rfl dL_law_826 ?_
      refine r_lald C ha3 (by decide) 828 rfl dL_law_827 ?_
      refine r_iload C 7 830 rfl dL_law_828 rfl ?_
      refine r_i2l C 831 rfl dL_law_830 ?_
      refine r_lcmp C 832 rfl dL_law_831 ?_
      refine r_if_eq C 837 835 rfl dL_law_832 rfl ⟨fun c1564 => ?_, fun c1564 => ?_⟩
      · have h := if_some_t c1564 h
        refine r_goto C 3082 dL_law_837 rfl ?_
        refine r_lv [0, 1, 2, 3, 4, 5] rfl ?_
        refine r_wd (k1' := (k1 + 52)) (k2' := (k2 + 7248)) (by omega) (by omega) ?_
        exact w_L_law_3082 C hX ha1 ha2 ha3 ha4 hq (k1 := k1) (k2 := k2) (by omega) (by omega) (fun κ u5 h k1a k2a g1 g2 => hK28 κ u5 h k1a k2a (by omega) (by omega)) h
      · have h := if_some_f c1564 h
        refine r_iconst C 0 rfl 836 rfl dL_law_835 ?_
        exact absurd (congrArg (fun z => z.1) (Option.some.inj h)) (show ¬ ((0 : Int32) = 1) by decide)
  · have h := if_some_f c1562 h
    refine r_iconst C 0 rfl 819 rfl dL_law_818 ?_
    exact absurd (congrArg (fun z => z.1) (Option.some.inj h)) (show ¬ ((0 : Int32) = 1) by decide)
set_option maxRecDepth 20000 in
theorem w_L_law_840 {F : jFm} (C : jA F RL cL_law 9 2048 603072 7182442 94400) {b L : Nat} {xs : Nat → Int32} (hX : jScr F b L xs) {κ : jKt} {a1 : Nat} (ha1 : jSof F a1 = (1, 10, 11)) {a2 : Nat} (ha2 : jSof F a2 = (1, 11, 22)) {a3 : Nat} (ha3 : jSof F a3 = (2, 3, 1)) {a4 : Nat} (ha4 : jSof F a4 = (2, 4, 1)) {v5 : Int32} {κr : jKt} (hq : ∀ κ k1 k2 lv, κ = κr → k1 ≤ 603072 → k2 ≤ 7182442 → jW F 9 k1 k2 κ 3089 lv [.int 1]) {k1 k2 : Nat} (hk1 : k1 + 52 ≤ 603072) (hk2 : k2 + 7248 ≤ 7182442) {K28 : jKt → Int32 → Option (Int32 × jKt)} (hK28 : ∀ (κ : jKt) (u5 : Int32), K28 κ u5 = some (1, κr) → ∀ k1a k2a, k1a ≤ k1 + 52 → k2a ≤ k2 + 7248 → jW F 9 k1a k2a κ 28 [(0, .ref b), (1, .ref a1), (2, .ref a2), (3, .ref a3), (4, .ref a4), (5, .int u5)] []) (h : P_L_law_840 xs L κ a1 a2 a3 a4 v5 K28 = some (1, κr)) : jW F 9 k1 k2 κ 840 [(0, .ref b), (1, .ref a1), (2, .ref a2), (3, .ref a3), (4, .ref a4), (5, .int v5)] [] := by
  unfold P_L_law_840 at h
  refine r_aload_n C 1 841 rfl dL_law_840 rfl ?_
  refine r_aload_n C 0 842 rfl dL_law_841 rfl ?_
  refine r_iload C 5 844 rfl dL_law_842 rfl ?_
  refine r_iconst C 1 rfl 845 rfl dL_law_844 ?_
  refine r_iadd C 846 rfl dL_law_845 ?_
  obtain ⟨i1565, h⟩ := ck_some h
  refine r_sld C hX i1565 847 rfl dL_law_846 ?_
  refine r_aload_n C 3 848 rfl dL_law_847 rfl ?_
  obtain ⟨y1567, κ1568, e1566, h⟩ := bd2_some h
  refine r_cSh C (st := []) (c_L_deliver ha1 ha3 e1566) yv_L_deliver ml_L_200 rfl ⟨Nat.le_of_ble_eq_true rfl, Nat.le_of_ble_eq_true rfl⟩ ⟨by omega, by omega⟩ (Nat.le_of_ble_eq_true rfl) rfl (k1 + 1) (k2 + 6) rfl rfl 851 rfl dL_law_848 ?_
  refine r_istore C (lv' := [(0, .ref b), (1, .ref a1), (2, .ref a2), (3, .ref a3), (4, .ref a4), (5, .int v5), (6, .int y1567)]) [1, 2, 3, 4, 5, 6, 0] 853 rfl dL_law_851 (Nat.le_of_ble_eq_true rfl) rfl ?_
  refine r_aload_n C 2 854 rfl dL_law_853 rfl ?_
  refine r_aload_n C 0 855 rfl dL_law_854 rfl ?_
  refine r_iload C 5 857 rfl dL_law_855 rfl ?_
  refine r_iconst C 1 rfl 858 rfl dL_law_857 ?_
  refine r_iadd C 859 rfl dL_law_858 ?_
  obtain ⟨i1569, h⟩ := ck_some h
  refine r_sld C hX i1569 860 rfl dL_law_859 ?_
  obtain ⟨y1571, κ1572, e1570, h⟩ := bd2_some h
  refine r_cVi C (st := []) (c_X7_deliver ha2 e1570) yv_X7_deliver ml_L_203 rfl ha2 rfl ⟨Nat.le_of_ble_eq_true rfl, Nat.le_of_ble_eq_true rfl⟩ ⟨by omega, by omega⟩ (Nat.le_of_ble_eq_true rfl) rfl (k1 + 1) (k2 + 6) rfl rfl 863 rfl dL_law_860 ?_
  refine r_istore C (lv' := [(0, .ref b), (1, .ref a1), (2, .ref a2), (3, .ref a3), (4, .ref a4), (5, .int v5), (6, .int y1567), (7, .int y1571)]) [1, 2, 3, 4, 5, 6, 7, 0] 865 rfl dL_law_863 (Nat.le_of_ble_eq_true rfl) rfl ?_
  refine r_aload_n C 2 866 rfl dL_law_865 rfl ?_
  obtain ⟨y1574, e1573, h⟩ := bd_some h
  refine r_cVi C (st := []) (c_X7_thrown ha2 e1573) yv_X7_thrown ml_L_175 rfl ha2 rfl ⟨Nat.le_of_ble_eq_true rfl, Nat.le_of_ble_eq_true rfl⟩ ⟨by omega, by omega⟩ (Nat.le_of_ble_eq_true rfl) rfl (k1 + 1) (k2 + 6) rfl rfl 869 rfl dL_law_866 ?_
  refine r_iload C 6 871 rfl dL_law_869 rfl ?_
  refine r_icmp_eq C 876 874 rfl dL_law_871 rfl ⟨fun c1575 => ?_, fun c1575 => ?_⟩
  · have h := if_some_t c1575 h
    refine r_iload C 6 878 rfl dL_law_876 rfl ?_
    refine r_if_ne C 893 881 rfl dL_law_878 rfl ⟨fun c1576 => ?_, fun c1576 => ?_⟩
    · have h := if_some_f c1576 h
      refine r_goto C 3082 dL_law_893 rfl ?_
      refine r_lv [0, 1, 2, 3, 4, 5] rfl ?_
      refine r_wd (k1' := (k1 + 52)) (k2' := (k2 + 7248)) (by omega) (by omega) ?_
      exact w_L_law_3082 C hX ha1 ha2 ha3 ha4 hq (k1 := k1) (k2 := k2) (by omega) (by omega) (fun κ u5 h k1a k2a g1 g2 => hK28 κ u5 h k1a k2a (by omega) (by omega)) h
    · have h := if_some_t c1576 h
      refine r_aload_n C 3 882 rfl dL_law_881 rfl ?_
      refine r_iconst C 0 rfl 883 rfl dL_law_882 ?_
      refine r_lald C ha3 (by decide) 884 rfl dL_law_883 ?_
      refine r_iload C 7 886 rfl dL_law_884 rfl ?_
      refine r_i2l C 887 rfl dL_law_886 ?_
      refine r_lcmp C 888 rfl dL_law_887 ?_
      refine r_if_eq C 893 891 rfl dL_law_888 rfl ⟨fun c1577 => ?_, fun c1577 => ?_⟩
      · have h := if_some_t c1577 h
        refine r_goto C 3082 dL_law_893 rfl ?_
        refine r_lv [0, 1, 2, 3, 4, 5] rfl ?_
        refine r_wd (k1' := (k1 + 52)) (k2' := (k2 + 7248)) (by omega) (by omega) ?_
        exact w_L_law_3082 C hX ha1 ha2 ha3 ha4 hq (k1 := k1) (k2 := k2) (by omega) (by omega) (fun κ u5 h k1a k2a g1 g2 => hK28 κ u5 h k1a k2a (by omega) (by omega)) h
      · have h := if_some_f c1577 h
        refine r_iconst C 0 rfl 892 rfl dL_law_891 ?_
        exact absurd (congrArg (fun z => z.1) (Option.some.inj h)) (show ¬ ((0 : Int32) = 1) by decide)
  · have h := if_some_f c1575 h
    refine r_iconst C 0 rfl 875 rfl dL_law_874 ?_
    exact absurd (congrArg (fun z => z.1) (Option.some.inj h)) (show ¬ ((0 : Int32) = 1) by decide)
set_option maxRecDepth 20000 in
theorem w_L_law_896 {F : jFm} (C : jA F RL cL_law 9 2048 603072 7182442 94400) {b L : Nat} {xs : Nat → Int32} (hX : jScr F b L xs) {κ : jKt} {a1 : Nat} (ha1 : jSof F a1 = (1, 10, 11)) {a2 : Nat} (ha2 : jSof F a2 = (1, 11, 22)) {a3 : Nat} (ha3 : jSof F a3 = (2, 3, 1)) {a4 : Nat} (ha4 : jSof F a4 = (2, 4, 1)) {v5 : Int32} {κr : jKt} (hq : ∀ κ k1 k2 lv, κ = κr → k1 ≤ 603072 → k2 ≤ 7182442 → jW F 9 k1 k2 κ 3089 lv [.int 1]) {k1 k2 : Nat} (hk1 : k1 + 52 ≤ 603072) (hk2 : k2 + 7248 ≤ 7182442) {K28 : jKt → Int32 → Option (Int32 × jKt)} (hK28 : ∀ (κ : jKt) (u5 : Int32), K28 κ u5 = some (1, κr) → ∀ k1a k2a, k1a ≤ k1 + 52 → k2a ≤ k2 + 7248 → jW F 9 k1a k2a κ 28 [(0, .ref b), (1, .ref a1), (2, .ref a2), (3, .ref a3), (4, .ref a4), (5, .int u5)] []) (h : P_L_law_896 xs L κ a1 a2 a3 a4 v5 K28 = some (1, κr)) : jW F 9 k1 k2 κ 896 [(0, .ref b), (1, .ref a1), (2, .ref a2), (3, .ref a3), (4, .ref a4), (5, .int v5)] [] := by
  unfold P_L_law_896 at h
  refine r_aload_n C 1 897 rfl dL_law_896 rfl ?_
  refine r_aload_n C 0 898 rfl dL_law_897 rfl ?_
  refine r_iload C 5 900 rfl dL_law_898 rfl ?_
  refine r_iconst C 1 rfl 901 rfl dL_law_900 ?_
  refine r_iadd C 902 rfl dL_law_901 ?_
  obtain ⟨i1578, h⟩ := ck_some h
  refine r_sld C hX i1578 903 rfl dL_law_902 ?_
  refine r_aload_n C 3 904 rfl dL_law_903 rfl ?_
  obtain ⟨y1580, κ1581, e1579, h⟩ := bd2_some h
  refine r_cSh C (st := []) (c_L_scrap ha1 ha3 e1579) yv_L_scrap ml_L_204 rfl ⟨Nat.le_of_ble_eq_true rfl, Nat.le_of_ble_eq_true rfl⟩ ⟨by omega, by omega⟩ (Nat.le_of_ble_eq_true rfl) rfl (k1 + 1) (k2 + 6) rfl rfl 907 rfl dL_law_904 ?_
  refine r_istore C (lv' := [(0, .ref b), (1, .ref a1), (2, .ref a2), (3, .ref a3), (4, .ref a4), (5, .int v5), (6, .int y1580)]) [1, 2, 3, 4, 5, 6, 0] 909 rfl dL_law_907 (Nat.le_of_ble_eq_true rfl) rfl ?_
  refine r_aload_n C 2 910 rfl dL_law_909 rfl ?_
  refine r_aload_n C 0 911 rfl dL_law_910 rfl ?_
  refine r_iload C 5 913 rfl dL_law_911 rfl ?_
  refine r_iconst C 1 rfl 914 rfl dL_law_913 ?_
  refine r_iadd C 915 rfl dL_law_914 ?_
  obtain ⟨i1582, h⟩ := ck_some h
  refine r_sld C hX i1582 916 rfl dL_law_915 ?_
  obtain ⟨y1584, κ1585, e1583, h⟩ := bd2_some h
  refine r_cVi C (st := []) (c_X7_scrap ha2 e1583) yv_X7_scrap ml_L_206 rfl ha2 rfl ⟨Nat.le_of_ble_eq_true rfl, Nat.le_of_ble_eq_true rfl⟩ ⟨by omega, by omega⟩ (Nat.le_of_ble_eq_true rfl) rfl (k1 + 1) (k2 + 6) rfl rfl 919 rfl dL_law_916 ?_
  refine r_istore C (lv' := [(0, .ref b), (1, .ref a1), (2, .ref a2), (3, .ref a3), (4, .ref a4), (5, .int v5), (6, .int y1580), (7, .int y1584)]) [1, 2, 3, 4, 5, 6, 7, 0] 921 rfl dL_law_919 (Nat.le_of_ble_eq_true rfl) rfl ?_
  refine r_aload_n C 2 922 rfl dL_law_921 rfl ?_
  obtain ⟨y1587, e1586, h⟩ := bd_some h
  refine r_cVi C (st := []) (c_X7_thrown ha2 e1586) yv_X7_thrown ml_L_175 rfl ha2 rfl ⟨Nat.le_of_ble_eq_true rfl, Nat.le_of_ble_eq_true rfl⟩ ⟨by omega, by omega⟩ (Nat.le_of_ble_eq_true rfl) rfl (k1 + 1) (k2 + 6) rfl rfl 925 rfl dL_law_922 ?_
  refine r_iload C 6 927 rfl dL_law_925 rfl ?_
  refine r_icmp_eq C 932 930 rfl dL_law_927 rfl ⟨fun c1588 => ?_, fun c1588 => ?_⟩
  · have h := if_some_t c1588 h
    refine r_iload C 6 934 rfl dL_law_932 rfl ?_
    refine r_if_ne C 949 937 rfl dL_law_934 rfl ⟨fun c1589 => ?_, fun c1589 => ?_⟩
    · have h := if_some_f c1589 h
      refine r_goto C 3082 dL_law_949 rfl ?_
      refine r_lv [0, 1, 2, 3, 4, 5] rfl ?_
      refine r_wd (k1' := (k1 + 52)) (k2' := (k2 + 7248)) (by omega) (by omega) ?_
      exact w_L_law_3082 C hX ha1 ha2 ha3 ha4 hq (k1 := k1) (k2 := k2) (by omega) (by omega) (fun κ u5 h k1a k2a g1 g2 => hK28 κ u5 h k1a k2a (by omega) (by omega)) h
    · have h := if_some_t c1589 h
      refine r_aload_n C 3 938 rfl dL_law_937 rfl ?_
      refine r_iconst C 0 rfl 939 rfl dL_law_938 ?_
      refine r_lald C ha3 (by decide) 940 rfl dL_law_939 ?_
      refine r_iload C 7 942 rfl dL_law_940 rfl ?_
      refine r_i2l C 943 rfl dL_law_942 ?_
      refine r_lcmp C 944 rfl dL_law_943 ?_
      refine r_if_eq C 949 947 rfl dL_law_944 rfl ⟨fun c1590 => ?_, fun c1590 => ?_⟩
      · have h := if_some_t c1590 h
        refine r_goto C 3082 dL_law_949 rfl ?_
        refine r_lv [0, 1, 2, 3, 4, 5] rfl ?_
        refine r_wd (k1' := (k1 + 52)) (k2' := (k2 + 7248)) (by omega) (by omega) ?_
        exact w_L_law_3082 C hX ha1 ha2 ha3 ha4 hq (k1 := k1) (k2 := k2) (by omega) (by omega) (fun κ u5 h k1a k2a g1 g2 => hK28 κ u5 h k1a k2a (by omega) (by omega)) h
      · have h := if_some_f c1590 h
        refine r_iconst C 0 rfl 948 rfl dL_law_947 ?_
        exact absurd (congrArg (fun z => z.1) (Option.some.inj h)) (show ¬ ((0 : Int32) = 1) by decide)
  · have h := if_some_f c1588 h
    refine r_iconst C 0 rfl 931 rfl dL_law_930 ?_
    exact absurd (congrArg (fun z => z.1) (Option.some.inj h)) (show ¬ ((0 : Int32) = 1) by decide)
set_option maxRecDepth 20000 in
theorem w_L_law_952 {F : jFm} (C : jA F RL cL_law 9 2048 603072 7182442 94400) {b L : Nat} {xs : Nat → Int32} (hX : jScr F b L xs) {κ : jKt} {a1 : Nat} (ha1 : jSof F a1 = (1, 10, 11)) {a2 : Nat} (ha2 : jSof F a2 = (1, 11, 22)) {a3 : Nat} (ha3 : jSof F a3 = (2, 3, 1)) {a4 : Nat} (ha4 : jSof F a4 = (2, 4, 1)) {v5 : Int32} {κr : jKt} (hq : ∀ κ k1 k2 lv, κ = κr → k1 ≤ 603072 → k2 ≤ 7182442 → jW F 9 k1 k2 κ 3089 lv [.int 1]) {k1 k2 : Nat} (hk1 : k1 + 52 ≤ 603072) (hk2 : k2 + 7248 ≤ 7182442) {K28 : jKt → Int32 → Option (Int32 × jKt)} (hK28 : ∀ (κ : jKt) (u5 : Int32), K28 κ u5 = some (1, κr) → ∀ k1a k2a, k1a ≤ k1 + 52 → k2a ≤ k2 + 7248 → jW F 9 k1a k2a κ 28 [(0, .ref b), (1, .ref a1), (2, .ref a2), (3, .ref a3), (4, .ref a4), (5, .int u5)] []) (h : P_L_law_952 xs L κ a1 a2 a3 a4 v5 K28 = some (1, κr)) : jW F 9 k1 k2 κ 952 [(0, .ref b), (1, .ref a1), (2, .ref a2), (3, .ref a3), (4, .ref a4), (5, .int v5)] [] := by
  unfold P_L_law_952 at h
  refine r_aload_n C 1 953 rfl dL_law_952 rfl ?_
  refine r_aload_n C 0 954 rfl dL_law_953 rfl ?_
  refine r_iload C 5 956 rfl dL_law_954 rfl ?_
  refine r_iconst C 1 rfl 957 rfl dL_law_956 ?_
  refine r_iadd C 958 rfl dL_law_957 ?_
  obtain ⟨i1591, h⟩ := ck_some h
  refine r_sld C hX i1591 959 rfl dL_law_958 ?_
  refine r_aload_n C 3 960 rfl dL_law_959 rfl ?_
  obtain ⟨y1593, κ1594, e1592, h⟩ := bd2_some h
  refine r_cSh C (st := []) (c_L_stock ha1 ha3 e1592) yv_L_stock ml_L_207 rfl ⟨Nat.le_of_ble_eq_true rfl, Nat.le_of_ble_eq_true rfl⟩ ⟨by omega, by omega⟩ (Nat.le_of_ble_eq_true rfl) rfl (k1 + 1) (k2 + 6) rfl rfl 963 rfl dL_law_960 ?_
  refine r_istore C (lv' := [(0, .ref b), (1, .ref a1), (2, .ref a2), (3, .ref a3), (4, .ref a4), (5, .int v5), (6, .int y1593)]) [1, 2, 3, 4, 5, 6, 0] 965 rfl dL_law_963 (Nat.le_of_ble_eq_true rfl) rfl ?_
  refine r_aload_n C 2 966 rfl dL_law_965 rfl ?_
  refine r_aload_n C 0 967 rfl dL_law_966 rfl ?_
  refine r_iload C 5 969 rfl dL_law_967 rfl ?_
  refine r_iconst C 1 rfl 970 rfl dL_law_969 ?_
  refine r_iadd C 971 rfl dL_law_970 ?_
  obtain ⟨i1595, h⟩ := ck_some h
  refine r_sld C hX i1595 972 rfl dL_law_971 ?_
  obtain ⟨y1597, κ1598, e1596, h⟩ := bd2_some h
  refine r_cVi C (st := []) (c_X7_stock ha2 e1596) yv_X7_stock ml_L_209 rfl ha2 rfl ⟨Nat.le_of_ble_eq_true rfl, Nat.le_of_ble_eq_true rfl⟩ ⟨by omega, by omega⟩ (Nat.le_of_ble_eq_true rfl) rfl (k1 + 1) (k2 + 6) rfl rfl 975 rfl dL_law_972 ?_
  refine r_istore C (lv' := [(0, .ref b), (1, .ref a1), (2, .ref a2), (3, .ref a3), (4, .ref a4), (5, .int v5), (6, .int y1593), (7, .int y1597)]) [1, 2, 3, 4, 5, 6, 7, 0] 977 rfl dL_law_975 (Nat.le_of_ble_eq_true rfl) rfl ?_
  refine r_aload_n C 2 978 rfl dL_law_977 rfl ?_
  obtain ⟨y1600, e1599, h⟩ := bd_some h
  refine r_cVi C (st := []) (c_X7_thrown ha2 e1599) yv_X7_thrown ml_L_175 rfl ha2 rfl ⟨Nat.le_of_ble_eq_true rfl, Nat.le_of_ble_eq_true rfl⟩ ⟨by omega, by omega⟩ (Nat.le_of_ble_eq_true rfl) rfl (k1 + 1) (k2 + 6) rfl rfl 981 rfl dL_law_978 ?_
  refine r_iload C 6 983 rfl dL_law_981 rfl ?_
  refine r_icmp_eq C 988 986 rfl dL_law_983 rfl ⟨fun c1601 => ?_, fun c1601 => ?_⟩
  · have h := if_some_t c1601 h
    refine r_iload C 6 990 rfl dL_law_988 rfl ?_
    refine r_if_ne C 1005 993 rfl dL_law_990 rfl ⟨fun c1602 => ?_, fun c1602 => ?_⟩
    · have h := if_some_f c1602 h
      refine r_goto C 3082 dL_law_1005 rfl ?_
      refine r_lv [0, 1, 2, 3, 4, 5] rfl ?_
      refine r_wd (k1' := (k1 + 52)) (k2' := (k2 + 7248)) (by omega) (by omega) ?_
      exact w_L_law_3082 C hX ha1 ha2 ha3 ha4 hq (k1 := k1) (k2 := k2) (by omega) (by omega) (fun κ u5 h k1a k2a g1 g2 => hK28 κ u5 h k1a k2a (by omega) (by omega)) h
    · have h := if_some_t c1602 h
      refine r_aload_n C 3 994 rfl dL_law_993 rfl ?_
      refine r_iconst C 0 rfl 995 rfl dL_law_994 ?_
      refine r_lald C ha3 (by decide) 996 rfl dL_law_995 ?_
      refine r_iload C 7 998 rfl dL_law_996 rfl ?_
      refine r_i2l C 999 rfl dL_law_998 ?_
      refine r_lcmp C 1000 rfl dL_law_999 ?_
      refine r_if_eq C 1005 1003 rfl dL_law_1000 rfl ⟨fun c1603 => ?_, fun c1603 => ?_⟩
      · have h := if_some_t c1603 h
        refine r_goto C 3082 dL_law_1005 rfl ?_
        refine r_lv [0, 1, 2, 3, 4, 5] rfl ?_
        refine r_wd (k1' := (k1 + 52)) (k2' := (k2 + 7248)) (by omega) (by omega) ?_
        exact w_L_law_3082 C hX ha1 ha2 ha3 ha4 hq (k1 := k1) (k2 := k2) (by omega) (by omega) (fun κ u5 h k1a k2a g1 g2 => hK28 κ u5 h k1a k2a (by omega) (by omega)) h
      · have h := if_some_f c1603 h
        refine r_iconst C 0 rfl 1004 rfl dL_law_1003 ?_
        exact absurd (congrArg (fun z => z.1) (Option.some.inj h)) (show ¬ ((0 : Int32) = 1) by decide)
  · have h := if_some_f c1601 h
    refine r_iconst C 0 rfl 987 rfl dL_law_986 ?_
    exact absurd (congrArg (fun z => z.1) (Option.some.inj h)) (show ¬ ((0 : Int32) = 1) by decide)
set_option maxRecDepth 20000 in
theorem w_L_law_1008 {F : jFm} (C : jA F RL cL_law 9 2048 603072 7182442 94400) {b L : Nat} {xs : Nat → Int32} (hX : jScr F b L xs) {κ : jKt} {a1 : Nat} (ha1 : jSof F a1 = (1, 10, 11)) {a2 : Nat} (ha2 : jSof F a2 = (1, 11, 22)) {a3 : Nat} (ha3 : jSof F a3 = (2, 3, 1)) {a4 : Nat} (ha4 : jSof F a4 = (2, 4, 1)) {v5 : Int32} {κr : jKt} (hq : ∀ κ k1 k2 lv, κ = κr → k1 ≤ 603072 → k2 ≤ 7182442 → jW F 9 k1 k2 κ 3089 lv [.int 1]) {k1 k2 : Nat} (hk1 : k1 + 52 ≤ 603072) (hk2 : k2 + 7248 ≤ 7182442) {K28 : jKt → Int32 → Option (Int32 × jKt)} (hK28 : ∀ (κ : jKt) (u5 : Int32), K28 κ u5 = some (1, κr) → ∀ k1a k2a, k1a ≤ k1 + 52 → k2a ≤ k2 + 7248 → jW F 9 k1a k2a κ 28 [(0, .ref b), (1, .ref a1), (2, .ref a2), (3, .ref a3), (4, .ref a4), (5, .int u5)] []) (h : P_L_law_1008 xs L κ a1 a2 a3 a4 v5 K28 = some (1, κr)) : jW F 9 k1 k2 κ 1008 [(0, .ref b), (1, .ref a1), (2, .ref a2), (3, .ref a3), (4, .ref a4), (5, .int v5)] [] := by
  unfold P_L_law_1008 at h
  refine r_aload_n C 1 1009 rfl dL_law_1008 rfl ?_
  obtain ⟨y1605, e1604, h⟩ := bd_some h
  refine r_cVi C (st := []) (c_X6_customerCount ha1 e1604) yv_X6_customerCount ml_L_210 rfl ha1 rfl ⟨Nat.le_of_ble_eq_true rfl, Nat.le_of_ble_eq_true rfl⟩ ⟨by omega, by omega⟩ (Nat.le_of_ble_eq_true rfl) rfl k1 k2 rfl rfl 1012 rfl dL_law_1009 ?_
  refine r_aload_n C 2 1013 rfl dL_law_1012 rfl ?_
  obtain ⟨y1607, κ1608, e1606, h⟩ := bd2_some h
  refine r_cVi C (st := [.int y1605]) (c_X7_customerCount ha2 e1606) yv_X7_customerCount ml_L_213 rfl ha2 rfl ⟨Nat.le_of_ble_eq_true rfl, Nat.le_of_ble_eq_true rfl⟩ ⟨by omega, by omega⟩ (Nat.le_of_ble_eq_true rfl) rfl k1 k2 rfl rfl 1016 rfl dL_law_1013 ?_
  refine r_icmp_eq C 3082 1019 rfl dL_law_1016 rfl ⟨fun c1609 => ?_, fun c1609 => ?_⟩
  · have h := if_some_t c1609 h
    refine r_wd (k1' := (k1 + 52)) (k2' := (k2 + 7248)) (by omega) (by omega) ?_
    exact w_L_law_3082 C hX ha1 ha2 ha3 ha4 hq (k1 := k1) (k2 := k2) (by omega) (by omega) (fun κ u5 h k1a k2a g1 g2 => hK28 κ u5 h k1a k2a (by omega) (by omega)) h
  · have h := if_some_f c1609 h
    refine r_iconst C 0 rfl 1020 rfl dL_law_1019 ?_
    exact absurd (congrArg (fun z => z.1) (Option.some.inj h)) (show ¬ ((0 : Int32) = 1) by decide)
set_option maxRecDepth 20000 in
theorem w_L_law_1021 {F : jFm} (C : jA F RL cL_law 9 2048 603072 7182442 94400) {b L : Nat} {xs : Nat → Int32} (hX : jScr F b L xs) {κ : jKt} {a1 : Nat} (ha1 : jSof F a1 = (1, 10, 11)) {a2 : Nat} (ha2 : jSof F a2 = (1, 11, 22)) {a3 : Nat} (ha3 : jSof F a3 = (2, 3, 1)) {a4 : Nat} (ha4 : jSof F a4 = (2, 4, 1)) {v5 : Int32} {κr : jKt} (hq : ∀ κ k1 k2 lv, κ = κr → k1 ≤ 603072 → k2 ≤ 7182442 → jW F 9 k1 k2 κ 3089 lv [.int 1]) {k1 k2 : Nat} (hk1 : k1 + 52 ≤ 603072) (hk2 : k2 + 7248 ≤ 7182442) {K28 : jKt → Int32 → Option (Int32 × jKt)} (hK28 : ∀ (κ : jKt) (u5 : Int32), K28 κ u5 = some (1, κr) → ∀ k1a k2a, k1a ≤ k1 + 52 → k2a ≤ k2 + 7248 → jW F 9 k1a k2a κ 28 [(0, .ref b), (1, .ref a1), (2, .ref a2), (3, .ref a3), (4, .ref a4), (5, .int u5)] []) (h : P_L_law_1021 xs L κ a1 a2 a3 a4 v5 K28 = some (1, κr)) : jW F 9 k1 k2 κ 1021 [(0, .ref b), (1, .ref a1), (2, .ref a2), (3, .ref a3), (4, .ref a4), (5, .int v5)] [] := by
  unfold P_L_law_1021 at h
  refine r_aload_n C 1 1022 rfl dL_law_1021 rfl ?_
  refine r_aload_n C 0 1023 rfl dL_law_1022 rfl ?_
  refine r_iload C 5 1025 rfl dL_law_1023 rfl ?_
  refine r_iconst C 1 rfl 1026 rfl dL_law_1025 ?_
  refine r_iadd C 1027 rfl dL_law_1026 ?_
  obtain ⟨i1610, h⟩ := ck_some h
  refine r_sld C hX i1610 1028 rfl dL_law_1027 ?_
  refine r_aload_n C 3 1029 rfl dL_law_1028 rfl ?_
  obtain ⟨y1612, κ1613, e1611, h⟩ := bd2_some h
  refine r_cSh C (st := []) (c_L_pairs ha1 ha3 e1611) yv_L_pairs ml_L_214 rfl ⟨Nat.le_of_ble_eq_true rfl, Nat.le_of_ble_eq_true rfl⟩ ⟨by omega, by omega⟩ (Nat.le_of_ble_eq_true rfl) rfl (k1 + 1) (k2 + 6) rfl rfl 1032 rfl dL_law_1029 ?_
  refine r_istore C (lv' := [(0, .ref b), (1, .ref a1), (2, .ref a2), (3, .ref a3), (4, .ref a4), (5, .int v5), (6, .int y1612)]) [1, 2, 3, 4, 5, 6, 0] 1034 rfl dL_law_1032 (Nat.le_of_ble_eq_true rfl) rfl ?_
  refine r_aload_n C 2 1035 rfl dL_law_1034 rfl ?_
  refine r_aload_n C 0 1036 rfl dL_law_1035 rfl ?_
  refine r_iload C 5 1038 rfl dL_law_1036 rfl ?_
  refine r_iconst C 1 rfl 1039 rfl dL_law_1038 ?_
  refine r_iadd C 1040 rfl dL_law_1039 ?_
  obtain ⟨i1614, h⟩ := ck_some h
  refine r_sld C hX i1614 1041 rfl dL_law_1040 ?_
  obtain ⟨y1616, κ1617, e1615, h⟩ := bd2_some h
  refine r_cVi C (st := []) (c_X7_pairs ha2 e1615) yv_X7_pairs ml_L_216 rfl ha2 rfl ⟨Nat.le_of_ble_eq_true rfl, Nat.le_of_ble_eq_true rfl⟩ ⟨by omega, by omega⟩ (Nat.le_of_ble_eq_true rfl) rfl (k1 + 1) (k2 + 6) rfl rfl 1044 rfl dL_law_1041 ?_
  refine r_istore C (lv' := [(0, .ref b), (1, .ref a1), (2, .ref a2), (3, .ref a3), (4, .ref a4), (5, .int v5), (6, .int y1612), (7, .int y1616)]) [1, 2, 3, 4, 5, 6, 7, 0] 1046 rfl dL_law_1044 (Nat.le_of_ble_eq_true rfl) rfl ?_
  refine r_aload_n C 2 1047 rfl dL_law_1046 rfl ?_
  obtain ⟨y1619, e1618, h⟩ := bd_some h
  refine r_cVi C (st := []) (c_X7_thrown ha2 e1618) yv_X7_thrown ml_L_175 rfl ha2 rfl ⟨Nat.le_of_ble_eq_true rfl, Nat.le_of_ble_eq_true rfl⟩ ⟨by omega, by omega⟩ (Nat.le_of_ble_eq_true rfl) rfl (k1 + 1) (k2 + 6) rfl rfl 1050 rfl dL_law_1047 ?_
  refine r_iload C 6 1052 rfl dL_law_1050 rfl ?_
  refine r_icmp_eq C 1057 1055 rfl dL_law_1052 rfl ⟨fun c1620 => ?_, fun c1620 => ?_⟩
  · have h := if_some_t c1620 h
    refine r_iload C 6 1059 rfl dL_law_1057 rfl ?_
    refine r_if_ne C 1074 1062 rfl dL_law_1059 rfl ⟨fun c1621 => ?_, fun c1621 => ?_⟩
    · have h := if_some_f c1621 h
      refine r_goto C 3082 dL_law_1074 rfl ?_
      refine r_lv [0, 1, 2, 3, 4, 5] rfl ?_
      refine r_wd (k1' := (k1 + 52)) (k2' := (k2 + 7248)) (by omega) (by omega) ?_
      exact w_L_law_3082 C hX ha1 ha2 ha3 ha4 hq (k1 := k1) (k2 := k2) (by omega) (by omega) (fun κ u5 h k1a k2a g1 g2 => hK28 κ u5 h k1a k2a (by omega) (by omega)) h
    · have h := if_some_t c1621 h
      refine r_aload_n C 3 1063 rfl dL_law_1062 rfl ?_
      refine r_iconst C 0 rfl 1064 rfl dL_law_1063 ?_
      refine r_lald C ha3 (by decide) 1065 rfl dL_law_1064 ?_
      refine r_iload C 7 1067 rfl dL_law_1065 rfl ?_
      refine r_i2l C 1068 rfl dL_law_1067 ?_
      refine r_lcmp C 1069 rfl dL_law_1068 ?_
      refine r_if_eq C 1074 1072 rfl dL_law_1069 rfl ⟨fun c1622 => ?_, fun c1622 => ?_⟩
      · have h := if_some_t c1622 h
        refine r_goto C 3082 dL_law_1074 rfl ?_
        refine r_lv [0, 1, 2, 3, 4, 5] rfl ?_
        refine r_wd (k1' := (k1 + 52)) (k2' := (k2 + 7248)) (by omega) (by omega) ?_
        exact w_L_law_3082 C hX ha1 ha2 ha3 ha4 hq (k1 := k1) (k2 := k2) (by omega) (by omega) (fun κ u5 h k1a k2a g1 g2 => hK28 κ u5 h k1a k2a (by omega) (by omega)) h
      · have h := if_some_f c1622 h
        refine r_iconst C 0 rfl 1073 rfl dL_law_1072 ?_
        exact absurd (congrArg (fun z => z.1) (Option.some.inj h)) (show ¬ ((0 : Int32) = 1) by decide)
  · have h := if_some_f c1620 h
    refine r_iconst C 0 rfl 1056 rfl dL_law_1055 ?_
    exact absurd (congrArg (fun z => z.1) (Option.some.inj h)) (show ¬ ((0 : Int32) = 1) by decide)
set_option maxRecDepth 20000 in
theorem w_L_law_1077 {F : jFm} (C : jA F RL cL_law 9 2048 603072 7182442 94400) {b L : Nat} {xs : Nat → Int32} (hX : jScr F b L xs) {κ : jKt} {a1 : Nat} (ha1 : jSof F a1 = (1, 10, 11)) {a2 : Nat} (ha2 : jSof F a2 = (1, 11, 22)) {a3 : Nat} (ha3 : jSof F a3 = (2, 3, 1)) {a4 : Nat} (ha4 : jSof F a4 = (2, 4, 1)) {v5 : Int32} {κr : jKt} (hq : ∀ κ k1 k2 lv, κ = κr → k1 ≤ 603072 → k2 ≤ 7182442 → jW F 9 k1 k2 κ 3089 lv [.int 1]) {k1 k2 : Nat} (hk1 : k1 + 52 ≤ 603072) (hk2 : k2 + 7248 ≤ 7182442) {K28 : jKt → Int32 → Option (Int32 × jKt)} (hK28 : ∀ (κ : jKt) (u5 : Int32), K28 κ u5 = some (1, κr) → ∀ k1a k2a, k1a ≤ k1 + 52 → k2a ≤ k2 + 7248 → jW F 9 k1a k2a κ 28 [(0, .ref b), (1, .ref a1), (2, .ref a2), (3, .ref a3), (4, .ref a4), (5, .int u5)] []) (h : P_L_law_1077 xs L κ a1 a2 a3 a4 v5 K28 = some (1, κr)) : jW F 9 k1 k2 κ 1077 [(0, .ref b), (1, .ref a1), (2, .ref a2), (3, .ref a3), (4, .ref a4), (5, .int v5)] [] := by
  unfold P_L_law_1077 at h
  refine r_aload_n C 1 1078 rfl dL_law_1077 rfl ?_
  refine r_aload_n C 0 1079 rfl dL_law_1078 rfl ?_
  refine r_iload C 5 1081 rfl dL_law_1079 rfl ?_
  refine r_iconst C 1 rfl 1082 rfl dL_law_1081 ?_
  refine r_iadd C 1083 rfl dL_law_1082 ?_
  obtain ⟨i1623, h⟩ := ck_some h
  refine r_sld C hX i1623 1084 rfl dL_law_1083 ?_
  refine r_aload_n C 0 1085 rfl dL_law_1084 rfl ?_
  refine r_iload C 5 1087 rfl dL_law_1085 rfl ?_
  refine r_iconst C 2 rfl 1088 rfl dL_law_1087 ?_
  refine r_iadd C 1089 rfl dL_law_1088 ?_
  obtain ⟨i1624, h⟩ := ck_some h
  refine r_sld C hX i1624 1090 rfl dL_law_1089 ?_
  refine r_aload_n C 3 1091 rfl dL_law_1090 rfl ?_
  obtain ⟨y1626, κ1627, e1625, h⟩ := bd2_some h
  refine r_cSh C (st := []) (c_L_legLength ha1 ha3 e1625) yv_L_legLength ml_L_217 rfl ⟨Nat.le_of_ble_eq_true rfl, Nat.le_of_ble_eq_true rfl⟩ ⟨by omega, by omega⟩ (Nat.le_of_ble_eq_true rfl) rfl (k1 + 2) (k2 + 12) rfl rfl 1094 rfl dL_law_1091 ?_
  refine r_istore C (lv' := [(0, .ref b), (1, .ref a1), (2, .ref a2), (3, .ref a3), (4, .ref a4), (5, .int v5), (6, .int y1626)]) [1, 2, 3, 4, 5, 6, 0] 1096 rfl dL_law_1094 (Nat.le_of_ble_eq_true rfl) rfl ?_
  refine r_aload_n C 2 1097 rfl dL_law_1096 rfl ?_
  refine r_aload_n C 0 1098 rfl dL_law_1097 rfl ?_
  refine r_iload C 5 1100 rfl dL_law_1098 rfl ?_
  refine r_iconst C 1 rfl 1101 rfl dL_law_1100 ?_
  refine r_iadd C 1102 rfl dL_law_1101 ?_
  obtain ⟨i1628, h⟩ := ck_some h
  refine r_sld C hX i1628 1103 rfl dL_law_1102 ?_
  refine r_aload_n C 0 1104 rfl dL_law_1103 rfl ?_
  refine r_iload C 5 1106 rfl dL_law_1104 rfl ?_
  refine r_iconst C 2 rfl 1107 rfl dL_law_1106 ?_
  refine r_iadd C 1108 rfl dL_law_1107 ?_
  obtain ⟨i1629, h⟩ := ck_some h
  refine r_sld C hX i1629 1109 rfl dL_law_1108 ?_
  obtain ⟨y1631, κ1632, e1630, h⟩ := bd2_some h
  refine r_cVi C (st := []) (c_X7_legLength ha2 e1630) yv_X7_legLength ml_L_219 rfl ha2 rfl ⟨Nat.le_of_ble_eq_true rfl, Nat.le_of_ble_eq_true rfl⟩ ⟨by omega, by omega⟩ (Nat.le_of_ble_eq_true rfl) rfl (k1 + 2) (k2 + 12) rfl rfl 1112 rfl dL_law_1109 ?_
  refine r_istore C (lv' := [(0, .ref b), (1, .ref a1), (2, .ref a2), (3, .ref a3), (4, .ref a4), (5, .int v5), (6, .int y1626), (7, .int y1631)]) [1, 2, 3, 4, 5, 6, 7, 0] 1114 rfl dL_law_1112 (Nat.le_of_ble_eq_true rfl) rfl ?_
  refine r_aload_n C 2 1115 rfl dL_law_1114 rfl ?_
  obtain ⟨y1634, e1633, h⟩ := bd_some h
  refine r_cVi C (st := []) (c_X7_thrown ha2 e1633) yv_X7_thrown ml_L_175 rfl ha2 rfl ⟨Nat.le_of_ble_eq_true rfl, Nat.le_of_ble_eq_true rfl⟩ ⟨by omega, by omega⟩ (Nat.le_of_ble_eq_true rfl) rfl (k1 + 2) (k2 + 12) rfl rfl 1118 rfl dL_law_1115 ?_
  refine r_iload C 6 1120 rfl dL_law_1118 rfl ?_
  refine r_icmp_eq C 1125 1123 rfl dL_law_1120 rfl ⟨fun c1635 => ?_, fun c1635 => ?_⟩
  · have h := if_some_t c1635 h
    refine r_iload C 6 1127 rfl dL_law_1125 rfl ?_
    refine r_if_ne C 1142 1130 rfl dL_law_1127 rfl ⟨fun c1636 => ?_, fun c1636 => ?_⟩
    · have h := if_some_f c1636 h
      refine r_goto C 3082 dL_law_1142 rfl ?_
      refine r_lv [0, 1, 2, 3, 4, 5] rfl ?_
      refine r_wd (k1' := (k1 + 52)) (k2' := (k2 + 7248)) (by omega) (by omega) ?_
      exact w_L_law_3082 C hX ha1 ha2 ha3 ha4 hq (k1 := k1) (k2 := k2) (by omega) (by omega) (fun κ u5 h k1a k2a g1 g2 => hK28 κ u5 h k1a k2a (by omega) (by omega)) h
    · have h := if_some_t c1636 h
      refine r_aload_n C 3 1131 rfl dL_law_1130 rfl ?_
      refine r_iconst C 0 rfl 1132 rfl dL_law_1131 ?_
      refine r_lald C ha3 (by decide) 1133 rfl dL_law_1132 ?_
      refine r_iload C 7 1135 rfl dL_law_1133 rfl ?_
      refine r_i2l C 1136 rfl dL_law_1135 ?_
      refine r_lcmp C 1137 rfl dL_law_1136 ?_
      refine r_if_eq C 1142 1140 rfl dL_law_1137 rfl ⟨fun c1637 => ?_, fun c1637 => ?_⟩
      · have h := if_some_t c1637 h
        refine r_goto C 3082 dL_law_1142 rfl ?_
        refine r_lv [0, 1, 2, 3, 4, 5] rfl ?_
        refine r_wd (k1' := (k1 + 52)) (k2' := (k2 + 7248)) (by omega) (by omega) ?_
        exact w_L_law_3082 C hX ha1 ha2 ha3 ha4 hq (k1 := k1) (k2 := k2) (by omega) (by omega) (fun κ u5 h k1a k2a g1 g2 => hK28 κ u5 h k1a k2a (by omega) (by omega)) h
      · have h := if_some_f c1637 h
        refine r_iconst C 0 rfl 1141 rfl dL_law_1140 ?_
        exact absurd (congrArg (fun z => z.1) (Option.some.inj h)) (show ¬ ((0 : Int32) = 1) by decide)
  · have h := if_some_f c1635 h
    refine r_iconst C 0 rfl 1124 rfl dL_law_1123 ?_
    exact absurd (congrArg (fun z => z.1) (Option.some.inj h)) (show ¬ ((0 : Int32) = 1) by decide)
set_option maxRecDepth 20000 in
theorem w_L_law_1145 {F : jFm} (C : jA F RL cL_law 9 2048 603072 7182442 94400) {b L : Nat} {xs : Nat → Int32} (hX : jScr F b L xs) {κ : jKt} {a1 : Nat} (ha1 : jSof F a1 = (1, 10, 11)) {a2 : Nat} (ha2 : jSof F a2 = (1, 11, 22)) {a3 : Nat} (ha3 : jSof F a3 = (2, 3, 1)) {a4 : Nat} (ha4 : jSof F a4 = (2, 4, 1)) {v5 : Int32} {κr : jKt} (hq : ∀ κ k1 k2 lv, κ = κr → k1 ≤ 603072 → k2 ≤ 7182442 → jW F 9 k1 k2 κ 3089 lv [.int 1]) {k1 k2 : Nat} (hk1 : k1 + 52 ≤ 603072) (hk2 : k2 + 7248 ≤ 7182442) {K28 : jKt → Int32 → Option (Int32 × jKt)} (hK28 : ∀ (κ : jKt) (u5 : Int32), K28 κ u5 = some (1, κr) → ∀ k1a k2a, k1a ≤ k1 + 52 → k2a ≤ k2 + 7248 → jW F 9 k1a k2a κ 28 [(0, .ref b), (1, .ref a1), (2, .ref a2), (3, .ref a3), (4, .ref a4), (5, .int u5)] []) (h : P_L_law_1145 xs L κ a1 a2 a3 a4 v5 K28 = some (1, κr)) : jW F 9 k1 k2 κ 1145 [(0, .ref b), (1, .ref a1), (2, .ref a2), (3, .ref a3), (4, .ref a4), (5, .int v5)] [] := by
  unfold P_L_law_1145 at h
  refine r_aload_n C 1 1146 rfl dL_law_1145 rfl ?_
  refine r_aload_n C 0 1147 rfl dL_law_1146 rfl ?_
  refine r_iload C 5 1149 rfl dL_law_1147 rfl ?_
  refine r_iconst C 1 rfl 1150 rfl dL_law_1149 ?_
  refine r_iadd C 1151 rfl dL_law_1150 ?_
  obtain ⟨i1638, h⟩ := ck_some h
  refine r_sld C hX i1638 1152 rfl dL_law_1151 ?_
  refine r_aload_n C 0 1153 rfl dL_law_1152 rfl ?_
  refine r_iload C 5 1155 rfl dL_law_1153 rfl ?_
  refine r_iconst C 2 rfl 1156 rfl dL_law_1155 ?_
  refine r_iadd C 1157 rfl dL_law_1156 ?_
  obtain ⟨i1639, h⟩ := ck_some h
  refine r_sld C hX i1639 1158 rfl dL_law_1157 ?_
  refine r_aload_n C 3 1159 rfl dL_law_1158 rfl ?_
  obtain ⟨y1641, κ1642, e1640, h⟩ := bd2_some h
  refine r_cSh C (st := []) (c_L_mirrorLeg ha1 ha3 e1640) yv_L_mirrorLeg ml_L_220 rfl ⟨Nat.le_of_ble_eq_true rfl, Nat.le_of_ble_eq_true rfl⟩ ⟨by omega, by omega⟩ (Nat.le_of_ble_eq_true rfl) rfl (k1 + 2) (k2 + 12) rfl rfl 1162 rfl dL_law_1159 ?_
  refine r_istore C (lv' := [(0, .ref b), (1, .ref a1), (2, .ref a2), (3, .ref a3), (4, .ref a4), (5, .int v5), (6, .int y1641)]) [1, 2, 3, 4, 5, 6, 0] 1164 rfl dL_law_1162 (Nat.le_of_ble_eq_true rfl) rfl ?_
  refine r_aload_n C 2 1165 rfl dL_law_1164 rfl ?_
  refine r_aload_n C 0 1166 rfl dL_law_1165 rfl ?_
  refine r_iload C 5 1168 rfl dL_law_1166 rfl ?_
  refine r_iconst C 1 rfl 1169 rfl dL_law_1168 ?_
  refine r_iadd C 1170 rfl dL_law_1169 ?_
  obtain ⟨i1643, h⟩ := ck_some h
  refine r_sld C hX i1643 1171 rfl dL_law_1170 ?_
  refine r_aload_n C 0 1172 rfl dL_law_1171 rfl ?_
  refine r_iload C 5 1174 rfl dL_law_1172 rfl ?_
  refine r_iconst C 2 rfl 1175 rfl dL_law_1174 ?_
  refine r_iadd C 1176 rfl dL_law_1175 ?_
  obtain ⟨i1644, h⟩ := ck_some h
  refine r_sld C hX i1644 1177 rfl dL_law_1176 ?_
  obtain ⟨y1646, κ1647, e1645, h⟩ := bd2_some h
  refine r_cVi C (st := []) (c_X7_mirrorLeg ha2 e1645) yv_X7_mirrorLeg ml_L_222 rfl ha2 rfl ⟨Nat.le_of_ble_eq_true rfl, Nat.le_of_ble_eq_true rfl⟩ ⟨by omega, by omega⟩ (Nat.le_of_ble_eq_true rfl) rfl (k1 + 2) (k2 + 12) rfl rfl 1180 rfl dL_law_1177 ?_
  refine r_istore C (lv' := [(0, .ref b), (1, .ref a1), (2, .ref a2), (3, .ref a3), (4, .ref a4), (5, .int v5), (6, .int y1641), (7, .int y1646)]) [1, 2, 3, 4, 5, 6, 7, 0] 1182 rfl dL_law_1180 (Nat.le_of_ble_eq_true rfl) rfl ?_
  refine r_aload_n C 2 1183 rfl dL_law_1182 rfl ?_
  obtain ⟨y1649, e1648, h⟩ := bd_some h
  refine r_cVi C (st := []) (c_X7_thrown ha2 e1648) yv_X7_thrown ml_L_175 rfl ha2 rfl ⟨Nat.le_of_ble_eq_true rfl, Nat.le_of_ble_eq_true rfl⟩ ⟨by omega, by omega⟩ (Nat.le_of_ble_eq_true rfl) rfl (k1 + 2) (k2 + 12) rfl rfl 1186 rfl dL_law_1183 ?_
  refine r_iload C 6 1188 rfl dL_law_1186 rfl ?_
  refine r_icmp_eq C 1193 1191 rfl dL_law_1188 rfl ⟨fun c1650 => ?_, fun c1650 => ?_⟩
  · have h := if_some_t c1650 h
    refine r_iload C 6 1195 rfl dL_law_1193 rfl ?_
    refine r_if_ne C 1210 1198 rfl dL_law_1195 rfl ⟨fun c1651 => ?_, fun c1651 => ?_⟩
    · have h := if_some_f c1651 h
      refine r_goto C 3082 dL_law_1210 rfl ?_
      refine r_lv [0, 1, 2, 3, 4, 5] rfl ?_
      refine r_wd (k1' := (k1 + 52)) (k2' := (k2 + 7248)) (by omega) (by omega) ?_
      exact w_L_law_3082 C hX ha1 ha2 ha3 ha4 hq (k1 := k1) (k2 := k2) (by omega) (by omega) (fun κ u5 h k1a k2a g1 g2 => hK28 κ u5 h k1a k2a (by omega) (by omega)) h
    · have h := if_some_t c1651 h
      refine r_aload_n C 3 1199 rfl dL_law_1198 rfl ?_
      refine r_iconst C 0 rfl 1200 rfl dL_law_1199 ?_
      refine r_lald C ha3 (by decide) 1201 rfl dL_law_1200 ?_
      refine r_iload C 7 1203 rfl dL_law_1201 rfl ?_
      refine r_i2l C 1204 rfl dL_law_1203 ?_
      refine r_lcmp C 1205 rfl dL_law_1204 ?_
      refine r_if_eq C 1210 1208 rfl dL_law_1205 rfl ⟨fun c1652 => ?_, fun c1652 => ?_⟩
      · have h := if_some_t c1652 h
        refine r_goto C 3082 dL_law_1210 rfl ?_
        refine r_lv [0, 1, 2, 3, 4, 5] rfl ?_
        refine r_wd (k1' := (k1 + 52)) (k2' := (k2 + 7248)) (by omega) (by omega) ?_
        exact w_L_law_3082 C hX ha1 ha2 ha3 ha4 hq (k1 := k1) (k2 := k2) (by omega) (by omega) (fun κ u5 h k1a k2a g1 g2 => hK28 κ u5 h k1a k2a (by omega) (by omega)) h
      · have h := if_some_f c1652 h
        refine r_iconst C 0 rfl 1209 rfl dL_law_1208 ?_
        exact absurd (congrArg (fun z => z.1) (Option.some.inj h)) (show ¬ ((0 : Int32) = 1) by decide)
  · have h := if_some_f c1650 h
    refine r_iconst C 0 rfl 1192 rfl dL_law_1191 ?_
    exact absurd (congrArg (fun z => z.1) (Option.some.inj h)) (show ¬ ((0 : Int32) = 1) by decide)
set_option maxRecDepth 20000 in
theorem w_L_law_1267 {F : jFm} (C : jA F RL cL_law 9 2048 603072 7182442 94400) {b L : Nat} {xs : Nat → Int32} (hX : jScr F b L xs) {κ : jKt} {a1 : Nat} (ha1 : jSof F a1 = (1, 10, 11)) {a2 : Nat} (ha2 : jSof F a2 = (1, 11, 22)) {a3 : Nat} (ha3 : jSof F a3 = (2, 3, 1)) {a4 : Nat} (ha4 : jSof F a4 = (2, 4, 1)) {v5 : Int32} {s0 : Int64} {s1 : Int64} {κr : jKt} (hq : ∀ κ k1 k2 lv, κ = κr → k1 ≤ 603072 → k2 ≤ 7182442 → jW F 9 k1 k2 κ 3089 lv [.int 1]) {k1 k2 : Nat} (hk1 : k1 + 52 ≤ 603072) (hk2 : k2 + 7248 ≤ 7182442) {K28 : jKt → Int32 → Option (Int32 × jKt)} (hK28 : ∀ (κ : jKt) (u5 : Int32), K28 κ u5 = some (1, κr) → ∀ k1a k2a, k1a ≤ k1 + 52 → k2a ≤ k2 + 7248 → jW F 9 k1a k2a κ 28 [(0, .ref b), (1, .ref a1), (2, .ref a2), (3, .ref a3), (4, .ref a4), (5, .int u5)] []) (h : P_L_law_1267 xs L κ a1 a2 a3 a4 v5 s0 s1 K28 = some (1, κr)) : jW F 9 (k1 + 1) (k2 + 6) κ 1267 [(0, .ref b), (1, .ref a1), (2, .ref a2), (3, .ref a3), (4, .ref a4), (5, .int v5)] [.long s0, .long s1] := by
  unfold P_L_law_1267 at h
  refine r_lcmp C 1268 rfl dL_law_1267 ?_
  refine r_if_eq C 1273 1271 rfl dL_law_1268 rfl ⟨fun c1653 => ?_, fun c1653 => ?_⟩
  · have h := if_some_t c1653 h
    refine r_goto C 3082 dL_law_1273 rfl ?_
    refine r_wd (k1' := (k1 + 52)) (k2' := (k2 + 7248)) (by omega) (by omega) ?_
    exact w_L_law_3082 C hX ha1 ha2 ha3 ha4 hq (k1 := k1) (k2 := k2) (by omega) (by omega) (fun κ u5 h k1a k2a g1 g2 => hK28 κ u5 h k1a k2a (by omega) (by omega)) h
  · have h := if_some_f c1653 h
    refine r_iconst C 0 rfl 1272 rfl dL_law_1271 ?_
    exact absurd (congrArg (fun z => z.1) (Option.some.inj h)) (show ¬ ((0 : Int32) = 1) by decide)
set_option maxRecDepth 20000 in
theorem w_L_law_1213 {F : jFm} (C : jA F RL cL_law 9 2048 603072 7182442 94400) {b L : Nat} {xs : Nat → Int32} (hX : jScr F b L xs) {κ : jKt} {a1 : Nat} (ha1 : jSof F a1 = (1, 10, 11)) {a2 : Nat} (ha2 : jSof F a2 = (1, 11, 22)) {a3 : Nat} (ha3 : jSof F a3 = (2, 3, 1)) {a4 : Nat} (ha4 : jSof F a4 = (2, 4, 1)) {v5 : Int32} {κr : jKt} (hq : ∀ κ k1 k2 lv, κ = κr → k1 ≤ 603072 → k2 ≤ 7182442 → jW F 9 k1 k2 κ 3089 lv [.int 1]) {k1 k2 : Nat} (hk1 : k1 + 52 ≤ 603072) (hk2 : k2 + 7248 ≤ 7182442) {K28 : jKt → Int32 → Option (Int32 × jKt)} (hK28 : ∀ (κ : jKt) (u5 : Int32), K28 κ u5 = some (1, κr) → ∀ k1a k2a, k1a ≤ k1 + 52 → k2a ≤ k2 + 7248 → jW F 9 k1a k2a κ 28 [(0, .ref b), (1, .ref a1), (2, .ref a2), (3, .ref a3), (4, .ref a4), (5, .int u5)] []) (h : P_L_law_1213 xs L κ a1 a2 a3 a4 v5 K28 = some (1, κr)) : jW F 9 k1 k2 κ 1213 [(0, .ref b), (1, .ref a1), (2, .ref a2), (3, .ref a3), (4, .ref a4), (5, .int v5)] [] := by
  unfold P_L_law_1213 at h
  refine r_aload_n C 1 1214 rfl dL_law_1213 rfl ?_
  refine r_aload_n C 0 1215 rfl dL_law_1214 rfl ?_
  refine r_iload C 5 1217 rfl dL_law_1215 rfl ?_
  refine r_iconst C 1 rfl 1218 rfl dL_law_1217 ?_
  refine r_iadd C 1219 rfl dL_law_1218 ?_
  obtain ⟨i1654, h⟩ := ck_some h
  refine r_sld C hX i1654 1220 rfl dL_law_1219 ?_
  refine r_aload_n C 3 1221 rfl dL_law_1220 rfl ?_
  obtain ⟨y1656, κ1657, e1655, h⟩ := bd2_some h
  refine r_cSh C (st := []) (c_L_isMirrored ha1 ha3 e1655) yv_L_isMirrored ml_L_223 rfl ⟨Nat.le_of_ble_eq_true rfl, Nat.le_of_ble_eq_true rfl⟩ ⟨by omega, by omega⟩ (Nat.le_of_ble_eq_true rfl) rfl (k1 + 1) (k2 + 6) rfl rfl 1224 rfl dL_law_1221 ?_
  refine r_istore C (lv' := [(0, .ref b), (1, .ref a1), (2, .ref a2), (3, .ref a3), (4, .ref a4), (5, .int v5), (6, .int y1656)]) [1, 2, 3, 4, 5, 6, 0] 1226 rfl dL_law_1224 (Nat.le_of_ble_eq_true rfl) rfl ?_
  refine r_aload_n C 2 1227 rfl dL_law_1226 rfl ?_
  refine r_aload_n C 0 1228 rfl dL_law_1227 rfl ?_
  refine r_iload C 5 1230 rfl dL_law_1228 rfl ?_
  refine r_iconst C 1 rfl 1231 rfl dL_law_1230 ?_
  refine r_iadd C 1232 rfl dL_law_1231 ?_
  obtain ⟨i1658, h⟩ := ck_some h
  refine r_sld C hX i1658 1233 rfl dL_law_1232 ?_
  obtain ⟨y1660, κ1661, e1659, h⟩ := bd2_some h
  refine r_cVi C (st := []) (c_X7_isMirrored ha2 e1659) yv_X7_isMirrored ml_L_225 rfl ha2 rfl ⟨Nat.le_of_ble_eq_true rfl, Nat.le_of_ble_eq_true rfl⟩ ⟨by omega, by omega⟩ (Nat.le_of_ble_eq_true rfl) rfl (k1 + 1) (k2 + 6) rfl rfl 1236 rfl dL_law_1233 ?_
  refine r_istore C (lv' := [(0, .ref b), (1, .ref a1), (2, .ref a2), (3, .ref a3), (4, .ref a4), (5, .int v5), (6, .int y1656), (7, .int y1660)]) [1, 2, 3, 4, 5, 6, 7, 0] 1238 rfl dL_law_1236 (Nat.le_of_ble_eq_true rfl) rfl ?_
  refine r_aload_n C 2 1239 rfl dL_law_1238 rfl ?_
  obtain ⟨y1663, e1662, h⟩ := bd_some h
  refine r_cVi C (st := []) (c_X7_thrown ha2 e1662) yv_X7_thrown ml_L_175 rfl ha2 rfl ⟨Nat.le_of_ble_eq_true rfl, Nat.le_of_ble_eq_true rfl⟩ ⟨by omega, by omega⟩ (Nat.le_of_ble_eq_true rfl) rfl (k1 + 1) (k2 + 6) rfl rfl 1242 rfl dL_law_1239 ?_
  refine r_iload C 6 1244 rfl dL_law_1242 rfl ?_
  refine r_icmp_eq C 1249 1247 rfl dL_law_1244 rfl ⟨fun c1664 => ?_, fun c1664 => ?_⟩
  · have h := if_some_t c1664 h
    refine r_iload C 6 1251 rfl dL_law_1249 rfl ?_
    refine r_if_ne C 1273 1254 rfl dL_law_1251 rfl ⟨fun c1665 => ?_, fun c1665 => ?_⟩
    · have h := if_some_f c1665 h
      refine r_goto C 3082 dL_law_1273 rfl ?_
      refine r_lv [0, 1, 2, 3, 4, 5] rfl ?_
      refine r_wd (k1' := (k1 + 52)) (k2' := (k2 + 7248)) (by omega) (by omega) ?_
      exact w_L_law_3082 C hX ha1 ha2 ha3 ha4 hq (k1 := k1) (k2 := k2) (by omega) (by omega) (fun κ u5 h k1a k2a g1 g2 => hK28 κ u5 h k1a k2a (by omega) (by omega)) h
    · have h := if_some_t c1665 h
      refine r_aload_n C 3 1255 rfl dL_law_1254 rfl ?_
      refine r_iconst C 0 rfl 1256 rfl dL_law_1255 ?_
      refine r_lald C ha3 (by decide) 1257 rfl dL_law_1256 ?_
      refine r_iload C 7 1259 rfl dL_law_1257 rfl ?_
      refine r_if_eq C 1266 1262 rfl dL_law_1259 rfl ⟨fun c1666 => ?_, fun c1666 => ?_⟩
      · have h := if_some_t c1666 h
        refine r_lconst C 0 rfl 1267 rfl dL_law_1266 ?_
        refine r_lv [0, 1, 2, 3, 4, 5] rfl ?_
        exact w_L_law_1267 C hX ha1 ha2 ha3 ha4 hq (k1 := k1) (k2 := k2) (by omega) (by omega) (fun κ u5 h k1a k2a g1 g2 => hK28 κ u5 h k1a k2a (by omega) (by omega)) h
      · have h := if_some_f c1666 h
        refine r_lconst C 1 rfl 1263 rfl dL_law_1262 ?_
        refine r_goto C 1267 dL_law_1263 rfl ?_
        refine r_lv [0, 1, 2, 3, 4, 5] rfl ?_
        exact w_L_law_1267 C hX ha1 ha2 ha3 ha4 hq (k1 := k1) (k2 := k2) (by omega) (by omega) (fun κ u5 h k1a k2a g1 g2 => hK28 κ u5 h k1a k2a (by omega) (by omega)) h
  · have h := if_some_f c1664 h
    refine r_iconst C 0 rfl 1248 rfl dL_law_1247 ?_
    exact absurd (congrArg (fun z => z.1) (Option.some.inj h)) (show ¬ ((0 : Int32) = 1) by decide)
set_option maxRecDepth 20000 in
theorem w_L_law_1276 {F : jFm} (C : jA F RL cL_law 9 2048 603072 7182442 94400) {b L : Nat} {xs : Nat → Int32} (hX : jScr F b L xs) {κ : jKt} {a1 : Nat} (ha1 : jSof F a1 = (1, 10, 11)) {a2 : Nat} (ha2 : jSof F a2 = (1, 11, 22)) {a3 : Nat} (ha3 : jSof F a3 = (2, 3, 1)) {a4 : Nat} (ha4 : jSof F a4 = (2, 4, 1)) {v5 : Int32} {κr : jKt} (hq : ∀ κ k1 k2 lv, κ = κr → k1 ≤ 603072 → k2 ≤ 7182442 → jW F 9 k1 k2 κ 3089 lv [.int 1]) {k1 k2 : Nat} (hk1 : k1 + 52 ≤ 603072) (hk2 : k2 + 7248 ≤ 7182442) {K28 : jKt → Int32 → Option (Int32 × jKt)} (hK28 : ∀ (κ : jKt) (u5 : Int32), K28 κ u5 = some (1, κr) → ∀ k1a k2a, k1a ≤ k1 + 52 → k2a ≤ k2 + 7248 → jW F 9 k1a k2a κ 28 [(0, .ref b), (1, .ref a1), (2, .ref a2), (3, .ref a3), (4, .ref a4), (5, .int u5)] []) (h : P_L_law_1276 xs L κ a1 a2 a3 a4 v5 K28 = some (1, κr)) : jW F 9 k1 k2 κ 1276 [(0, .ref b), (1, .ref a1), (2, .ref a2), (3, .ref a3), (4, .ref a4), (5, .int v5)] [] := by
  unfold P_L_law_1276 at h
  refine r_aload_n C 1 1277 rfl dL_law_1276 rfl ?_
  refine r_aload_n C 0 1278 rfl dL_law_1277 rfl ?_
  refine r_iload C 5 1280 rfl dL_law_1278 rfl ?_
  refine r_iconst C 1 rfl 1281 rfl dL_law_1280 ?_
  refine r_iadd C 1282 rfl dL_law_1281 ?_
  obtain ⟨i1667, h⟩ := ck_some h
  refine r_sld C hX i1667 1283 rfl dL_law_1282 ?_
  refine r_aload_n C 3 1284 rfl dL_law_1283 rfl ?_
  obtain ⟨y1669, κ1670, e1668, h⟩ := bd2_some h
  refine r_cSh C (st := []) (c_L_customerByLegs ha1 ha3 e1668) yv_L_customerByLegs ml_L_226 rfl ⟨Nat.le_of_ble_eq_true rfl, Nat.le_of_ble_eq_true rfl⟩ ⟨by omega, by omega⟩ (Nat.le_of_ble_eq_true rfl) rfl (k1 + 1) (k2 + 6) rfl rfl 1287 rfl dL_law_1284 ?_
  refine r_istore C (lv' := [(0, .ref b), (1, .ref a1), (2, .ref a2), (3, .ref a3), (4, .ref a4), (5, .int v5), (6, .int y1669)]) [1, 2, 3, 4, 5, 6, 0] 1289 rfl dL_law_1287 (Nat.le_of_ble_eq_true rfl) rfl ?_
  refine r_aload_n C 2 1290 rfl dL_law_1289 rfl ?_
  refine r_aload_n C 0 1291 rfl dL_law_1290 rfl ?_
  refine r_iload C 5 1293 rfl dL_law_1291 rfl ?_
  refine r_iconst C 1 rfl 1294 rfl dL_law_1293 ?_
  refine r_iadd C 1295 rfl dL_law_1294 ?_
  obtain ⟨i1671, h⟩ := ck_some h
  refine r_sld C hX i1671 1296 rfl dL_law_1295 ?_
  obtain ⟨y1673, κ1674, e1672, h⟩ := bd2_some h
  refine r_cVi C (st := []) (c_X7_customerByLegs ha2 e1672) yv_X7_customerByLegs ml_L_228 rfl ha2 rfl ⟨Nat.le_of_ble_eq_true rfl, Nat.le_of_ble_eq_true rfl⟩ ⟨by omega, by omega⟩ (Nat.le_of_ble_eq_true rfl) rfl (k1 + 1) (k2 + 6) rfl rfl 1299 rfl dL_law_1296 ?_
  refine r_istore C (lv' := [(0, .ref b), (1, .ref a1), (2, .ref a2), (3, .ref a3), (4, .ref a4), (5, .int v5), (6, .int y1669), (7, .int y1673)]) [1, 2, 3, 4, 5, 6, 7, 0] 1301 rfl dL_law_1299 (Nat.le_of_ble_eq_true rfl) rfl ?_
  refine r_aload_n C 2 1302 rfl dL_law_1301 rfl ?_
  obtain ⟨y1676, e1675, h⟩ := bd_some h
  refine r_cVi C (st := []) (c_X7_thrown ha2 e1675) yv_X7_thrown ml_L_175 rfl ha2 rfl ⟨Nat.le_of_ble_eq_true rfl, Nat.le_of_ble_eq_true rfl⟩ ⟨by omega, by omega⟩ (Nat.le_of_ble_eq_true rfl) rfl (k1 + 1) (k2 + 6) rfl rfl 1305 rfl dL_law_1302 ?_
  refine r_iload C 6 1307 rfl dL_law_1305 rfl ?_
  refine r_icmp_eq C 1312 1310 rfl dL_law_1307 rfl ⟨fun c1677 => ?_, fun c1677 => ?_⟩
  · have h := if_some_t c1677 h
    refine r_iload C 6 1314 rfl dL_law_1312 rfl ?_
    refine r_if_ne C 1329 1317 rfl dL_law_1314 rfl ⟨fun c1678 => ?_, fun c1678 => ?_⟩
    · have h := if_some_f c1678 h
      refine r_goto C 3082 dL_law_1329 rfl ?_
      refine r_lv [0, 1, 2, 3, 4, 5] rfl ?_
      refine r_wd (k1' := (k1 + 52)) (k2' := (k2 + 7248)) (by omega) (by omega) ?_
      exact w_L_law_3082 C hX ha1 ha2 ha3 ha4 hq (k1 := k1) (k2 := k2) (by omega) (by omega) (fun κ u5 h k1a k2a g1 g2 => hK28 κ u5 h k1a k2a (by omega) (by omega)) h
    · have h := if_some_t c1678 h
      refine r_aload_n C 3 1318 rfl dL_law_1317 rfl ?_
      refine r_iconst C 0 rfl 1319 rfl dL_law_1318 ?_
      refine r_lald C ha3 (by decide) 1320 rfl dL_law_1319 ?_
      refine r_iload C 7 1322 rfl dL_law_1320 rfl ?_
      refine r_i2l C 1323 rfl dL_law_1322 ?_
      refine r_lcmp C 1324 rfl dL_law_1323 ?_
      refine r_if_eq C 1329 1327 rfl dL_law_1324 rfl ⟨fun c1679 => ?_, fun c1679 => ?_⟩
      · have h := if_some_t c1679 h
        refine r_goto C 3082 dL_law_1329 rfl ?_
        refine r_lv [0, 1, 2, 3, 4, 5] rfl ?_
        refine r_wd (k1' := (k1 + 52)) (k2' := (k2 + 7248)) (by omega) (by omega) ?_
        exact w_L_law_3082 C hX ha1 ha2 ha3 ha4 hq (k1 := k1) (k2 := k2) (by omega) (by omega) (fun κ u5 h k1a k2a g1 g2 => hK28 κ u5 h k1a k2a (by omega) (by omega)) h
      · have h := if_some_f c1679 h
        refine r_iconst C 0 rfl 1328 rfl dL_law_1327 ?_
        exact absurd (congrArg (fun z => z.1) (Option.some.inj h)) (show ¬ ((0 : Int32) = 1) by decide)
  · have h := if_some_f c1677 h
    refine r_iconst C 0 rfl 1311 rfl dL_law_1310 ?_
    exact absurd (congrArg (fun z => z.1) (Option.some.inj h)) (show ¬ ((0 : Int32) = 1) by decide)
set_option maxRecDepth 20000 in
theorem w_L_law_1332 {F : jFm} (C : jA F RL cL_law 9 2048 603072 7182442 94400) {b L : Nat} {xs : Nat → Int32} (hX : jScr F b L xs) {κ : jKt} {a1 : Nat} (ha1 : jSof F a1 = (1, 10, 11)) {a2 : Nat} (ha2 : jSof F a2 = (1, 11, 22)) {a3 : Nat} (ha3 : jSof F a3 = (2, 3, 1)) {a4 : Nat} (ha4 : jSof F a4 = (2, 4, 1)) {v5 : Int32} {κr : jKt} (hq : ∀ κ k1 k2 lv, κ = κr → k1 ≤ 603072 → k2 ≤ 7182442 → jW F 9 k1 k2 κ 3089 lv [.int 1]) {k1 k2 : Nat} (hk1 : k1 + 52 ≤ 603072) (hk2 : k2 + 7248 ≤ 7182442) {K28 : jKt → Int32 → Option (Int32 × jKt)} (hK28 : ∀ (κ : jKt) (u5 : Int32), K28 κ u5 = some (1, κr) → ∀ k1a k2a, k1a ≤ k1 + 52 → k2a ≤ k2 + 7248 → jW F 9 k1a k2a κ 28 [(0, .ref b), (1, .ref a1), (2, .ref a2), (3, .ref a3), (4, .ref a4), (5, .int u5)] []) (h : P_L_law_1332 xs L κ a1 a2 a3 a4 v5 K28 = some (1, κr)) : jW F 9 k1 k2 κ 1332 [(0, .ref b), (1, .ref a1), (2, .ref a2), (3, .ref a3), (4, .ref a4), (5, .int v5)] [] := by
  unfold P_L_law_1332 at h
  refine r_aload_n C 1 1333 rfl dL_law_1332 rfl ?_
  obtain ⟨y1681, e1680, h⟩ := bd_some h
  refine r_cVi C (st := []) (c_X6_suitCount ha1 e1680) yv_X6_suitCount ml_L_229 rfl ha1 rfl ⟨Nat.le_of_ble_eq_true rfl, Nat.le_of_ble_eq_true rfl⟩ ⟨by omega, by omega⟩ (Nat.le_of_ble_eq_true rfl) rfl k1 k2 rfl rfl 1336 rfl dL_law_1333 ?_
  refine r_aload_n C 2 1337 rfl dL_law_1336 rfl ?_
  obtain ⟨y1683, κ1684, e1682, h⟩ := bd2_some h
  refine r_cVi C (st := [.int y1681]) (c_X7_suitCount ha2 e1682) yv_X7_suitCount ml_L_232 rfl ha2 rfl ⟨Nat.le_of_ble_eq_true rfl, Nat.le_of_ble_eq_true rfl⟩ ⟨by omega, by omega⟩ (Nat.le_of_ble_eq_true rfl) rfl k1 k2 rfl rfl 1340 rfl dL_law_1337 ?_
  refine r_icmp_eq C 3082 1343 rfl dL_law_1340 rfl ⟨fun c1685 => ?_, fun c1685 => ?_⟩
  · have h := if_some_t c1685 h
    refine r_wd (k1' := (k1 + 52)) (k2' := (k2 + 7248)) (by omega) (by omega) ?_
    exact w_L_law_3082 C hX ha1 ha2 ha3 ha4 hq (k1 := k1) (k2 := k2) (by omega) (by omega) (fun κ u5 h k1a k2a g1 g2 => hK28 κ u5 h k1a k2a (by omega) (by omega)) h
  · have h := if_some_f c1685 h
    refine r_iconst C 0 rfl 1344 rfl dL_law_1343 ?_
    exact absurd (congrArg (fun z => z.1) (Option.some.inj h)) (show ¬ ((0 : Int32) = 1) by decide)
set_option maxRecDepth 20000 in
theorem w_L_law_1345 {F : jFm} (C : jA F RL cL_law 9 2048 603072 7182442 94400) {b L : Nat} {xs : Nat → Int32} (hX : jScr F b L xs) {κ : jKt} {a1 : Nat} (ha1 : jSof F a1 = (1, 10, 11)) {a2 : Nat} (ha2 : jSof F a2 = (1, 11, 22)) {a3 : Nat} (ha3 : jSof F a3 = (2, 3, 1)) {a4 : Nat} (ha4 : jSof F a4 = (2, 4, 1)) {v5 : Int32} {κr : jKt} (hq : ∀ κ k1 k2 lv, κ = κr → k1 ≤ 603072 → k2 ≤ 7182442 → jW F 9 k1 k2 κ 3089 lv [.int 1]) {k1 k2 : Nat} (hk1 : k1 + 52 ≤ 603072) (hk2 : k2 + 7248 ≤ 7182442) {K28 : jKt → Int32 → Option (Int32 × jKt)} (hK28 : ∀ (κ : jKt) (u5 : Int32), K28 κ u5 = some (1, κr) → ∀ k1a k2a, k1a ≤ k1 + 52 → k2a ≤ k2 + 7248 → jW F 9 k1a k2a κ 28 [(0, .ref b), (1, .ref a1), (2, .ref a2), (3, .ref a3), (4, .ref a4), (5, .int u5)] []) (h : P_L_law_1345 xs L κ a1 a2 a3 a4 v5 K28 = some (1, κr)) : jW F 9 k1 k2 κ 1345 [(0, .ref b), (1, .ref a1), (2, .ref a2), (3, .ref a3), (4, .ref a4), (5, .int v5)] [] := by
  unfold P_L_law_1345 at h
  refine r_aload_n C 1 1346 rfl dL_law_1345 rfl ?_
  refine r_aload_n C 0 1347 rfl dL_law_1346 rfl ?_
  refine r_iload C 5 1349 rfl dL_law_1347 rfl ?_
  refine r_iconst C 1 rfl 1350 rfl dL_law_1349 ?_
  refine r_iadd C 1351 rfl dL_law_1350 ?_
  obtain ⟨i1686, h⟩ := ck_some h
  refine r_sld C hX i1686 1352 rfl dL_law_1351 ?_
  refine r_aload_n C 3 1353 rfl dL_law_1352 rfl ?_
  obtain ⟨y1688, κ1689, e1687, h⟩ := bd2_some h
  refine r_cSh C (st := []) (c_L_suitAt ha1 ha3 e1687) yv_L_suitAt ml_L_233 rfl ⟨Nat.le_of_ble_eq_true rfl, Nat.le_of_ble_eq_true rfl⟩ ⟨by omega, by omega⟩ (Nat.le_of_ble_eq_true rfl) rfl (k1 + 1) (k2 + 6) rfl rfl 1356 rfl dL_law_1353 ?_
  refine r_istore C (lv' := [(0, .ref b), (1, .ref a1), (2, .ref a2), (3, .ref a3), (4, .ref a4), (5, .int v5), (6, .int y1688)]) [1, 2, 3, 4, 5, 6, 0] 1358 rfl dL_law_1356 (Nat.le_of_ble_eq_true rfl) rfl ?_
  refine r_aload_n C 2 1359 rfl dL_law_1358 rfl ?_
  refine r_aload_n C 0 1360 rfl dL_law_1359 rfl ?_
  refine r_iload C 5 1362 rfl dL_law_1360 rfl ?_
  refine r_iconst C 1 rfl 1363 rfl dL_law_1362 ?_
  refine r_iadd C 1364 rfl dL_law_1363 ?_
  obtain ⟨i1690, h⟩ := ck_some h
  refine r_sld C hX i1690 1365 rfl dL_law_1364 ?_
  obtain ⟨y1692, κ1693, e1691, h⟩ := bd2_some h
  refine r_cVi C (st := []) (c_X7_suitAt ha2 e1691) yv_X7_suitAt ml_L_235 rfl ha2 rfl ⟨Nat.le_of_ble_eq_true rfl, Nat.le_of_ble_eq_true rfl⟩ ⟨by omega, by omega⟩ (Nat.le_of_ble_eq_true rfl) rfl (k1 + 1) (k2 + 6) rfl rfl 1368 rfl dL_law_1365 ?_
  refine r_istore C (lv' := [(0, .ref b), (1, .ref a1), (2, .ref a2), (3, .ref a3), (4, .ref a4), (5, .int v5), (6, .int y1688), (7, .int y1692)]) [1, 2, 3, 4, 5, 6, 7, 0] 1370 rfl dL_law_1368 (Nat.le_of_ble_eq_true rfl) rfl ?_
  refine r_aload_n C 2 1371 rfl dL_law_1370 rfl ?_
  obtain ⟨y1695, e1694, h⟩ := bd_some h
  refine r_cVi C (st := []) (c_X7_thrown ha2 e1694) yv_X7_thrown ml_L_175 rfl ha2 rfl ⟨Nat.le_of_ble_eq_true rfl, Nat.le_of_ble_eq_true rfl⟩ ⟨by omega, by omega⟩ (Nat.le_of_ble_eq_true rfl) rfl (k1 + 1) (k2 + 6) rfl rfl 1374 rfl dL_law_1371 ?_
  refine r_iload C 6 1376 rfl dL_law_1374 rfl ?_
  refine r_icmp_eq C 1381 1379 rfl dL_law_1376 rfl ⟨fun c1696 => ?_, fun c1696 => ?_⟩
  · have h := if_some_t c1696 h
    refine r_iload C 6 1383 rfl dL_law_1381 rfl ?_
    refine r_if_ne C 1398 1386 rfl dL_law_1383 rfl ⟨fun c1697 => ?_, fun c1697 => ?_⟩
    · have h := if_some_f c1697 h
      refine r_goto C 3082 dL_law_1398 rfl ?_
      refine r_lv [0, 1, 2, 3, 4, 5] rfl ?_
      refine r_wd (k1' := (k1 + 52)) (k2' := (k2 + 7248)) (by omega) (by omega) ?_
      exact w_L_law_3082 C hX ha1 ha2 ha3 ha4 hq (k1 := k1) (k2 := k2) (by omega) (by omega) (fun κ u5 h k1a k2a g1 g2 => hK28 κ u5 h k1a k2a (by omega) (by omega)) h
    · have h := if_some_t c1697 h
      refine r_aload_n C 3 1387 rfl dL_law_1386 rfl ?_
      refine r_iconst C 0 rfl 1388 rfl dL_law_1387 ?_
      refine r_lald C ha3 (by decide) 1389 rfl dL_law_1388 ?_
      refine r_iload C 7 1391 rfl dL_law_1389 rfl ?_
      refine r_i2l C 1392 rfl dL_law_1391 ?_
      refine r_lcmp C 1393 rfl dL_law_1392 ?_
      refine r_if_eq C 1398 1396 rfl dL_law_1393 rfl ⟨fun c1698 => ?_, fun c1698 => ?_⟩
      · have h := if_some_t c1698 h
        refine r_goto C 3082 dL_law_1398 rfl ?_
        refine r_lv [0, 1, 2, 3, 4, 5] rfl ?_
        refine r_wd (k1' := (k1 + 52)) (k2' := (k2 + 7248)) (by omega) (by omega) ?_
        exact w_L_law_3082 C hX ha1 ha2 ha3 ha4 hq (k1 := k1) (k2 := k2) (by omega) (by omega) (fun κ u5 h k1a k2a g1 g2 => hK28 κ u5 h k1a k2a (by omega) (by omega)) h
      · have h := if_some_f c1698 h
        refine r_iconst C 0 rfl 1397 rfl dL_law_1396 ?_
        exact absurd (congrArg (fun z => z.1) (Option.some.inj h)) (show ¬ ((0 : Int32) = 1) by decide)
  · have h := if_some_f c1696 h
    refine r_iconst C 0 rfl 1380 rfl dL_law_1379 ?_
    exact absurd (congrArg (fun z => z.1) (Option.some.inj h)) (show ¬ ((0 : Int32) = 1) by decide)
set_option maxRecDepth 20000 in
theorem w_L_law_1401 {F : jFm} (C : jA F RL cL_law 9 2048 603072 7182442 94400) {b L : Nat} {xs : Nat → Int32} (hX : jScr F b L xs) {κ : jKt} {a1 : Nat} (ha1 : jSof F a1 = (1, 10, 11)) {a2 : Nat} (ha2 : jSof F a2 = (1, 11, 22)) {a3 : Nat} (ha3 : jSof F a3 = (2, 3, 1)) {a4 : Nat} (ha4 : jSof F a4 = (2, 4, 1)) {v5 : Int32} {κr : jKt} (hq : ∀ κ k1 k2 lv, κ = κr → k1 ≤ 603072 → k2 ≤ 7182442 → jW F 9 k1 k2 κ 3089 lv [.int 1]) {k1 k2 : Nat} (hk1 : k1 + 52 ≤ 603072) (hk2 : k2 + 7248 ≤ 7182442) {K28 : jKt → Int32 → Option (Int32 × jKt)} (hK28 : ∀ (κ : jKt) (u5 : Int32), K28 κ u5 = some (1, κr) → ∀ k1a k2a, k1a ≤ k1 + 52 → k2a ≤ k2 + 7248 → jW F 9 k1a k2a κ 28 [(0, .ref b), (1, .ref a1), (2, .ref a2), (3, .ref a3), (4, .ref a4), (5, .int u5)] []) (h : P_L_law_1401 xs L κ a1 a2 a3 a4 v5 K28 = some (1, κr)) : jW F 9 k1 k2 κ 1401 [(0, .ref b), (1, .ref a1), (2, .ref a2), (3, .ref a3), (4, .ref a4), (5, .int v5)] [] := by
  unfold P_L_law_1401 at h
  refine r_aload_n C 1 1402 rfl dL_law_1401 rfl ?_
  refine r_aload_n C 0 1403 rfl dL_law_1402 rfl ?_
  refine r_iload C 5 1405 rfl dL_law_1403 rfl ?_
  refine r_iconst C 1 rfl 1406 rfl dL_law_1405 ?_
  refine r_iadd C 1407 rfl dL_law_1406 ?_
  obtain ⟨i1699, h⟩ := ck_some h
  refine r_sld C hX i1699 1408 rfl dL_law_1407 ?_
  refine r_aload_n C 3 1409 rfl dL_law_1408 rfl ?_
  obtain ⟨y1701, κ1702, e1700, h⟩ := bd2_some h
  refine r_cSh C (st := []) (c_L_customerOf ha1 ha3 e1700) yv_L_customerOf ml_L_236 rfl ⟨Nat.le_of_ble_eq_true rfl, Nat.le_of_ble_eq_true rfl⟩ ⟨by omega, by omega⟩ (Nat.le_of_ble_eq_true rfl) rfl (k1 + 1) (k2 + 6) rfl rfl 1412 rfl dL_law_1409 ?_
  refine r_istore C (lv' := [(0, .ref b), (1, .ref a1), (2, .ref a2), (3, .ref a3), (4, .ref a4), (5, .int v5), (6, .int y1701)]) [1, 2, 3, 4, 5, 6, 0] 1414 rfl dL_law_1412 (Nat.le_of_ble_eq_true rfl) rfl ?_
  refine r_aload_n C 2 1415 rfl dL_law_1414 rfl ?_
  refine r_aload_n C 0 1416 rfl dL_law_1415 rfl ?_
  refine r_iload C 5 1418 rfl dL_law_1416 rfl ?_
  refine r_iconst C 1 rfl 1419 rfl dL_law_1418 ?_
  refine r_iadd C 1420 rfl dL_law_1419 ?_
  obtain ⟨i1703, h⟩ := ck_some h
  refine r_sld C hX i1703 1421 rfl dL_law_1420 ?_
  obtain ⟨y1705, κ1706, e1704, h⟩ := bd2_some h
  refine r_cVi C (st := []) (c_X7_customerOf ha2 e1704) yv_X7_customerOf ml_L_238 rfl ha2 rfl ⟨Nat.le_of_ble_eq_true rfl, Nat.le_of_ble_eq_true rfl⟩ ⟨by omega, by omega⟩ (Nat.le_of_ble_eq_true rfl) rfl (k1 + 1) (k2 + 6) rfl rfl 1424 rfl dL_law_1421 ?_
  refine r_istore C (lv' := [(0, .ref b), (1, .ref a1), (2, .ref a2), (3, .ref a3), (4, .ref a4), (5, .int v5), (6, .int y1701), (7, .int y1705)]) [1, 2, 3, 4, 5, 6, 7, 0] 1426 rfl dL_law_1424 (Nat.le_of_ble_eq_true rfl) rfl ?_
  refine r_aload_n C 2 1427 rfl dL_law_1426 rfl ?_
  obtain ⟨y1708, e1707, h⟩ := bd_some h
  refine r_cVi C (st := []) (c_X7_thrown ha2 e1707) yv_X7_thrown ml_L_175 rfl ha2 rfl ⟨Nat.le_of_ble_eq_true rfl, Nat.le_of_ble_eq_true rfl⟩ ⟨by omega, by omega⟩ (Nat.le_of_ble_eq_true rfl) rfl (k1 + 1) (k2 + 6) rfl rfl 1430 rfl dL_law_1427 ?_
  refine r_iload C 6 1432 rfl dL_law_1430 rfl ?_
  refine r_icmp_eq C 1437 1435 rfl dL_law_1432 rfl ⟨fun c1709 => ?_, fun c1709 => ?_⟩
  · have h := if_some_t c1709 h
    refine r_iload C 6 1439 rfl dL_law_1437 rfl ?_
    refine r_if_ne C 1454 1442 rfl dL_law_1439 rfl ⟨fun c1710 => ?_, fun c1710 => ?_⟩
    · have h := if_some_f c1710 h
      refine r_goto C 3082 dL_law_1454 rfl ?_
      refine r_lv [0, 1, 2, 3, 4, 5] rfl ?_
      refine r_wd (k1' := (k1 + 52)) (k2' := (k2 + 7248)) (by omega) (by omega) ?_
      exact w_L_law_3082 C hX ha1 ha2 ha3 ha4 hq (k1 := k1) (k2 := k2) (by omega) (by omega) (fun κ u5 h k1a k2a g1 g2 => hK28 κ u5 h k1a k2a (by omega) (by omega)) h
    · have h := if_some_t c1710 h
      refine r_aload_n C 3 1443 rfl dL_law_1442 rfl ?_
      refine r_iconst C 0 rfl 1444 rfl dL_law_1443 ?_
      refine r_lald C ha3 (by decide) 1445 rfl dL_law_1444 ?_
      refine r_iload C 7 1447 rfl dL_law_1445 rfl ?_
      refine r_i2l C 1448 rfl dL_law_1447 ?_
      refine r_lcmp C 1449 rfl dL_law_1448 ?_
      refine r_if_eq C 1454 1452 rfl dL_law_1449 rfl ⟨fun c1711 => ?_, fun c1711 => ?_⟩
      · have h := if_some_t c1711 h
        refine r_goto C 3082 dL_law_1454 rfl ?_
        refine r_lv [0, 1, 2, 3, 4, 5] rfl ?_
        refine r_wd (k1' := (k1 + 52)) (k2' := (k2 + 7248)) (by omega) (by omega) ?_
        exact w_L_law_3082 C hX ha1 ha2 ha3 ha4 hq (k1 := k1) (k2 := k2) (by omega) (by omega) (fun κ u5 h k1a k2a g1 g2 => hK28 κ u5 h k1a k2a (by omega) (by omega)) h
      · have h := if_some_f c1711 h
        refine r_iconst C 0 rfl 1453 rfl dL_law_1452 ?_
        exact absurd (congrArg (fun z => z.1) (Option.some.inj h)) (show ¬ ((0 : Int32) = 1) by decide)
  · have h := if_some_f c1709 h
    refine r_iconst C 0 rfl 1436 rfl dL_law_1435 ?_
    exact absurd (congrArg (fun z => z.1) (Option.some.inj h)) (show ¬ ((0 : Int32) = 1) by decide)
set_option maxRecDepth 20000 in
theorem w_L_law_1457 {F : jFm} (C : jA F RL cL_law 9 2048 603072 7182442 94400) {b L : Nat} {xs : Nat → Int32} (hX : jScr F b L xs) {κ : jKt} {a1 : Nat} (ha1 : jSof F a1 = (1, 10, 11)) {a2 : Nat} (ha2 : jSof F a2 = (1, 11, 22)) {a3 : Nat} (ha3 : jSof F a3 = (2, 3, 1)) {a4 : Nat} (ha4 : jSof F a4 = (2, 4, 1)) {v5 : Int32} {κr : jKt} (hq : ∀ κ k1 k2 lv, κ = κr → k1 ≤ 603072 → k2 ≤ 7182442 → jW F 9 k1 k2 κ 3089 lv [.int 1]) {k1 k2 : Nat} (hk1 : k1 + 52 ≤ 603072) (hk2 : k2 + 7248 ≤ 7182442) {K28 : jKt → Int32 → Option (Int32 × jKt)} (hK28 : ∀ (κ : jKt) (u5 : Int32), K28 κ u5 = some (1, κr) → ∀ k1a k2a, k1a ≤ k1 + 52 → k2a ≤ k2 + 7248 → jW F 9 k1a k2a κ 28 [(0, .ref b), (1, .ref a1), (2, .ref a2), (3, .ref a3), (4, .ref a4), (5, .int u5)] []) (h : P_L_law_1457 xs L κ a1 a2 a3 a4 v5 K28 = some (1, κr)) : jW F 9 k1 k2 κ 1457 [(0, .ref b), (1, .ref a1), (2, .ref a2), (3, .ref a3), (4, .ref a4), (5, .int v5)] [] := by
  unfold P_L_law_1457 at h
  refine r_aload_n C 1 1458 rfl dL_law_1457 rfl ?_
  refine r_aload_n C 0 1459 rfl dL_law_1458 rfl ?_
  refine r_iload C 5 1461 rfl dL_law_1459 rfl ?_
  refine r_iconst C 1 rfl 1462 rfl dL_law_1461 ?_
  refine r_iadd C 1463 rfl dL_law_1462 ?_
  obtain ⟨i1712, h⟩ := ck_some h
  refine r_sld C hX i1712 1464 rfl dL_law_1463 ?_
  refine r_aload_n C 3 1465 rfl dL_law_1464 rfl ?_
  obtain ⟨y1714, κ1715, e1713, h⟩ := bd2_some h
  refine r_cSh C (st := []) (c_L_clothOf ha1 ha3 e1713) yv_L_clothOf ml_L_239 rfl ⟨Nat.le_of_ble_eq_true rfl, Nat.le_of_ble_eq_true rfl⟩ ⟨by omega, by omega⟩ (Nat.le_of_ble_eq_true rfl) rfl (k1 + 1) (k2 + 6) rfl rfl 1468 rfl dL_law_1465 ?_
  refine r_istore C (lv' := [(0, .ref b), (1, .ref a1), (2, .ref a2), (3, .ref a3), (4, .ref a4), (5, .int v5), (6, .int y1714)]) [1, 2, 3, 4, 5, 6, 0] 1470 rfl dL_law_1468 (Nat.le_of_ble_eq_true rfl) rfl ?_
  refine r_aload_n C 2 1471 rfl dL_law_1470 rfl ?_
  refine r_aload_n C 0 1472 rfl dL_law_1471 rfl ?_
  refine r_iload C 5 1474 rfl dL_law_1472 rfl ?_
  refine r_iconst C 1 rfl 1475 rfl dL_law_1474 ?_
  refine r_iadd C 1476 rfl dL_law_1475 ?_
  obtain ⟨i1716, h⟩ := ck_some h
  refine r_sld C hX i1716 1477 rfl dL_law_1476 ?_
  obtain ⟨y1718, κ1719, e1717, h⟩ := bd2_some h
  refine r_cVi C (st := []) (c_X7_clothOf ha2 e1717) yv_X7_clothOf ml_L_241 rfl ha2 rfl ⟨Nat.le_of_ble_eq_true rfl, Nat.le_of_ble_eq_true rfl⟩ ⟨by omega, by omega⟩ (Nat.le_of_ble_eq_true rfl) rfl (k1 + 1) (k2 + 6) rfl rfl 1480 rfl dL_law_1477 ?_
  refine r_istore C (lv' := [(0, .ref b), (1, .ref a1), (2, .ref a2), (3, .ref a3), (4, .ref a4), (5, .int v5), (6, .int y1714), (7, .int y1718)]) [1, 2, 3, 4, 5, 6, 7, 0] 1482 rfl dL_law_1480 (Nat.le_of_ble_eq_true rfl) rfl ?_
  refine r_aload_n C 2 1483 rfl dL_law_1482 rfl ?_
  obtain ⟨y1721, e1720, h⟩ := bd_some h
  refine r_cVi C (st := []) (c_X7_thrown ha2 e1720) yv_X7_thrown ml_L_175 rfl ha2 rfl ⟨Nat.le_of_ble_eq_true rfl, Nat.le_of_ble_eq_true rfl⟩ ⟨by omega, by omega⟩ (Nat.le_of_ble_eq_true rfl) rfl (k1 + 1) (k2 + 6) rfl rfl 1486 rfl dL_law_1483 ?_
  refine r_iload C 6 1488 rfl dL_law_1486 rfl ?_
  refine r_icmp_eq C 1493 1491 rfl dL_law_1488 rfl ⟨fun c1722 => ?_, fun c1722 => ?_⟩
  · have h := if_some_t c1722 h
    refine r_iload C 6 1495 rfl dL_law_1493 rfl ?_
    refine r_if_ne C 1510 1498 rfl dL_law_1495 rfl ⟨fun c1723 => ?_, fun c1723 => ?_⟩
    · have h := if_some_f c1723 h
      refine r_goto C 3082 dL_law_1510 rfl ?_
      refine r_lv [0, 1, 2, 3, 4, 5] rfl ?_
      refine r_wd (k1' := (k1 + 52)) (k2' := (k2 + 7248)) (by omega) (by omega) ?_
      exact w_L_law_3082 C hX ha1 ha2 ha3 ha4 hq (k1 := k1) (k2 := k2) (by omega) (by omega) (fun κ u5 h k1a k2a g1 g2 => hK28 κ u5 h k1a k2a (by omega) (by omega)) h
    · have h := if_some_t c1723 h
      refine r_aload_n C 3 1499 rfl dL_law_1498 rfl ?_
      refine r_iconst C 0 rfl 1500 rfl dL_law_1499 ?_
      refine r_lald C ha3 (by decide) 1501 rfl dL_law_1500 ?_
      refine r_iload C 7 1503 rfl dL_law_1501 rfl ?_
      refine r_i2l C 1504 rfl dL_law_1503 ?_
      refine r_lcmp C 1505 rfl dL_law_1504 ?_
      refine r_if_eq C 1510 1508 rfl dL_law_1505 rfl ⟨fun c1724 => ?_, fun c1724 => ?_⟩
      · have h := if_some_t c1724 h
        refine r_goto C 3082 dL_law_1510 rfl ?_
        refine r_lv [0, 1, 2, 3, 4, 5] rfl ?_
        refine r_wd (k1' := (k1 + 52)) (k2' := (k2 + 7248)) (by omega) (by omega) ?_
        exact w_L_law_3082 C hX ha1 ha2 ha3 ha4 hq (k1 := k1) (k2 := k2) (by omega) (by omega) (fun κ u5 h k1a k2a g1 g2 => hK28 κ u5 h k1a k2a (by omega) (by omega)) h
      · have h := if_some_f c1724 h
        refine r_iconst C 0 rfl 1509 rfl dL_law_1508 ?_
        exact absurd (congrArg (fun z => z.1) (Option.some.inj h)) (show ¬ ((0 : Int32) = 1) by decide)
  · have h := if_some_f c1722 h
    refine r_iconst C 0 rfl 1492 rfl dL_law_1491 ?_
    exact absurd (congrArg (fun z => z.1) (Option.some.inj h)) (show ¬ ((0 : Int32) = 1) by decide)
set_option maxRecDepth 20000 in
theorem w_L_law_1513 {F : jFm} (C : jA F RL cL_law 9 2048 603072 7182442 94400) {b L : Nat} {xs : Nat → Int32} (hX : jScr F b L xs) {κ : jKt} {a1 : Nat} (ha1 : jSof F a1 = (1, 10, 11)) {a2 : Nat} (ha2 : jSof F a2 = (1, 11, 22)) {a3 : Nat} (ha3 : jSof F a3 = (2, 3, 1)) {a4 : Nat} (ha4 : jSof F a4 = (2, 4, 1)) {v5 : Int32} {κr : jKt} (hq : ∀ κ k1 k2 lv, κ = κr → k1 ≤ 603072 → k2 ≤ 7182442 → jW F 9 k1 k2 κ 3089 lv [.int 1]) {k1 k2 : Nat} (hk1 : k1 + 52 ≤ 603072) (hk2 : k2 + 7248 ≤ 7182442) {K28 : jKt → Int32 → Option (Int32 × jKt)} (hK28 : ∀ (κ : jKt) (u5 : Int32), K28 κ u5 = some (1, κr) → ∀ k1a k2a, k1a ≤ k1 + 52 → k2a ≤ k2 + 7248 → jW F 9 k1a k2a κ 28 [(0, .ref b), (1, .ref a1), (2, .ref a2), (3, .ref a3), (4, .ref a4), (5, .int u5)] []) (h : P_L_law_1513 xs L κ a1 a2 a3 a4 v5 K28 = some (1, κr)) : jW F 9 k1 k2 κ 1513 [(0, .ref b), (1, .ref a1), (2, .ref a2), (3, .ref a3), (4, .ref a4), (5, .int v5)] [] := by
  unfold P_L_law_1513 at h
  refine r_aload_n C 1 1514 rfl dL_law_1513 rfl ?_
  refine r_aload_n C 0 1515 rfl dL_law_1514 rfl ?_
  refine r_iload C 5 1517 rfl dL_law_1515 rfl ?_
  refine r_iconst C 1 rfl 1518 rfl dL_law_1517 ?_
  refine r_iadd C 1519 rfl dL_law_1518 ?_
  obtain ⟨i1725, h⟩ := ck_some h
  refine r_sld C hX i1725 1520 rfl dL_law_1519 ?_
  refine r_aload_n C 0 1521 rfl dL_law_1520 rfl ?_
  refine r_iload C 5 1523 rfl dL_law_1521 rfl ?_
  refine r_iconst C 2 rfl 1524 rfl dL_law_1523 ?_
  refine r_iadd C 1525 rfl dL_law_1524 ?_
  obtain ⟨i1726, h⟩ := ck_some h
  refine r_sld C hX i1726 1526 rfl dL_law_1525 ?_
  refine r_aload_n C 3 1527 rfl dL_law_1526 rfl ?_
  obtain ⟨y1728, κ1729, e1727, h⟩ := bd2_some h
  refine r_cSh C (st := []) (c_L_sleeveState ha1 ha3 e1727) yv_L_sleeveState ml_L_242 rfl ⟨Nat.le_of_ble_eq_true rfl, Nat.le_of_ble_eq_true rfl⟩ ⟨by omega, by omega⟩ (Nat.le_of_ble_eq_true rfl) rfl (k1 + 2) (k2 + 12) rfl rfl 1530 rfl dL_law_1527 ?_
  refine r_istore C (lv' := [(0, .ref b), (1, .ref a1), (2, .ref a2), (3, .ref a3), (4, .ref a4), (5, .int v5), (6, .int y1728)]) [1, 2, 3, 4, 5, 6, 0] 1532 rfl dL_law_1530 (Nat.le_of_ble_eq_true rfl) rfl ?_
  refine r_aload_n C 2 1533 rfl dL_law_1532 rfl ?_
  refine r_aload_n C 0 1534 rfl dL_law_1533 rfl ?_
  refine r_iload C 5 1536 rfl dL_law_1534 rfl ?_
  refine r_iconst C 1 rfl 1537 rfl dL_law_1536 ?_
  refine r_iadd C 1538 rfl dL_law_1537 ?_
  obtain ⟨i1730, h⟩ := ck_some h
  refine r_sld C hX i1730 1539 rfl dL_law_1538 ?_
  refine r_aload_n C 0 1540 rfl dL_law_1539 rfl ?_
  refine r_iload C 5 1542 rfl dL_law_1540 rfl ?_
  refine r_iconst C 2 rfl 1543 rfl dL_law_1542 ?_
  refine r_iadd C 1544 rfl dL_law_1543 ?_
  obtain ⟨i1731, h⟩ := ck_some h
  refine r_sld C hX i1731 1545 rfl dL_law_1544 ?_
  obtain ⟨y1733, κ1734, e1732, h⟩ := bd2_some h
  refine r_cVi C (st := []) (c_X7_sleeveState ha2 e1732) yv_X7_sleeveState ml_L_244 rfl ha2 rfl ⟨Nat.le_of_ble_eq_true rfl, Nat.le_of_ble_eq_true rfl⟩ ⟨by omega, by omega⟩ (Nat.le_of_ble_eq_true rfl) rfl (k1 + 2) (k2 + 12) rfl rfl 1548 rfl dL_law_1545 ?_
  refine r_istore C (lv' := [(0, .ref b), (1, .ref a1), (2, .ref a2), (3, .ref a3), (4, .ref a4), (5, .int v5), (6, .int y1728), (7, .int y1733)]) [1, 2, 3, 4, 5, 6, 7, 0] 1550 rfl dL_law_1548 (Nat.le_of_ble_eq_true rfl) rfl ?_
  refine r_aload_n C 2 1551 rfl dL_law_1550 rfl ?_
  obtain ⟨y1736, e1735, h⟩ := bd_some h
  refine r_cVi C (st := []) (c_X7_thrown ha2 e1735) yv_X7_thrown ml_L_175 rfl ha2 rfl ⟨Nat.le_of_ble_eq_true rfl, Nat.le_of_ble_eq_true rfl⟩ ⟨by omega, by omega⟩ (Nat.le_of_ble_eq_true rfl) rfl (k1 + 2) (k2 + 12) rfl rfl 1554 rfl dL_law_1551 ?_
  refine r_iload C 6 1556 rfl dL_law_1554 rfl ?_
  refine r_icmp_eq C 1561 1559 rfl dL_law_1556 rfl ⟨fun c1737 => ?_, fun c1737 => ?_⟩
  · have h := if_some_t c1737 h
    refine r_iload C 6 1563 rfl dL_law_1561 rfl ?_
    refine r_if_ne C 1578 1566 rfl dL_law_1563 rfl ⟨fun c1738 => ?_, fun c1738 => ?_⟩
    · have h := if_some_f c1738 h
      refine r_goto C 3082 dL_law_1578 rfl ?_
      refine r_lv [0, 1, 2, 3, 4, 5] rfl ?_
      refine r_wd (k1' := (k1 + 52)) (k2' := (k2 + 7248)) (by omega) (by omega) ?_
      exact w_L_law_3082 C hX ha1 ha2 ha3 ha4 hq (k1 := k1) (k2 := k2) (by omega) (by omega) (fun κ u5 h k1a k2a g1 g2 => hK28 κ u5 h k1a k2a (by omega) (by omega)) h
    · have h := if_some_t c1738 h
      refine r_aload_n C 3 1567 rfl dL_law_1566 rfl ?_
      refine r_iconst C 0 rfl 1568 rfl dL_law_1567 ?_
      refine r_lald C ha3 (by decide) 1569 rfl dL_law_1568 ?_
      refine r_iload C 7 1571 rfl dL_law_1569 rfl ?_
      refine r_i2l C 1572 rfl dL_law_1571 ?_
      refine r_lcmp C 1573 rfl dL_law_1572 ?_
      refine r_if_eq C 1578 1576 rfl dL_law_1573 rfl ⟨fun c1739 => ?_, fun c1739 => ?_⟩
      · have h := if_some_t c1739 h
        refine r_goto C 3082 dL_law_1578 rfl ?_
        refine r_lv [0, 1, 2, 3, 4, 5] rfl ?_
        refine r_wd (k1' := (k1 + 52)) (k2' := (k2 + 7248)) (by omega) (by omega) ?_
        exact w_L_law_3082 C hX ha1 ha2 ha3 ha4 hq (k1 := k1) (k2 := k2) (by omega) (by omega) (fun κ u5 h k1a k2a g1 g2 => hK28 κ u5 h k1a k2a (by omega) (by omega)) h
      · have h := if_some_f c1739 h
        refine r_iconst C 0 rfl 1577 rfl dL_law_1576 ?_
        exact absurd (congrArg (fun z => z.1) (Option.some.inj h)) (show ¬ ((0 : Int32) = 1) by decide)
  · have h := if_some_f c1737 h
    refine r_iconst C 0 rfl 1560 rfl dL_law_1559 ?_
    exact absurd (congrArg (fun z => z.1) (Option.some.inj h)) (show ¬ ((0 : Int32) = 1) by decide)
set_option maxRecDepth 20000 in
theorem w_L_law_1581 {F : jFm} (C : jA F RL cL_law 9 2048 603072 7182442 94400) {b L : Nat} {xs : Nat → Int32} (hX : jScr F b L xs) {κ : jKt} {a1 : Nat} (ha1 : jSof F a1 = (1, 10, 11)) {a2 : Nat} (ha2 : jSof F a2 = (1, 11, 22)) {a3 : Nat} (ha3 : jSof F a3 = (2, 3, 1)) {a4 : Nat} (ha4 : jSof F a4 = (2, 4, 1)) {v5 : Int32} {κr : jKt} (hq : ∀ κ k1 k2 lv, κ = κr → k1 ≤ 603072 → k2 ≤ 7182442 → jW F 9 k1 k2 κ 3089 lv [.int 1]) {k1 k2 : Nat} (hk1 : k1 + 52 ≤ 603072) (hk2 : k2 + 7248 ≤ 7182442) {K28 : jKt → Int32 → Option (Int32 × jKt)} (hK28 : ∀ (κ : jKt) (u5 : Int32), K28 κ u5 = some (1, κr) → ∀ k1a k2a, k1a ≤ k1 + 52 → k2a ≤ k2 + 7248 → jW F 9 k1a k2a κ 28 [(0, .ref b), (1, .ref a1), (2, .ref a2), (3, .ref a3), (4, .ref a4), (5, .int u5)] []) (h : P_L_law_1581 xs L κ a1 a2 a3 a4 v5 K28 = some (1, κr)) : jW F 9 k1 k2 κ 1581 [(0, .ref b), (1, .ref a1), (2, .ref a2), (3, .ref a3), (4, .ref a4), (5, .int v5)] [] := by
  unfold P_L_law_1581 at h
  refine r_aload_n C 1 1582 rfl dL_law_1581 rfl ?_
  refine r_aload_n C 0 1583 rfl dL_law_1582 rfl ?_
  refine r_iload C 5 1585 rfl dL_law_1583 rfl ?_
  refine r_iconst C 1 rfl 1586 rfl dL_law_1585 ?_
  refine r_iadd C 1587 rfl dL_law_1586 ?_
  obtain ⟨i1740, h⟩ := ck_some h
  refine r_sld C hX i1740 1588 rfl dL_law_1587 ?_
  refine r_aload_n C 0 1589 rfl dL_law_1588 rfl ?_
  refine r_iload C 5 1591 rfl dL_law_1589 rfl ?_
  refine r_iconst C 2 rfl 1592 rfl dL_law_1591 ?_
  refine r_iadd C 1593 rfl dL_law_1592 ?_
  obtain ⟨i1741, h⟩ := ck_some h
  refine r_sld C hX i1741 1594 rfl dL_law_1593 ?_
  refine r_aload_n C 3 1595 rfl dL_law_1594 rfl ?_
  obtain ⟨y1743, κ1744, e1742, h⟩ := bd2_some h
  refine r_cSh C (st := []) (c_L_sleeveLength ha1 ha3 e1742) yv_L_sleeveLength ml_L_245 rfl ⟨Nat.le_of_ble_eq_true rfl, Nat.le_of_ble_eq_true rfl⟩ ⟨by omega, by omega⟩ (Nat.le_of_ble_eq_true rfl) rfl (k1 + 3) (k2 + 18) rfl rfl 1598 rfl dL_law_1595 ?_
  refine r_istore C (lv' := [(0, .ref b), (1, .ref a1), (2, .ref a2), (3, .ref a3), (4, .ref a4), (5, .int v5), (6, .int y1743)]) [1, 2, 3, 4, 5, 6, 0] 1600 rfl dL_law_1598 (Nat.le_of_ble_eq_true rfl) rfl ?_
  refine r_aload_n C 2 1601 rfl dL_law_1600 rfl ?_
  refine r_aload_n C 0 1602 rfl dL_law_1601 rfl ?_
  refine r_iload C 5 1604 rfl dL_law_1602 rfl ?_
  refine r_iconst C 1 rfl 1605 rfl dL_law_1604 ?_
  refine r_iadd C 1606 rfl dL_law_1605 ?_
  obtain ⟨i1745, h⟩ := ck_some h
  refine r_sld C hX i1745 1607 rfl dL_law_1606 ?_
  refine r_aload_n C 0 1608 rfl dL_law_1607 rfl ?_
  refine r_iload C 5 1610 rfl dL_law_1608 rfl ?_
  refine r_iconst C 2 rfl 1611 rfl dL_law_1610 ?_
  refine r_iadd C 1612 rfl dL_law_1611 ?_
  obtain ⟨i1746, h⟩ := ck_some h
  refine r_sld C hX i1746 1613 rfl dL_law_1612 ?_
  obtain ⟨y1748, κ1749, e1747, h⟩ := bd2_some h
  refine r_cVi C (st := []) (c_X7_sleeveLength ha2 e1747) yv_X7_sleeveLength ml_L_247 rfl ha2 rfl ⟨Nat.le_of_ble_eq_true rfl, Nat.le_of_ble_eq_true rfl⟩ ⟨by omega, by omega⟩ (Nat.le_of_ble_eq_true rfl) rfl (k1 + 3) (k2 + 18) rfl rfl 1616 rfl dL_law_1613 ?_
  refine r_istore C (lv' := [(0, .ref b), (1, .ref a1), (2, .ref a2), (3, .ref a3), (4, .ref a4), (5, .int v5), (6, .int y1743), (7, .int y1748)]) [1, 2, 3, 4, 5, 6, 7, 0] 1618 rfl dL_law_1616 (Nat.le_of_ble_eq_true rfl) rfl ?_
  refine r_aload_n C 2 1619 rfl dL_law_1618 rfl ?_
  obtain ⟨y1751, e1750, h⟩ := bd_some h
  refine r_cVi C (st := []) (c_X7_thrown ha2 e1750) yv_X7_thrown ml_L_175 rfl ha2 rfl ⟨Nat.le_of_ble_eq_true rfl, Nat.le_of_ble_eq_true rfl⟩ ⟨by omega, by omega⟩ (Nat.le_of_ble_eq_true rfl) rfl (k1 + 3) (k2 + 18) rfl rfl 1622 rfl dL_law_1619 ?_
  refine r_iload C 6 1624 rfl dL_law_1622 rfl ?_
  refine r_icmp_eq C 1629 1627 rfl dL_law_1624 rfl ⟨fun c1752 => ?_, fun c1752 => ?_⟩
  · have h := if_some_t c1752 h
    refine r_iload C 6 1631 rfl dL_law_1629 rfl ?_
    refine r_if_ne C 1646 1634 rfl dL_law_1631 rfl ⟨fun c1753 => ?_, fun c1753 => ?_⟩
    · have h := if_some_f c1753 h
      refine r_goto C 3082 dL_law_1646 rfl ?_
      refine r_lv [0, 1, 2, 3, 4, 5] rfl ?_
      refine r_wd (k1' := (k1 + 52)) (k2' := (k2 + 7248)) (by omega) (by omega) ?_
      exact w_L_law_3082 C hX ha1 ha2 ha3 ha4 hq (k1 := k1) (k2 := k2) (by omega) (by omega) (fun κ u5 h k1a k2a g1 g2 => hK28 κ u5 h k1a k2a (by omega) (by omega)) h
    · have h := if_some_t c1753 h
      refine r_aload_n C 3 1635 rfl dL_law_1634 rfl ?_
      refine r_iconst C 0 rfl 1636 rfl dL_law_1635 ?_
      refine r_lald C ha3 (by decide) 1637 rfl dL_law_1636 ?_
      refine r_iload C 7 1639 rfl dL_law_1637 rfl ?_
      refine r_i2l C 1640 rfl dL_law_1639 ?_
      refine r_lcmp C 1641 rfl dL_law_1640 ?_
      refine r_if_eq C 1646 1644 rfl dL_law_1641 rfl ⟨fun c1754 => ?_, fun c1754 => ?_⟩
      · have h := if_some_t c1754 h
        refine r_goto C 3082 dL_law_1646 rfl ?_
        refine r_lv [0, 1, 2, 3, 4, 5] rfl ?_
        refine r_wd (k1' := (k1 + 52)) (k2' := (k2 + 7248)) (by omega) (by omega) ?_
        exact w_L_law_3082 C hX ha1 ha2 ha3 ha4 hq (k1 := k1) (k2 := k2) (by omega) (by omega) (fun κ u5 h k1a k2a g1 g2 => hK28 κ u5 h k1a k2a (by omega) (by omega)) h
      · have h := if_some_f c1754 h
        refine r_iconst C 0 rfl 1645 rfl dL_law_1644 ?_
        exact absurd (congrArg (fun z => z.1) (Option.some.inj h)) (show ¬ ((0 : Int32) = 1) by decide)
  · have h := if_some_f c1752 h
    refine r_iconst C 0 rfl 1628 rfl dL_law_1627 ?_
    exact absurd (congrArg (fun z => z.1) (Option.some.inj h)) (show ¬ ((0 : Int32) = 1) by decide)
set_option maxRecDepth 20000 in
theorem w_L_law_1715 {F : jFm} (C : jA F RL cL_law 9 2048 603072 7182442 94400) {b L : Nat} {xs : Nat → Int32} (hX : jScr F b L xs) {κ : jKt} {a1 : Nat} (ha1 : jSof F a1 = (1, 10, 11)) {a2 : Nat} (ha2 : jSof F a2 = (1, 11, 22)) {a3 : Nat} (ha3 : jSof F a3 = (2, 3, 1)) {a4 : Nat} (ha4 : jSof F a4 = (2, 4, 1)) {v5 : Int32} {s0 : Int64} {s1 : Int64} {κr : jKt} (hq : ∀ κ k1 k2 lv, κ = κr → k1 ≤ 603072 → k2 ≤ 7182442 → jW F 9 k1 k2 κ 3089 lv [.int 1]) {k1 k2 : Nat} (hk1 : k1 + 52 ≤ 603072) (hk2 : k2 + 7248 ≤ 7182442) {K28 : jKt → Int32 → Option (Int32 × jKt)} (hK28 : ∀ (κ : jKt) (u5 : Int32), K28 κ u5 = some (1, κr) → ∀ k1a k2a, k1a ≤ k1 + 52 → k2a ≤ k2 + 7248 → jW F 9 k1a k2a κ 28 [(0, .ref b), (1, .ref a1), (2, .ref a2), (3, .ref a3), (4, .ref a4), (5, .int u5)] []) (h : P_L_law_1715 xs L κ a1 a2 a3 a4 v5 s0 s1 K28 = some (1, κr)) : jW F 9 (k1 + 3) (k2 + 18) κ 1715 [(0, .ref b), (1, .ref a1), (2, .ref a2), (3, .ref a3), (4, .ref a4), (5, .int v5)] [.long s0, .long s1] := by
  unfold P_L_law_1715 at h
  refine r_lcmp C 1716 rfl dL_law_1715 ?_
  refine r_if_eq C 1721 1719 rfl dL_law_1716 rfl ⟨fun c1755 => ?_, fun c1755 => ?_⟩
  · have h := if_some_t c1755 h
    refine r_goto C 3082 dL_law_1721 rfl ?_
    refine r_wd (k1' := (k1 + 52)) (k2' := (k2 + 7248)) (by omega) (by omega) ?_
    exact w_L_law_3082 C hX ha1 ha2 ha3 ha4 hq (k1 := k1) (k2 := k2) (by omega) (by omega) (fun κ u5 h k1a k2a g1 g2 => hK28 κ u5 h k1a k2a (by omega) (by omega)) h
  · have h := if_some_f c1755 h
    refine r_iconst C 0 rfl 1720 rfl dL_law_1719 ?_
    exact absurd (congrArg (fun z => z.1) (Option.some.inj h)) (show ¬ ((0 : Int32) = 1) by decide)
set_option maxRecDepth 20000 in
theorem w_L_law_1649 {F : jFm} (C : jA F RL cL_law 9 2048 603072 7182442 94400) {b L : Nat} {xs : Nat → Int32} (hX : jScr F b L xs) {κ : jKt} {a1 : Nat} (ha1 : jSof F a1 = (1, 10, 11)) {a2 : Nat} (ha2 : jSof F a2 = (1, 11, 22)) {a3 : Nat} (ha3 : jSof F a3 = (2, 3, 1)) {a4 : Nat} (ha4 : jSof F a4 = (2, 4, 1)) {v5 : Int32} {κr : jKt} (hq : ∀ κ k1 k2 lv, κ = κr → k1 ≤ 603072 → k2 ≤ 7182442 → jW F 9 k1 k2 κ 3089 lv [.int 1]) {k1 k2 : Nat} (hk1 : k1 + 52 ≤ 603072) (hk2 : k2 + 7248 ≤ 7182442) {K28 : jKt → Int32 → Option (Int32 × jKt)} (hK28 : ∀ (κ : jKt) (u5 : Int32), K28 κ u5 = some (1, κr) → ∀ k1a k2a, k1a ≤ k1 + 52 → k2a ≤ k2 + 7248 → jW F 9 k1a k2a κ 28 [(0, .ref b), (1, .ref a1), (2, .ref a2), (3, .ref a3), (4, .ref a4), (5, .int u5)] []) (h : P_L_law_1649 xs L κ a1 a2 a3 a4 v5 K28 = some (1, κr)) : jW F 9 k1 k2 κ 1649 [(0, .ref b), (1, .ref a1), (2, .ref a2), (3, .ref a3), (4, .ref a4), (5, .int v5)] [] := by
  unfold P_L_law_1649 at h
  refine r_aload_n C 1 1650 rfl dL_law_1649 rfl ?_
  refine r_aload_n C 0 1651 rfl dL_law_1650 rfl ?_
  refine r_iload C 5 1653 rfl dL_law_1651 rfl ?_
  refine r_iconst C 1 rfl 1654 rfl dL_law_1653 ?_
  refine r_iadd C 1655 rfl dL_law_1654 ?_
  obtain ⟨i1756, h⟩ := ck_some h
  refine r_sld C hX i1756 1656 rfl dL_law_1655 ?_
  refine r_aload_n C 0 1657 rfl dL_law_1656 rfl ?_
  refine r_iload C 5 1659 rfl dL_law_1657 rfl ?_
  refine r_iconst C 2 rfl 1660 rfl dL_law_1659 ?_
  refine r_iadd C 1661 rfl dL_law_1660 ?_
  obtain ⟨i1757, h⟩ := ck_some h
  refine r_sld C hX i1757 1662 rfl dL_law_1661 ?_
  refine r_aload_n C 3 1663 rfl dL_law_1662 rfl ?_
  obtain ⟨y1759, κ1760, e1758, h⟩ := bd2_some h
  refine r_cSh C (st := []) (c_L_doesFit ha1 ha3 e1758) yv_L_doesFit ml_L_248 rfl ⟨Nat.le_of_ble_eq_true rfl, Nat.le_of_ble_eq_true rfl⟩ ⟨by omega, by omega⟩ (Nat.le_of_ble_eq_true rfl) rfl (k1 + 3) (k2 + 18) rfl rfl 1666 rfl dL_law_1663 ?_
  refine r_istore C (lv' := [(0, .ref b), (1, .ref a1), (2, .ref a2), (3, .ref a3), (4, .ref a4), (5, .int v5), (6, .int y1759)]) [1, 2, 3, 4, 5, 6, 0] 1668 rfl dL_law_1666 (Nat.le_of_ble_eq_true rfl) rfl ?_
  refine r_aload_n C 2 1669 rfl dL_law_1668 rfl ?_
  refine r_aload_n C 0 1670 rfl dL_law_1669 rfl ?_
  refine r_iload C 5 1672 rfl dL_law_1670 rfl ?_
  refine r_iconst C 1 rfl 1673 rfl dL_law_1672 ?_
  refine r_iadd C 1674 rfl dL_law_1673 ?_
  obtain ⟨i1761, h⟩ := ck_some h
  refine r_sld C hX i1761 1675 rfl dL_law_1674 ?_
  refine r_aload_n C 0 1676 rfl dL_law_1675 rfl ?_
  refine r_iload C 5 1678 rfl dL_law_1676 rfl ?_
  refine r_iconst C 2 rfl 1679 rfl dL_law_1678 ?_
  refine r_iadd C 1680 rfl dL_law_1679 ?_
  obtain ⟨i1762, h⟩ := ck_some h
  refine r_sld C hX i1762 1681 rfl dL_law_1680 ?_
  obtain ⟨y1764, κ1765, e1763, h⟩ := bd2_some h
  refine r_cVi C (st := []) (c_X7_doesFit ha2 e1763) yv_X7_doesFit ml_L_250 rfl ha2 rfl ⟨Nat.le_of_ble_eq_true rfl, Nat.le_of_ble_eq_true rfl⟩ ⟨by omega, by omega⟩ (Nat.le_of_ble_eq_true rfl) rfl (k1 + 3) (k2 + 18) rfl rfl 1684 rfl dL_law_1681 ?_
  refine r_istore C (lv' := [(0, .ref b), (1, .ref a1), (2, .ref a2), (3, .ref a3), (4, .ref a4), (5, .int v5), (6, .int y1759), (7, .int y1764)]) [1, 2, 3, 4, 5, 6, 7, 0] 1686 rfl dL_law_1684 (Nat.le_of_ble_eq_true rfl) rfl ?_
  refine r_aload_n C 2 1687 rfl dL_law_1686 rfl ?_
  obtain ⟨y1767, e1766, h⟩ := bd_some h
  refine r_cVi C (st := []) (c_X7_thrown ha2 e1766) yv_X7_thrown ml_L_175 rfl ha2 rfl ⟨Nat.le_of_ble_eq_true rfl, Nat.le_of_ble_eq_true rfl⟩ ⟨by omega, by omega⟩ (Nat.le_of_ble_eq_true rfl) rfl (k1 + 3) (k2 + 18) rfl rfl 1690 rfl dL_law_1687 ?_
  refine r_iload C 6 1692 rfl dL_law_1690 rfl ?_
  refine r_icmp_eq C 1697 1695 rfl dL_law_1692 rfl ⟨fun c1768 => ?_, fun c1768 => ?_⟩
  · have h := if_some_t c1768 h
    refine r_iload C 6 1699 rfl dL_law_1697 rfl ?_
    refine r_if_ne C 1721 1702 rfl dL_law_1699 rfl ⟨fun c1769 => ?_, fun c1769 => ?_⟩
    · have h := if_some_f c1769 h
      refine r_goto C 3082 dL_law_1721 rfl ?_
      refine r_lv [0, 1, 2, 3, 4, 5] rfl ?_
      refine r_wd (k1' := (k1 + 52)) (k2' := (k2 + 7248)) (by omega) (by omega) ?_
      exact w_L_law_3082 C hX ha1 ha2 ha3 ha4 hq (k1 := k1) (k2 := k2) (by omega) (by omega) (fun κ u5 h k1a k2a g1 g2 => hK28 κ u5 h k1a k2a (by omega) (by omega)) h
    · have h := if_some_t c1769 h
      refine r_aload_n C 3 1703 rfl dL_law_1702 rfl ?_
      refine r_iconst C 0 rfl 1704 rfl dL_law_1703 ?_
      refine r_lald C ha3 (by decide) 1705 rfl dL_law_1704 ?_
      refine r_iload C 7 1707 rfl dL_law_1705 rfl ?_
      refine r_if_eq C 1714 1710 rfl dL_law_1707 rfl ⟨fun c1770 => ?_, fun c1770 => ?_⟩
      · have h := if_some_t c1770 h
        refine r_lconst C 0 rfl 1715 rfl dL_law_1714 ?_
        refine r_lv [0, 1, 2, 3, 4, 5] rfl ?_
        exact w_L_law_1715 C hX ha1 ha2 ha3 ha4 hq (k1 := k1) (k2 := k2) (by omega) (by omega) (fun κ u5 h k1a k2a g1 g2 => hK28 κ u5 h k1a k2a (by omega) (by omega)) h
      · have h := if_some_f c1770 h
        refine r_lconst C 1 rfl 1711 rfl dL_law_1710 ?_
        refine r_goto C 1715 dL_law_1711 rfl ?_
        refine r_lv [0, 1, 2, 3, 4, 5] rfl ?_
        exact w_L_law_1715 C hX ha1 ha2 ha3 ha4 hq (k1 := k1) (k2 := k2) (by omega) (by omega) (fun κ u5 h k1a k2a g1 g2 => hK28 κ u5 h k1a k2a (by omega) (by omega)) h
  · have h := if_some_f c1768 h
    refine r_iconst C 0 rfl 1696 rfl dL_law_1695 ?_
    exact absurd (congrArg (fun z => z.1) (Option.some.inj h)) (show ¬ ((0 : Int32) = 1) by decide)
set_option maxRecDepth 20000 in
theorem w_L_law_1724 {F : jFm} (C : jA F RL cL_law 9 2048 603072 7182442 94400) {b L : Nat} {xs : Nat → Int32} (hX : jScr F b L xs) {κ : jKt} {a1 : Nat} (ha1 : jSof F a1 = (1, 10, 11)) {a2 : Nat} (ha2 : jSof F a2 = (1, 11, 22)) {a3 : Nat} (ha3 : jSof F a3 = (2, 3, 1)) {a4 : Nat} (ha4 : jSof F a4 = (2, 4, 1)) {v5 : Int32} {κr : jKt} (hq : ∀ κ k1 k2 lv, κ = κr → k1 ≤ 603072 → k2 ≤ 7182442 → jW F 9 k1 k2 κ 3089 lv [.int 1]) {k1 k2 : Nat} (hk1 : k1 + 52 ≤ 603072) (hk2 : k2 + 7248 ≤ 7182442) {K28 : jKt → Int32 → Option (Int32 × jKt)} (hK28 : ∀ (κ : jKt) (u5 : Int32), K28 κ u5 = some (1, κr) → ∀ k1a k2a, k1a ≤ k1 + 52 → k2a ≤ k2 + 7248 → jW F 9 k1a k2a κ 28 [(0, .ref b), (1, .ref a1), (2, .ref a2), (3, .ref a3), (4, .ref a4), (5, .int u5)] []) (h : P_L_law_1724 xs L κ a1 a2 a3 a4 v5 K28 = some (1, κr)) : jW F 9 k1 k2 κ 1724 [(0, .ref b), (1, .ref a1), (2, .ref a2), (3, .ref a3), (4, .ref a4), (5, .int v5)] [] := by
  unfold P_L_law_1724 at h
  refine r_aload_n C 1 1725 rfl dL_law_1724 rfl ?_
  refine r_aload_n C 0 1726 rfl dL_law_1725 rfl ?_
  refine r_iload C 5 1728 rfl dL_law_1726 rfl ?_
  refine r_iconst C 1 rfl 1729 rfl dL_law_1728 ?_
  refine r_iadd C 1730 rfl dL_law_1729 ?_
  obtain ⟨i1771, h⟩ := ck_some h
  refine r_sld C hX i1771 1731 rfl dL_law_1730 ?_
  refine r_aload_n C 3 1732 rfl dL_law_1731 rfl ?_
  obtain ⟨y1773, κ1774, e1772, h⟩ := bd2_some h
  refine r_cSh C (st := []) (c_L_sewnSleeves ha1 ha3 e1772) yv_L_sewnSleeves ml_L_251 rfl ⟨Nat.le_of_ble_eq_true rfl, Nat.le_of_ble_eq_true rfl⟩ ⟨by omega, by omega⟩ (Nat.le_of_ble_eq_true rfl) rfl (k1 + 1) (k2 + 6) rfl rfl 1735 rfl dL_law_1732 ?_
  refine r_istore C (lv' := [(0, .ref b), (1, .ref a1), (2, .ref a2), (3, .ref a3), (4, .ref a4), (5, .int v5), (6, .int y1773)]) [1, 2, 3, 4, 5, 6, 0] 1737 rfl dL_law_1735 (Nat.le_of_ble_eq_true rfl) rfl ?_
  refine r_aload_n C 2 1738 rfl dL_law_1737 rfl ?_
  refine r_aload_n C 0 1739 rfl dL_law_1738 rfl ?_
  refine r_iload C 5 1741 rfl dL_law_1739 rfl ?_
  refine r_iconst C 1 rfl 1742 rfl dL_law_1741 ?_
  refine r_iadd C 1743 rfl dL_law_1742 ?_
  obtain ⟨i1775, h⟩ := ck_some h
  refine r_sld C hX i1775 1744 rfl dL_law_1743 ?_
  obtain ⟨y1777, κ1778, e1776, h⟩ := bd2_some h
  refine r_cVi C (st := []) (c_X7_sewnSleeves ha2 e1776) yv_X7_sewnSleeves ml_L_253 rfl ha2 rfl ⟨Nat.le_of_ble_eq_true rfl, Nat.le_of_ble_eq_true rfl⟩ ⟨by omega, by omega⟩ (Nat.le_of_ble_eq_true rfl) rfl (k1 + 1) (k2 + 6) rfl rfl 1747 rfl dL_law_1744 ?_
  refine r_istore C (lv' := [(0, .ref b), (1, .ref a1), (2, .ref a2), (3, .ref a3), (4, .ref a4), (5, .int v5), (6, .int y1773), (7, .int y1777)]) [1, 2, 3, 4, 5, 6, 7, 0] 1749 rfl dL_law_1747 (Nat.le_of_ble_eq_true rfl) rfl ?_
  refine r_aload_n C 2 1750 rfl dL_law_1749 rfl ?_
  obtain ⟨y1780, e1779, h⟩ := bd_some h
  refine r_cVi C (st := []) (c_X7_thrown ha2 e1779) yv_X7_thrown ml_L_175 rfl ha2 rfl ⟨Nat.le_of_ble_eq_true rfl, Nat.le_of_ble_eq_true rfl⟩ ⟨by omega, by omega⟩ (Nat.le_of_ble_eq_true rfl) rfl (k1 + 1) (k2 + 6) rfl rfl 1753 rfl dL_law_1750 ?_
  refine r_iload C 6 1755 rfl dL_law_1753 rfl ?_
  refine r_icmp_eq C 1760 1758 rfl dL_law_1755 rfl ⟨fun c1781 => ?_, fun c1781 => ?_⟩
  · have h := if_some_t c1781 h
    refine r_iload C 6 1762 rfl dL_law_1760 rfl ?_
    refine r_if_ne C 1777 1765 rfl dL_law_1762 rfl ⟨fun c1782 => ?_, fun c1782 => ?_⟩
    · have h := if_some_f c1782 h
      refine r_goto C 3082 dL_law_1777 rfl ?_
      refine r_lv [0, 1, 2, 3, 4, 5] rfl ?_
      refine r_wd (k1' := (k1 + 52)) (k2' := (k2 + 7248)) (by omega) (by omega) ?_
      exact w_L_law_3082 C hX ha1 ha2 ha3 ha4 hq (k1 := k1) (k2 := k2) (by omega) (by omega) (fun κ u5 h k1a k2a g1 g2 => hK28 κ u5 h k1a k2a (by omega) (by omega)) h
    · have h := if_some_t c1782 h
      refine r_aload_n C 3 1766 rfl dL_law_1765 rfl ?_
      refine r_iconst C 0 rfl 1767 rfl dL_law_1766 ?_
      refine r_lald C ha3 (by decide) 1768 rfl dL_law_1767 ?_
      refine r_iload C 7 1770 rfl dL_law_1768 rfl ?_
      refine r_i2l C 1771 rfl dL_law_1770 ?_
      refine r_lcmp C 1772 rfl dL_law_1771 ?_
      refine r_if_eq C 1777 1775 rfl dL_law_1772 rfl ⟨fun c1783 => ?_, fun c1783 => ?_⟩
      · have h := if_some_t c1783 h
        refine r_goto C 3082 dL_law_1777 rfl ?_
        refine r_lv [0, 1, 2, 3, 4, 5] rfl ?_
        refine r_wd (k1' := (k1 + 52)) (k2' := (k2 + 7248)) (by omega) (by omega) ?_
        exact w_L_law_3082 C hX ha1 ha2 ha3 ha4 hq (k1 := k1) (k2 := k2) (by omega) (by omega) (fun κ u5 h k1a k2a g1 g2 => hK28 κ u5 h k1a k2a (by omega) (by omega)) h
      · have h := if_some_f c1783 h
        refine r_iconst C 0 rfl 1776 rfl dL_law_1775 ?_
        exact absurd (congrArg (fun z => z.1) (Option.some.inj h)) (show ¬ ((0 : Int32) = 1) by decide)
  · have h := if_some_f c1781 h
    refine r_iconst C 0 rfl 1759 rfl dL_law_1758 ?_
    exact absurd (congrArg (fun z => z.1) (Option.some.inj h)) (show ¬ ((0 : Int32) = 1) by decide)
set_option maxRecDepth 20000 in
theorem w_L_law_1780 {F : jFm} (C : jA F RL cL_law 9 2048 603072 7182442 94400) {b L : Nat} {xs : Nat → Int32} (hX : jScr F b L xs) {κ : jKt} {a1 : Nat} (ha1 : jSof F a1 = (1, 10, 11)) {a2 : Nat} (ha2 : jSof F a2 = (1, 11, 22)) {a3 : Nat} (ha3 : jSof F a3 = (2, 3, 1)) {a4 : Nat} (ha4 : jSof F a4 = (2, 4, 1)) {v5 : Int32} {κr : jKt} (hq : ∀ κ k1 k2 lv, κ = κr → k1 ≤ 603072 → k2 ≤ 7182442 → jW F 9 k1 k2 κ 3089 lv [.int 1]) {k1 k2 : Nat} (hk1 : k1 + 52 ≤ 603072) (hk2 : k2 + 7248 ≤ 7182442) {K28 : jKt → Int32 → Option (Int32 × jKt)} (hK28 : ∀ (κ : jKt) (u5 : Int32), K28 κ u5 = some (1, κr) → ∀ k1a k2a, k1a ≤ k1 + 52 → k2a ≤ k2 + 7248 → jW F 9 k1a k2a κ 28 [(0, .ref b), (1, .ref a1), (2, .ref a2), (3, .ref a3), (4, .ref a4), (5, .int u5)] []) (h : P_L_law_1780 xs L κ a1 a2 a3 a4 v5 K28 = some (1, κr)) : jW F 9 k1 k2 κ 1780 [(0, .ref b), (1, .ref a1), (2, .ref a2), (3, .ref a3), (4, .ref a4), (5, .int v5)] [] := by
  unfold P_L_law_1780 at h
  refine r_aload_n C 1 1781 rfl dL_law_1780 rfl ?_
  refine r_aload_n C 0 1782 rfl dL_law_1781 rfl ?_
  refine r_iload C 5 1784 rfl dL_law_1782 rfl ?_
  refine r_iconst C 1 rfl 1785 rfl dL_law_1784 ?_
  refine r_iadd C 1786 rfl dL_law_1785 ?_
  obtain ⟨i1784, h⟩ := ck_some h
  refine r_sld C hX i1784 1787 rfl dL_law_1786 ?_
  refine r_aload_n C 3 1788 rfl dL_law_1787 rfl ?_
  obtain ⟨y1786, κ1787, e1785, h⟩ := bd2_some h
  refine r_cSh C (st := []) (c_L_demandCount ha1 ha3 e1785) yv_L_demandCount ml_L_254 rfl ⟨Nat.le_of_ble_eq_true rfl, Nat.le_of_ble_eq_true rfl⟩ ⟨by omega, by omega⟩ (Nat.le_of_ble_eq_true rfl) rfl (k1 + 1) (k2 + 6) rfl rfl 1791 rfl dL_law_1788 ?_
  refine r_istore C (lv' := [(0, .ref b), (1, .ref a1), (2, .ref a2), (3, .ref a3), (4, .ref a4), (5, .int v5), (6, .int y1786)]) [1, 2, 3, 4, 5, 6, 0] 1793 rfl dL_law_1791 (Nat.le_of_ble_eq_true rfl) rfl ?_
  refine r_aload_n C 2 1794 rfl dL_law_1793 rfl ?_
  refine r_aload_n C 0 1795 rfl dL_law_1794 rfl ?_
  refine r_iload C 5 1797 rfl dL_law_1795 rfl ?_
  refine r_iconst C 1 rfl 1798 rfl dL_law_1797 ?_
  refine r_iadd C 1799 rfl dL_law_1798 ?_
  obtain ⟨i1788, h⟩ := ck_some h
  refine r_sld C hX i1788 1800 rfl dL_law_1799 ?_
  obtain ⟨y1790, κ1791, e1789, h⟩ := bd2_some h
  refine r_cVi C (st := []) (c_X7_demandCount ha2 e1789) yv_X7_demandCount ml_L_256 rfl ha2 rfl ⟨Nat.le_of_ble_eq_true rfl, Nat.le_of_ble_eq_true rfl⟩ ⟨by omega, by omega⟩ (Nat.le_of_ble_eq_true rfl) rfl (k1 + 1) (k2 + 6) rfl rfl 1803 rfl dL_law_1800 ?_
  refine r_istore C (lv' := [(0, .ref b), (1, .ref a1), (2, .ref a2), (3, .ref a3), (4, .ref a4), (5, .int v5), (6, .int y1786), (7, .int y1790)]) [1, 2, 3, 4, 5, 6, 7, 0] 1805 rfl dL_law_1803 (Nat.le_of_ble_eq_true rfl) rfl ?_
  refine r_aload_n C 2 1806 rfl dL_law_1805 rfl ?_
  obtain ⟨y1793, e1792, h⟩ := bd_some h
  refine r_cVi C (st := []) (c_X7_thrown ha2 e1792) yv_X7_thrown ml_L_175 rfl ha2 rfl ⟨Nat.le_of_ble_eq_true rfl, Nat.le_of_ble_eq_true rfl⟩ ⟨by omega, by omega⟩ (Nat.le_of_ble_eq_true rfl) rfl (k1 + 1) (k2 + 6) rfl rfl 1809 rfl dL_law_1806 ?_
  refine r_iload C 6 1811 rfl dL_law_1809 rfl ?_
  refine r_icmp_eq C 1816 1814 rfl dL_law_1811 rfl ⟨fun c1794 => ?_, fun c1794 => ?_⟩
  · have h := if_some_t c1794 h
    refine r_iload C 6 1818 rfl dL_law_1816 rfl ?_
    refine r_if_ne C 1833 1821 rfl dL_law_1818 rfl ⟨fun c1795 => ?_, fun c1795 => ?_⟩
    · have h := if_some_f c1795 h
      refine r_goto C 3082 dL_law_1833 rfl ?_
      refine r_lv [0, 1, 2, 3, 4, 5] rfl ?_
      refine r_wd (k1' := (k1 + 52)) (k2' := (k2 + 7248)) (by omega) (by omega) ?_
      exact w_L_law_3082 C hX ha1 ha2 ha3 ha4 hq (k1 := k1) (k2 := k2) (by omega) (by omega) (fun κ u5 h k1a k2a g1 g2 => hK28 κ u5 h k1a k2a (by omega) (by omega)) h
    · have h := if_some_t c1795 h
      refine r_aload_n C 3 1822 rfl dL_law_1821 rfl ?_
      refine r_iconst C 0 rfl 1823 rfl dL_law_1822 ?_
      refine r_lald C ha3 (by decide) 1824 rfl dL_law_1823 ?_
      refine r_iload C 7 1826 rfl dL_law_1824 rfl ?_
      refine r_i2l C 1827 rfl dL_law_1826 ?_
      refine r_lcmp C 1828 rfl dL_law_1827 ?_
      refine r_if_eq C 1833 1831 rfl dL_law_1828 rfl ⟨fun c1796 => ?_, fun c1796 => ?_⟩
      · have h := if_some_t c1796 h
        refine r_goto C 3082 dL_law_1833 rfl ?_
        refine r_lv [0, 1, 2, 3, 4, 5] rfl ?_
        refine r_wd (k1' := (k1 + 52)) (k2' := (k2 + 7248)) (by omega) (by omega) ?_
        exact w_L_law_3082 C hX ha1 ha2 ha3 ha4 hq (k1 := k1) (k2 := k2) (by omega) (by omega) (fun κ u5 h k1a k2a g1 g2 => hK28 κ u5 h k1a k2a (by omega) (by omega)) h
      · have h := if_some_f c1796 h
        refine r_iconst C 0 rfl 1832 rfl dL_law_1831 ?_
        exact absurd (congrArg (fun z => z.1) (Option.some.inj h)) (show ¬ ((0 : Int32) = 1) by decide)
  · have h := if_some_f c1794 h
    refine r_iconst C 0 rfl 1815 rfl dL_law_1814 ?_
    exact absurd (congrArg (fun z => z.1) (Option.some.inj h)) (show ¬ ((0 : Int32) = 1) by decide)
set_option maxRecDepth 20000 in
theorem w_L_law_1914 {F : jFm} (C : jA F RL cL_law 9 2048 603072 7182442 94400) {b L : Nat} {xs : Nat → Int32} (hX : jScr F b L xs) {κ : jKt} {a1 : Nat} (ha1 : jSof F a1 = (1, 10, 11)) {a2 : Nat} (ha2 : jSof F a2 = (1, 11, 22)) {a3 : Nat} (ha3 : jSof F a3 = (2, 3, 1)) {a4 : Nat} (ha4 : jSof F a4 = (2, 4, 1)) {v5 : Int32} {s0 : Int64} {s1 : Int64} {κr : jKt} (hq : ∀ κ k1 k2 lv, κ = κr → k1 ≤ 603072 → k2 ≤ 7182442 → jW F 9 k1 k2 κ 3089 lv [.int 1]) {k1 k2 : Nat} (hk1 : k1 + 52 ≤ 603072) (hk2 : k2 + 7248 ≤ 7182442) {K28 : jKt → Int32 → Option (Int32 × jKt)} (hK28 : ∀ (κ : jKt) (u5 : Int32), K28 κ u5 = some (1, κr) → ∀ k1a k2a, k1a ≤ k1 + 52 → k2a ≤ k2 + 7248 → jW F 9 k1a k2a κ 28 [(0, .ref b), (1, .ref a1), (2, .ref a2), (3, .ref a3), (4, .ref a4), (5, .int u5)] []) (h : P_L_law_1914 xs L κ a1 a2 a3 a4 v5 s0 s1 K28 = some (1, κr)) : jW F 9 (k1 + 4) (k2 + 24) κ 1914 [(0, .ref b), (1, .ref a1), (2, .ref a2), (3, .ref a3), (4, .ref a4), (5, .int v5)] [.long s0, .long s1] := by
  unfold P_L_law_1914 at h
  refine r_lcmp C 1915 rfl dL_law_1914 ?_
  refine r_if_eq C 1920 1918 rfl dL_law_1915 rfl ⟨fun c1797 => ?_, fun c1797 => ?_⟩
  · have h := if_some_t c1797 h
    refine r_goto C 3082 dL_law_1920 rfl ?_
    refine r_wd (k1' := (k1 + 52)) (k2' := (k2 + 7248)) (by omega) (by omega) ?_
    exact w_L_law_3082 C hX ha1 ha2 ha3 ha4 hq (k1 := k1) (k2 := k2) (by omega) (by omega) (fun κ u5 h k1a k2a g1 g2 => hK28 κ u5 h k1a k2a (by omega) (by omega)) h
  · have h := if_some_f c1797 h
    refine r_iconst C 0 rfl 1919 rfl dL_law_1918 ?_
    exact absurd (congrArg (fun z => z.1) (Option.some.inj h)) (show ¬ ((0 : Int32) = 1) by decide)
set_option maxRecDepth 20000 in
theorem w_L_law_1836 {F : jFm} (C : jA F RL cL_law 9 2048 603072 7182442 94400) {b L : Nat} {xs : Nat → Int32} (hX : jScr F b L xs) {κ : jKt} {a1 : Nat} (ha1 : jSof F a1 = (1, 10, 11)) {a2 : Nat} (ha2 : jSof F a2 = (1, 11, 22)) {a3 : Nat} (ha3 : jSof F a3 = (2, 3, 1)) {a4 : Nat} (ha4 : jSof F a4 = (2, 4, 1)) {v5 : Int32} {κr : jKt} (hq : ∀ κ k1 k2 lv, κ = κr → k1 ≤ 603072 → k2 ≤ 7182442 → jW F 9 k1 k2 κ 3089 lv [.int 1]) {k1 k2 : Nat} (hk1 : k1 + 52 ≤ 603072) (hk2 : k2 + 7248 ≤ 7182442) {K28 : jKt → Int32 → Option (Int32 × jKt)} (hK28 : ∀ (κ : jKt) (u5 : Int32), K28 κ u5 = some (1, κr) → ∀ k1a k2a, k1a ≤ k1 + 52 → k2a ≤ k2 + 7248 → jW F 9 k1a k2a κ 28 [(0, .ref b), (1, .ref a1), (2, .ref a2), (3, .ref a3), (4, .ref a4), (5, .int u5)] []) (h : P_L_law_1836 xs L κ a1 a2 a3 a4 v5 K28 = some (1, κr)) : jW F 9 k1 k2 κ 1836 [(0, .ref b), (1, .ref a1), (2, .ref a2), (3, .ref a3), (4, .ref a4), (5, .int v5)] [] := by
  unfold P_L_law_1836 at h
  refine r_aload_n C 1 1837 rfl dL_law_1836 rfl ?_
  refine r_aload_n C 0 1838 rfl dL_law_1837 rfl ?_
  refine r_iload C 5 1840 rfl dL_law_1838 rfl ?_
  refine r_iconst C 1 rfl 1841 rfl dL_law_1840 ?_
  refine r_iadd C 1842 rfl dL_law_1841 ?_
  obtain ⟨i1798, h⟩ := ck_some h
  refine r_sld C hX i1798 1843 rfl dL_law_1842 ?_
  refine r_aload_n C 0 1844 rfl dL_law_1843 rfl ?_
  refine r_iload C 5 1846 rfl dL_law_1844 rfl ?_
  refine r_iconst C 2 rfl 1847 rfl dL_law_1846 ?_
  refine r_iadd C 1848 rfl dL_law_1847 ?_
  obtain ⟨i1799, h⟩ := ck_some h
  refine r_sld C hX i1799 1849 rfl dL_law_1848 ?_
  refine r_aload_n C 0 1850 rfl dL_law_1849 rfl ?_
  refine r_iload C 5 1852 rfl dL_law_1850 rfl ?_
  refine r_iconst C 3 rfl 1853 rfl dL_law_1852 ?_
  refine r_iadd C 1854 rfl dL_law_1853 ?_
  obtain ⟨i1800, h⟩ := ck_some h
  refine r_sld C hX i1800 1855 rfl dL_law_1854 ?_
  refine r_aload_n C 3 1856 rfl dL_law_1855 rfl ?_
  obtain ⟨y1802, κ1803, e1801, h⟩ := bd2_some h
  refine r_cSh C (st := []) (c_L_isBefore ha1 ha3 e1801) yv_L_isBefore ml_L_257 rfl ⟨Nat.le_of_ble_eq_true rfl, Nat.le_of_ble_eq_true rfl⟩ ⟨by omega, by omega⟩ (Nat.le_of_ble_eq_true rfl) rfl (k1 + 4) (k2 + 24) rfl rfl 1859 rfl dL_law_1856 ?_
  refine r_istore C (lv' := [(0, .ref b), (1, .ref a1), (2, .ref a2), (3, .ref a3), (4, .ref a4), (5, .int v5), (6, .int y1802)]) [1, 2, 3, 4, 5, 6, 0] 1861 rfl dL_law_1859 (Nat.le_of_ble_eq_true rfl) rfl ?_
  refine r_aload_n C 2 1862 rfl dL_law_1861 rfl ?_
  refine r_aload_n C 0 1863 rfl dL_law_1862 rfl ?_
  refine r_iload C 5 1865 rfl dL_law_1863 rfl ?_
  refine r_iconst C 1 rfl 1866 rfl dL_law_1865 ?_
  refine r_iadd C 1867 rfl dL_law_1866 ?_
  obtain ⟨i1804, h⟩ := ck_some h
  refine r_sld C hX i1804 1868 rfl dL_law_1867 ?_
  refine r_aload_n C 0 1869 rfl dL_law_1868 rfl ?_
  refine r_iload C 5 1871 rfl dL_law_1869 rfl ?_
  refine r_iconst C 2 rfl 1872 rfl dL_law_1871 ?_
  refine r_iadd C 1873 rfl dL_law_1872 ?_
  obtain ⟨i1805, h⟩ := ck_some h
  refine r_sld C hX i1805 1874 rfl dL_law_1873 ?_
  refine r_aload_n C 0 1875 rfl dL_law_1874 rfl ?_
  refine r_iload C 5 1877 rfl dL_law_1875 rfl ?_
  refine r_iconst C 3 rfl 1878 rfl dL_law_1877 ?_
  refine r_iadd C 1879 rfl dL_law_1878 ?_
  obtain ⟨i1806, h⟩ := ck_some h
  refine r_sld C hX i1806 1880 rfl dL_law_1879 ?_
  obtain ⟨y1808, κ1809, e1807, h⟩ := bd2_some h
  refine r_cVi C (st := []) (c_X7_isBefore ha2 e1807) yv_X7_isBefore ml_L_259 rfl ha2 rfl ⟨Nat.le_of_ble_eq_true rfl, Nat.le_of_ble_eq_true rfl⟩ ⟨by omega, by omega⟩ (Nat.le_of_ble_eq_true rfl) rfl (k1 + 4) (k2 + 24) rfl rfl 1883 rfl dL_law_1880 ?_
  refine r_istore C (lv' := [(0, .ref b), (1, .ref a1), (2, .ref a2), (3, .ref a3), (4, .ref a4), (5, .int v5), (6, .int y1802), (7, .int y1808)]) [1, 2, 3, 4, 5, 6, 7, 0] 1885 rfl dL_law_1883 (Nat.le_of_ble_eq_true rfl) rfl ?_
  refine r_aload_n C 2 1886 rfl dL_law_1885 rfl ?_
  obtain ⟨y1811, e1810, h⟩ := bd_some h
  refine r_cVi C (st := []) (c_X7_thrown ha2 e1810) yv_X7_thrown ml_L_175 rfl ha2 rfl ⟨Nat.le_of_ble_eq_true rfl, Nat.le_of_ble_eq_true rfl⟩ ⟨by omega, by omega⟩ (Nat.le_of_ble_eq_true rfl) rfl (k1 + 4) (k2 + 24) rfl rfl 1889 rfl dL_law_1886 ?_
  refine r_iload C 6 1891 rfl dL_law_1889 rfl ?_
  refine r_icmp_eq C 1896 1894 rfl dL_law_1891 rfl ⟨fun c1812 => ?_, fun c1812 => ?_⟩
  · have h := if_some_t c1812 h
    refine r_iload C 6 1898 rfl dL_law_1896 rfl ?_
    refine r_if_ne C 1920 1901 rfl dL_law_1898 rfl ⟨fun c1813 => ?_, fun c1813 => ?_⟩
    · have h := if_some_f c1813 h
      refine r_goto C 3082 dL_law_1920 rfl ?_
      refine r_lv [0, 1, 2, 3, 4, 5] rfl ?_
      refine r_wd (k1' := (k1 + 52)) (k2' := (k2 + 7248)) (by omega) (by omega) ?_
      exact w_L_law_3082 C hX ha1 ha2 ha3 ha4 hq (k1 := k1) (k2 := k2) (by omega) (by omega) (fun κ u5 h k1a k2a g1 g2 => hK28 κ u5 h k1a k2a (by omega) (by omega)) h
    · have h := if_some_t c1813 h
      refine r_aload_n C 3 1902 rfl dL_law_1901 rfl ?_
      refine r_iconst C 0 rfl 1903 rfl dL_law_1902 ?_
      refine r_lald C ha3 (by decide) 1904 rfl dL_law_1903 ?_
      refine r_iload C 7 1906 rfl dL_law_1904 rfl ?_
      refine r_if_eq C 1913 1909 rfl dL_law_1906 rfl ⟨fun c1814 => ?_, fun c1814 => ?_⟩
      · have h := if_some_t c1814 h
        refine r_lconst C 0 rfl 1914 rfl dL_law_1913 ?_
        refine r_lv [0, 1, 2, 3, 4, 5] rfl ?_
        exact w_L_law_1914 C hX ha1 ha2 ha3 ha4 hq (k1 := k1) (k2 := k2) (by omega) (by omega) (fun κ u5 h k1a k2a g1 g2 => hK28 κ u5 h k1a k2a (by omega) (by omega)) h
      · have h := if_some_f c1814 h
        refine r_lconst C 1 rfl 1910 rfl dL_law_1909 ?_
        refine r_goto C 1914 dL_law_1910 rfl ?_
        refine r_lv [0, 1, 2, 3, 4, 5] rfl ?_
        exact w_L_law_1914 C hX ha1 ha2 ha3 ha4 hq (k1 := k1) (k2 := k2) (by omega) (by omega) (fun κ u5 h k1a k2a g1 g2 => hK28 κ u5 h k1a k2a (by omega) (by omega)) h
  · have h := if_some_f c1812 h
    refine r_iconst C 0 rfl 1895 rfl dL_law_1894 ?_
    exact absurd (congrArg (fun z => z.1) (Option.some.inj h)) (show ¬ ((0 : Int32) = 1) by decide)
set_option maxRecDepth 20000 in
theorem w_L_law_1977 {F : jFm} (C : jA F RL cL_law 9 2048 603072 7182442 94400) {b L : Nat} {xs : Nat → Int32} (hX : jScr F b L xs) {κ : jKt} {a1 : Nat} (ha1 : jSof F a1 = (1, 10, 11)) {a2 : Nat} (ha2 : jSof F a2 = (1, 11, 22)) {a3 : Nat} (ha3 : jSof F a3 = (2, 3, 1)) {a4 : Nat} (ha4 : jSof F a4 = (2, 4, 1)) {v5 : Int32} {s0 : Int64} {s1 : Int64} {κr : jKt} (hq : ∀ κ k1 k2 lv, κ = κr → k1 ≤ 603072 → k2 ≤ 7182442 → jW F 9 k1 k2 κ 3089 lv [.int 1]) {k1 k2 : Nat} (hk1 : k1 + 52 ≤ 603072) (hk2 : k2 + 7248 ≤ 7182442) {K28 : jKt → Int32 → Option (Int32 × jKt)} (hK28 : ∀ (κ : jKt) (u5 : Int32), K28 κ u5 = some (1, κr) → ∀ k1a k2a, k1a ≤ k1 + 52 → k2a ≤ k2 + 7248 → jW F 9 k1a k2a κ 28 [(0, .ref b), (1, .ref a1), (2, .ref a2), (3, .ref a3), (4, .ref a4), (5, .int u5)] []) (h : P_L_law_1977 xs L κ a1 a2 a3 a4 v5 s0 s1 K28 = some (1, κr)) : jW F 9 (k1 + 1) (k2 + 6) κ 1977 [(0, .ref b), (1, .ref a1), (2, .ref a2), (3, .ref a3), (4, .ref a4), (5, .int v5)] [.long s0, .long s1] := by
  unfold P_L_law_1977 at h
  refine r_lcmp C 1978 rfl dL_law_1977 ?_
  refine r_if_eq C 1983 1981 rfl dL_law_1978 rfl ⟨fun c1815 => ?_, fun c1815 => ?_⟩
  · have h := if_some_t c1815 h
    refine r_goto C 3082 dL_law_1983 rfl ?_
    refine r_wd (k1' := (k1 + 52)) (k2' := (k2 + 7248)) (by omega) (by omega) ?_
    exact w_L_law_3082 C hX ha1 ha2 ha3 ha4 hq (k1 := k1) (k2 := k2) (by omega) (by omega) (fun κ u5 h k1a k2a g1 g2 => hK28 κ u5 h k1a k2a (by omega) (by omega)) h
  · have h := if_some_f c1815 h
    refine r_iconst C 0 rfl 1982 rfl dL_law_1981 ?_
    exact absurd (congrArg (fun z => z.1) (Option.some.inj h)) (show ¬ ((0 : Int32) = 1) by decide)
set_option maxRecDepth 20000 in
theorem w_L_law_1923 {F : jFm} (C : jA F RL cL_law 9 2048 603072 7182442 94400) {b L : Nat} {xs : Nat → Int32} (hX : jScr F b L xs) {κ : jKt} {a1 : Nat} (ha1 : jSof F a1 = (1, 10, 11)) {a2 : Nat} (ha2 : jSof F a2 = (1, 11, 22)) {a3 : Nat} (ha3 : jSof F a3 = (2, 3, 1)) {a4 : Nat} (ha4 : jSof F a4 = (2, 4, 1)) {v5 : Int32} {κr : jKt} (hq : ∀ κ k1 k2 lv, κ = κr → k1 ≤ 603072 → k2 ≤ 7182442 → jW F 9 k1 k2 κ 3089 lv [.int 1]) {k1 k2 : Nat} (hk1 : k1 + 52 ≤ 603072) (hk2 : k2 + 7248 ≤ 7182442) {K28 : jKt → Int32 → Option (Int32 × jKt)} (hK28 : ∀ (κ : jKt) (u5 : Int32), K28 κ u5 = some (1, κr) → ∀ k1a k2a, k1a ≤ k1 + 52 → k2a ≤ k2 + 7248 → jW F 9 k1a k2a κ 28 [(0, .ref b), (1, .ref a1), (2, .ref a2), (3, .ref a3), (4, .ref a4), (5, .int u5)] []) (h : P_L_law_1923 xs L κ a1 a2 a3 a4 v5 K28 = some (1, κr)) : jW F 9 k1 k2 κ 1923 [(0, .ref b), (1, .ref a1), (2, .ref a2), (3, .ref a3), (4, .ref a4), (5, .int v5)] [] := by
  unfold P_L_law_1923 at h
  refine r_aload_n C 1 1924 rfl dL_law_1923 rfl ?_
  refine r_aload_n C 0 1925 rfl dL_law_1924 rfl ?_
  refine r_iload C 5 1927 rfl dL_law_1925 rfl ?_
  refine r_iconst C 1 rfl 1928 rfl dL_law_1927 ?_
  refine r_iadd C 1929 rfl dL_law_1928 ?_
  obtain ⟨i1816, h⟩ := ck_some h
  refine r_sld C hX i1816 1930 rfl dL_law_1929 ?_
  refine r_aload_n C 3 1931 rfl dL_law_1930 rfl ?_
  obtain ⟨y1818, κ1819, e1817, h⟩ := bd2_some h
  refine r_cSh C (st := []) (c_L_canDeliver ha1 ha3 e1817) yv_L_canDeliver ml_L_260 rfl ⟨Nat.le_of_ble_eq_true rfl, Nat.le_of_ble_eq_true rfl⟩ ⟨by omega, by omega⟩ (Nat.le_of_ble_eq_true rfl) rfl (k1 + 1) (k2 + 6) rfl rfl 1934 rfl dL_law_1931 ?_
  refine r_istore C (lv' := [(0, .ref b), (1, .ref a1), (2, .ref a2), (3, .ref a3), (4, .ref a4), (5, .int v5), (6, .int y1818)]) [1, 2, 3, 4, 5, 6, 0] 1936 rfl dL_law_1934 (Nat.le_of_ble_eq_true rfl) rfl ?_
  refine r_aload_n C 2 1937 rfl dL_law_1936 rfl ?_
  refine r_aload_n C 0 1938 rfl dL_law_1937 rfl ?_
  refine r_iload C 5 1940 rfl dL_law_1938 rfl ?_
  refine r_iconst C 1 rfl 1941 rfl dL_law_1940 ?_
  refine r_iadd C 1942 rfl dL_law_1941 ?_
  obtain ⟨i1820, h⟩ := ck_some h
  refine r_sld C hX i1820 1943 rfl dL_law_1942 ?_
  obtain ⟨y1822, κ1823, e1821, h⟩ := bd2_some h
  refine r_cVi C (st := []) (c_X7_canDeliver ha2 e1821) yv_X7_canDeliver ml_L_262 rfl ha2 rfl ⟨Nat.le_of_ble_eq_true rfl, Nat.le_of_ble_eq_true rfl⟩ ⟨by omega, by omega⟩ (Nat.le_of_ble_eq_true rfl) rfl (k1 + 1) (k2 + 6) rfl rfl 1946 rfl dL_law_1943 ?_
  refine r_istore C (lv' := [(0, .ref b), (1, .ref a1), (2, .ref a2), (3, .ref a3), (4, .ref a4), (5, .int v5), (6, .int y1818), (7, .int y1822)]) [1, 2, 3, 4, 5, 6, 7, 0] 1948 rfl dL_law_1946 (Nat.le_of_ble_eq_true rfl) rfl ?_
  refine r_aload_n C 2 1949 rfl dL_law_1948 rfl ?_
  obtain ⟨y1825, e1824, h⟩ := bd_some h
  refine r_cVi C (st := []) (c_X7_thrown ha2 e1824) yv_X7_thrown ml_L_175 rfl ha2 rfl ⟨Nat.le_of_ble_eq_true rfl, Nat.le_of_ble_eq_true rfl⟩ ⟨by omega, by omega⟩ (Nat.le_of_ble_eq_true rfl) rfl (k1 + 1) (k2 + 6) rfl rfl 1952 rfl dL_law_1949 ?_
  refine r_iload C 6 1954 rfl dL_law_1952 rfl ?_
  refine r_icmp_eq C 1959 1957 rfl dL_law_1954 rfl ⟨fun c1826 => ?_, fun c1826 => ?_⟩
  · have h := if_some_t c1826 h
    refine r_iload C 6 1961 rfl dL_law_1959 rfl ?_
    refine r_if_ne C 1983 1964 rfl dL_law_1961 rfl ⟨fun c1827 => ?_, fun c1827 => ?_⟩
    · have h := if_some_f c1827 h
      refine r_goto C 3082 dL_law_1983 rfl ?_
      refine r_lv [0, 1, 2, 3, 4, 5] rfl ?_
      refine r_wd (k1' := (k1 + 52)) (k2' := (k2 + 7248)) (by omega) (by omega) ?_
      exact w_L_law_3082 C hX ha1 ha2 ha3 ha4 hq (k1 := k1) (k2 := k2) (by omega) (by omega) (fun κ u5 h k1a k2a g1 g2 => hK28 κ u5 h k1a k2a (by omega) (by omega)) h
    · have h := if_some_t c1827 h
      refine r_aload_n C 3 1965 rfl dL_law_1964 rfl ?_
      refine r_iconst C 0 rfl 1966 rfl dL_law_1965 ?_
      refine r_lald C ha3 (by decide) 1967 rfl dL_law_1966 ?_
      refine r_iload C 7 1969 rfl dL_law_1967 rfl ?_
      refine r_if_eq C 1976 1972 rfl dL_law_1969 rfl ⟨fun c1828 => ?_, fun c1828 => ?_⟩
      · have h := if_some_t c1828 h
        refine r_lconst C 0 rfl 1977 rfl dL_law_1976 ?_
        refine r_lv [0, 1, 2, 3, 4, 5] rfl ?_
        exact w_L_law_1977 C hX ha1 ha2 ha3 ha4 hq (k1 := k1) (k2 := k2) (by omega) (by omega) (fun κ u5 h k1a k2a g1 g2 => hK28 κ u5 h k1a k2a (by omega) (by omega)) h
      · have h := if_some_f c1828 h
        refine r_lconst C 1 rfl 1973 rfl dL_law_1972 ?_
        refine r_goto C 1977 dL_law_1973 rfl ?_
        refine r_lv [0, 1, 2, 3, 4, 5] rfl ?_
        exact w_L_law_1977 C hX ha1 ha2 ha3 ha4 hq (k1 := k1) (k2 := k2) (by omega) (by omega) (fun κ u5 h k1a k2a g1 g2 => hK28 κ u5 h k1a k2a (by omega) (by omega)) h
  · have h := if_some_f c1826 h
    refine r_iconst C 0 rfl 1958 rfl dL_law_1957 ?_
    exact absurd (congrArg (fun z => z.1) (Option.some.inj h)) (show ¬ ((0 : Int32) = 1) by decide)
set_option maxRecDepth 20000 in
theorem w_L_law_1986 {F : jFm} (C : jA F RL cL_law 9 2048 603072 7182442 94400) {b L : Nat} {xs : Nat → Int32} (hX : jScr F b L xs) {κ : jKt} {a1 : Nat} (ha1 : jSof F a1 = (1, 10, 11)) {a2 : Nat} (ha2 : jSof F a2 = (1, 11, 22)) {a3 : Nat} (ha3 : jSof F a3 = (2, 3, 1)) {a4 : Nat} (ha4 : jSof F a4 = (2, 4, 1)) {v5 : Int32} {κr : jKt} (hq : ∀ κ k1 k2 lv, κ = κr → k1 ≤ 603072 → k2 ≤ 7182442 → jW F 9 k1 k2 κ 3089 lv [.int 1]) {k1 k2 : Nat} (hk1 : k1 + 52 ≤ 603072) (hk2 : k2 + 7248 ≤ 7182442) {K28 : jKt → Int32 → Option (Int32 × jKt)} (hK28 : ∀ (κ : jKt) (u5 : Int32), K28 κ u5 = some (1, κr) → ∀ k1a k2a, k1a ≤ k1 + 52 → k2a ≤ k2 + 7248 → jW F 9 k1a k2a κ 28 [(0, .ref b), (1, .ref a1), (2, .ref a2), (3, .ref a3), (4, .ref a4), (5, .int u5)] []) (h : P_L_law_1986 xs L κ a1 a2 a3 a4 v5 K28 = some (1, κr)) : jW F 9 k1 k2 κ 1986 [(0, .ref b), (1, .ref a1), (2, .ref a2), (3, .ref a3), (4, .ref a4), (5, .int v5)] [] := by
  unfold P_L_law_1986 at h
  refine r_aload_n C 1 1987 rfl dL_law_1986 rfl ?_
  refine r_aload_n C 0 1988 rfl dL_law_1987 rfl ?_
  refine r_iload C 5 1990 rfl dL_law_1988 rfl ?_
  refine r_iconst C 1 rfl 1991 rfl dL_law_1990 ?_
  refine r_iadd C 1992 rfl dL_law_1991 ?_
  obtain ⟨i1829, h⟩ := ck_some h
  refine r_sld C hX i1829 1993 rfl dL_law_1992 ?_
  refine r_aload_n C 3 1994 rfl dL_law_1993 rfl ?_
  obtain ⟨y1831, κ1832, e1830, h⟩ := bd2_some h
  refine r_cSh C (st := []) (c_L_price ha1 ha3 e1830) yv_L_price ml_L_263 rfl ⟨Nat.le_of_ble_eq_true rfl, Nat.le_of_ble_eq_true rfl⟩ ⟨by omega, by omega⟩ (Nat.le_of_ble_eq_true rfl) rfl (k1 + 1) (k2 + 6) rfl rfl 1997 rfl dL_law_1994 ?_
  refine r_istore C (lv' := [(0, .ref b), (1, .ref a1), (2, .ref a2), (3, .ref a3), (4, .ref a4), (5, .int v5), (6, .int y1831)]) [1, 2, 3, 4, 5, 6, 0] 1999 rfl dL_law_1997 (Nat.le_of_ble_eq_true rfl) rfl ?_
  refine r_aload_n C 2 2000 rfl dL_law_1999 rfl ?_
  refine r_aload_n C 0 2001 rfl dL_law_2000 rfl ?_
  refine r_iload C 5 2003 rfl dL_law_2001 rfl ?_
  refine r_iconst C 1 rfl 2004 rfl dL_law_2003 ?_
  refine r_iadd C 2005 rfl dL_law_2004 ?_
  obtain ⟨i1833, h⟩ := ck_some h
  refine r_sld C hX i1833 2006 rfl dL_law_2005 ?_
  obtain ⟨y1835, κ1836, e1834, h⟩ := bd2_some h
  refine r_cVi C (st := []) (c_X7_price ha2 e1834) yv_X7_price ml_L_265 rfl ha2 rfl ⟨Nat.le_of_ble_eq_true rfl, Nat.le_of_ble_eq_true rfl⟩ ⟨by omega, by omega⟩ (Nat.le_of_ble_eq_true rfl) rfl (k1 + 1) (k2 + 6) rfl rfl 2009 rfl dL_law_2006 ?_
  refine r_istore C (lv' := [(0, .ref b), (1, .ref a1), (2, .ref a2), (3, .ref a3), (4, .ref a4), (5, .int v5), (6, .int y1831), (7, .int y1835)]) [1, 2, 3, 4, 5, 6, 7, 0] 2011 rfl dL_law_2009 (Nat.le_of_ble_eq_true rfl) rfl ?_
  refine r_aload_n C 2 2012 rfl dL_law_2011 rfl ?_
  obtain ⟨y1838, e1837, h⟩ := bd_some h
  refine r_cVi C (st := []) (c_X7_thrown ha2 e1837) yv_X7_thrown ml_L_175 rfl ha2 rfl ⟨Nat.le_of_ble_eq_true rfl, Nat.le_of_ble_eq_true rfl⟩ ⟨by omega, by omega⟩ (Nat.le_of_ble_eq_true rfl) rfl (k1 + 1) (k2 + 6) rfl rfl 2015 rfl dL_law_2012 ?_
  refine r_iload C 6 2017 rfl dL_law_2015 rfl ?_
  refine r_icmp_eq C 2022 2020 rfl dL_law_2017 rfl ⟨fun c1839 => ?_, fun c1839 => ?_⟩
  · have h := if_some_t c1839 h
    refine r_iload C 6 2024 rfl dL_law_2022 rfl ?_
    refine r_if_ne C 2039 2027 rfl dL_law_2024 rfl ⟨fun c1840 => ?_, fun c1840 => ?_⟩
    · have h := if_some_f c1840 h
      refine r_goto C 3082 dL_law_2039 rfl ?_
      refine r_lv [0, 1, 2, 3, 4, 5] rfl ?_
      refine r_wd (k1' := (k1 + 52)) (k2' := (k2 + 7248)) (by omega) (by omega) ?_
      exact w_L_law_3082 C hX ha1 ha2 ha3 ha4 hq (k1 := k1) (k2 := k2) (by omega) (by omega) (fun κ u5 h k1a k2a g1 g2 => hK28 κ u5 h k1a k2a (by omega) (by omega)) h
    · have h := if_some_t c1840 h
      refine r_aload_n C 3 2028 rfl dL_law_2027 rfl ?_
      refine r_iconst C 0 rfl 2029 rfl dL_law_2028 ?_
      refine r_lald C ha3 (by decide) 2030 rfl dL_law_2029 ?_
      refine r_iload C 7 2032 rfl dL_law_2030 rfl ?_
      refine r_i2l C 2033 rfl dL_law_2032 ?_
      refine r_lcmp C 2034 rfl dL_law_2033 ?_
      refine r_if_eq C 2039 2037 rfl dL_law_2034 rfl ⟨fun c1841 => ?_, fun c1841 => ?_⟩
      · have h := if_some_t c1841 h
        refine r_goto C 3082 dL_law_2039 rfl ?_
        refine r_lv [0, 1, 2, 3, 4, 5] rfl ?_
        refine r_wd (k1' := (k1 + 52)) (k2' := (k2 + 7248)) (by omega) (by omega) ?_
        exact w_L_law_3082 C hX ha1 ha2 ha3 ha4 hq (k1 := k1) (k2 := k2) (by omega) (by omega) (fun κ u5 h k1a k2a g1 g2 => hK28 κ u5 h k1a k2a (by omega) (by omega)) h
      · have h := if_some_f c1841 h
        refine r_iconst C 0 rfl 2038 rfl dL_law_2037 ?_
        exact absurd (congrArg (fun z => z.1) (Option.some.inj h)) (show ¬ ((0 : Int32) = 1) by decide)
  · have h := if_some_f c1839 h
    refine r_iconst C 0 rfl 2021 rfl dL_law_2020 ?_
    exact absurd (congrArg (fun z => z.1) (Option.some.inj h)) (show ¬ ((0 : Int32) = 1) by decide)
set_option maxRecDepth 20000 in
theorem w_L_law_2042 {F : jFm} (C : jA F RL cL_law 9 2048 603072 7182442 94400) {b L : Nat} {xs : Nat → Int32} (hX : jScr F b L xs) {κ : jKt} {a1 : Nat} (ha1 : jSof F a1 = (1, 10, 11)) {a2 : Nat} (ha2 : jSof F a2 = (1, 11, 22)) {a3 : Nat} (ha3 : jSof F a3 = (2, 3, 1)) {a4 : Nat} (ha4 : jSof F a4 = (2, 4, 1)) {v5 : Int32} {κr : jKt} (hq : ∀ κ k1 k2 lv, κ = κr → k1 ≤ 603072 → k2 ≤ 7182442 → jW F 9 k1 k2 κ 3089 lv [.int 1]) {k1 k2 : Nat} (hk1 : k1 + 52 ≤ 603072) (hk2 : k2 + 7248 ≤ 7182442) {K28 : jKt → Int32 → Option (Int32 × jKt)} (hK28 : ∀ (κ : jKt) (u5 : Int32), K28 κ u5 = some (1, κr) → ∀ k1a k2a, k1a ≤ k1 + 52 → k2a ≤ k2 + 7248 → jW F 9 k1a k2a κ 28 [(0, .ref b), (1, .ref a1), (2, .ref a2), (3, .ref a3), (4, .ref a4), (5, .int u5)] []) (h : P_L_law_2042 xs L κ a1 a2 a3 a4 v5 K28 = some (1, κr)) : jW F 9 k1 k2 κ 2042 [(0, .ref b), (1, .ref a1), (2, .ref a2), (3, .ref a3), (4, .ref a4), (5, .int v5)] [] := by
  unfold P_L_law_2042 at h
  refine r_aload_n C 1 2043 rfl dL_law_2042 rfl ?_
  refine r_aload_n C 0 2044 rfl dL_law_2043 rfl ?_
  refine r_iload C 5 2046 rfl dL_law_2044 rfl ?_
  refine r_iconst C 1 rfl 2047 rfl dL_law_2046 ?_
  refine r_iadd C 2048 rfl dL_law_2047 ?_
  obtain ⟨i1842, h⟩ := ck_some h
  refine r_sld C hX i1842 2049 rfl dL_law_2048 ?_
  refine r_aload_n C 3 2050 rfl dL_law_2049 rfl ?_
  obtain ⟨y1844, κ1845, e1843, h⟩ := bd2_some h
  refine r_cSh C (st := []) (c_L_sleevesLeft ha1 ha3 e1843) yv_L_sleevesLeft ml_L_266 rfl ⟨Nat.le_of_ble_eq_true rfl, Nat.le_of_ble_eq_true rfl⟩ ⟨by omega, by omega⟩ (Nat.le_of_ble_eq_true rfl) rfl (k1 + 1) (k2 + 6) rfl rfl 2053 rfl dL_law_2050 ?_
  refine r_istore C (lv' := [(0, .ref b), (1, .ref a1), (2, .ref a2), (3, .ref a3), (4, .ref a4), (5, .int v5), (6, .int y1844)]) [1, 2, 3, 4, 5, 6, 0] 2055 rfl dL_law_2053 (Nat.le_of_ble_eq_true rfl) rfl ?_
  refine r_aload_n C 2 2056 rfl dL_law_2055 rfl ?_
  refine r_aload_n C 0 2057 rfl dL_law_2056 rfl ?_
  refine r_iload C 5 2059 rfl dL_law_2057 rfl ?_
  refine r_iconst C 1 rfl 2060 rfl dL_law_2059 ?_
  refine r_iadd C 2061 rfl dL_law_2060 ?_
  obtain ⟨i1846, h⟩ := ck_some h
  refine r_sld C hX i1846 2062 rfl dL_law_2061 ?_
  obtain ⟨y1848, κ1849, e1847, h⟩ := bd2_some h
  refine r_cVi C (st := []) (c_X7_sleevesLeft ha2 e1847) yv_X7_sleevesLeft ml_L_268 rfl ha2 rfl ⟨Nat.le_of_ble_eq_true rfl, Nat.le_of_ble_eq_true rfl⟩ ⟨by omega, by omega⟩ (Nat.le_of_ble_eq_true rfl) rfl (k1 + 1) (k2 + 6) rfl rfl 2065 rfl dL_law_2062 ?_
  refine r_istore C (lv' := [(0, .ref b), (1, .ref a1), (2, .ref a2), (3, .ref a3), (4, .ref a4), (5, .int v5), (6, .int y1844), (7, .int y1848)]) [1, 2, 3, 4, 5, 6, 7, 0] 2067 rfl dL_law_2065 (Nat.le_of_ble_eq_true rfl) rfl ?_
  refine r_aload_n C 2 2068 rfl dL_law_2067 rfl ?_
  obtain ⟨y1851, e1850, h⟩ := bd_some h
  refine r_cVi C (st := []) (c_X7_thrown ha2 e1850) yv_X7_thrown ml_L_175 rfl ha2 rfl ⟨Nat.le_of_ble_eq_true rfl, Nat.le_of_ble_eq_true rfl⟩ ⟨by omega, by omega⟩ (Nat.le_of_ble_eq_true rfl) rfl (k1 + 1) (k2 + 6) rfl rfl 2071 rfl dL_law_2068 ?_
  refine r_iload C 6 2073 rfl dL_law_2071 rfl ?_
  refine r_icmp_eq C 2078 2076 rfl dL_law_2073 rfl ⟨fun c1852 => ?_, fun c1852 => ?_⟩
  · have h := if_some_t c1852 h
    refine r_iload C 6 2080 rfl dL_law_2078 rfl ?_
    refine r_if_ne C 2095 2083 rfl dL_law_2080 rfl ⟨fun c1853 => ?_, fun c1853 => ?_⟩
    · have h := if_some_f c1853 h
      refine r_goto C 3082 dL_law_2095 rfl ?_
      refine r_lv [0, 1, 2, 3, 4, 5] rfl ?_
      refine r_wd (k1' := (k1 + 52)) (k2' := (k2 + 7248)) (by omega) (by omega) ?_
      exact w_L_law_3082 C hX ha1 ha2 ha3 ha4 hq (k1 := k1) (k2 := k2) (by omega) (by omega) (fun κ u5 h k1a k2a g1 g2 => hK28 κ u5 h k1a k2a (by omega) (by omega)) h
    · have h := if_some_t c1853 h
      refine r_aload_n C 3 2084 rfl dL_law_2083 rfl ?_
      refine r_iconst C 0 rfl 2085 rfl dL_law_2084 ?_
      refine r_lald C ha3 (by decide) 2086 rfl dL_law_2085 ?_
      refine r_iload C 7 2088 rfl dL_law_2086 rfl ?_
      refine r_i2l C 2089 rfl dL_law_2088 ?_
      refine r_lcmp C 2090 rfl dL_law_2089 ?_
      refine r_if_eq C 2095 2093 rfl dL_law_2090 rfl ⟨fun c1854 => ?_, fun c1854 => ?_⟩
      · have h := if_some_t c1854 h
        refine r_goto C 3082 dL_law_2095 rfl ?_
        refine r_lv [0, 1, 2, 3, 4, 5] rfl ?_
        refine r_wd (k1' := (k1 + 52)) (k2' := (k2 + 7248)) (by omega) (by omega) ?_
        exact w_L_law_3082 C hX ha1 ha2 ha3 ha4 hq (k1 := k1) (k2 := k2) (by omega) (by omega) (fun κ u5 h k1a k2a g1 g2 => hK28 κ u5 h k1a k2a (by omega) (by omega)) h
      · have h := if_some_f c1854 h
        refine r_iconst C 0 rfl 2094 rfl dL_law_2093 ?_
        exact absurd (congrArg (fun z => z.1) (Option.some.inj h)) (show ¬ ((0 : Int32) = 1) by decide)
  · have h := if_some_f c1852 h
    refine r_iconst C 0 rfl 2077 rfl dL_law_2076 ?_
    exact absurd (congrArg (fun z => z.1) (Option.some.inj h)) (show ¬ ((0 : Int32) = 1) by decide)
set_option maxRecDepth 20000 in
theorem w_L_law_2098 {F : jFm} (C : jA F RL cL_law 9 2048 603072 7182442 94400) {b L : Nat} {xs : Nat → Int32} (hX : jScr F b L xs) {κ : jKt} {a1 : Nat} (ha1 : jSof F a1 = (1, 10, 11)) {a2 : Nat} (ha2 : jSof F a2 = (1, 11, 22)) {a3 : Nat} (ha3 : jSof F a3 = (2, 3, 1)) {a4 : Nat} (ha4 : jSof F a4 = (2, 4, 1)) {v5 : Int32} {κr : jKt} (hq : ∀ κ k1 k2 lv, κ = κr → k1 ≤ 603072 → k2 ≤ 7182442 → jW F 9 k1 k2 κ 3089 lv [.int 1]) {k1 k2 : Nat} (hk1 : k1 + 52 ≤ 603072) (hk2 : k2 + 7248 ≤ 7182442) {K28 : jKt → Int32 → Option (Int32 × jKt)} (hK28 : ∀ (κ : jKt) (u5 : Int32), K28 κ u5 = some (1, κr) → ∀ k1a k2a, k1a ≤ k1 + 52 → k2a ≤ k2 + 7248 → jW F 9 k1a k2a κ 28 [(0, .ref b), (1, .ref a1), (2, .ref a2), (3, .ref a3), (4, .ref a4), (5, .int u5)] []) (h : P_L_law_2098 xs L κ a1 a2 a3 a4 v5 K28 = some (1, κr)) : jW F 9 k1 k2 κ 2098 [(0, .ref b), (1, .ref a1), (2, .ref a2), (3, .ref a3), (4, .ref a4), (5, .int v5)] [] := by
  unfold P_L_law_2098 at h
  refine r_aload_n C 1 2099 rfl dL_law_2098 rfl ?_
  refine r_aload_n C 0 2100 rfl dL_law_2099 rfl ?_
  refine r_iload C 5 2102 rfl dL_law_2100 rfl ?_
  refine r_iconst C 1 rfl 2103 rfl dL_law_2102 ?_
  refine r_iadd C 2104 rfl dL_law_2103 ?_
  obtain ⟨i1855, h⟩ := ck_some h
  refine r_sld C hX i1855 2105 rfl dL_law_2104 ?_
  refine r_aload_n C 0 2106 rfl dL_law_2105 rfl ?_
  refine r_iload C 5 2108 rfl dL_law_2106 rfl ?_
  refine r_iconst C 2 rfl 2109 rfl dL_law_2108 ?_
  refine r_iadd C 2110 rfl dL_law_2109 ?_
  obtain ⟨i1856, h⟩ := ck_some h
  refine r_sld C hX i1856 2111 rfl dL_law_2110 ?_
  refine r_aload_n C 3 2112 rfl dL_law_2111 rfl ?_
  obtain ⟨y1858, κ1859, e1857, h⟩ := bd2_some h
  refine r_cSh C (st := []) (c_L_sewingOrder ha1 ha3 e1857) yv_L_sewingOrder ml_L_269 rfl ⟨Nat.le_of_ble_eq_true rfl, Nat.le_of_ble_eq_true rfl⟩ ⟨by omega, by omega⟩ (Nat.le_of_ble_eq_true rfl) rfl (k1 + 2) (k2 + 12) rfl rfl 2115 rfl dL_law_2112 ?_
  refine r_istore C (lv' := [(0, .ref b), (1, .ref a1), (2, .ref a2), (3, .ref a3), (4, .ref a4), (5, .int v5), (6, .int y1858)]) [1, 2, 3, 4, 5, 6, 0] 2117 rfl dL_law_2115 (Nat.le_of_ble_eq_true rfl) rfl ?_
  refine r_aload_n C 2 2118 rfl dL_law_2117 rfl ?_
  refine r_aload_n C 0 2119 rfl dL_law_2118 rfl ?_
  refine r_iload C 5 2121 rfl dL_law_2119 rfl ?_
  refine r_iconst C 1 rfl 2122 rfl dL_law_2121 ?_
  refine r_iadd C 2123 rfl dL_law_2122 ?_
  obtain ⟨i1860, h⟩ := ck_some h
  refine r_sld C hX i1860 2124 rfl dL_law_2123 ?_
  refine r_aload_n C 0 2125 rfl dL_law_2124 rfl ?_
  refine r_iload C 5 2127 rfl dL_law_2125 rfl ?_
  refine r_iconst C 2 rfl 2128 rfl dL_law_2127 ?_
  refine r_iadd C 2129 rfl dL_law_2128 ?_
  obtain ⟨i1861, h⟩ := ck_some h
  refine r_sld C hX i1861 2130 rfl dL_law_2129 ?_
  obtain ⟨y1863, κ1864, e1862, h⟩ := bd2_some h
  refine r_cVi C (st := []) (c_X7_sewingOrder ha2 e1862) yv_X7_sewingOrder ml_L_271 rfl ha2 rfl ⟨Nat.le_of_ble_eq_true rfl, Nat.le_of_ble_eq_true rfl⟩ ⟨by omega, by omega⟩ (Nat.le_of_ble_eq_true rfl) rfl (k1 + 2) (k2 + 12) rfl rfl 2133 rfl dL_law_2130 ?_
  refine r_istore C (lv' := [(0, .ref b), (1, .ref a1), (2, .ref a2), (3, .ref a3), (4, .ref a4), (5, .int v5), (6, .int y1858), (7, .int y1863)]) [1, 2, 3, 4, 5, 6, 7, 0] 2135 rfl dL_law_2133 (Nat.le_of_ble_eq_true rfl) rfl ?_
  refine r_aload_n C 2 2136 rfl dL_law_2135 rfl ?_
  obtain ⟨y1866, e1865, h⟩ := bd_some h
  refine r_cVi C (st := []) (c_X7_thrown ha2 e1865) yv_X7_thrown ml_L_175 rfl ha2 rfl ⟨Nat.le_of_ble_eq_true rfl, Nat.le_of_ble_eq_true rfl⟩ ⟨by omega, by omega⟩ (Nat.le_of_ble_eq_true rfl) rfl (k1 + 2) (k2 + 12) rfl rfl 2139 rfl dL_law_2136 ?_
  refine r_iload C 6 2141 rfl dL_law_2139 rfl ?_
  refine r_icmp_eq C 2146 2144 rfl dL_law_2141 rfl ⟨fun c1867 => ?_, fun c1867 => ?_⟩
  · have h := if_some_t c1867 h
    refine r_iload C 6 2148 rfl dL_law_2146 rfl ?_
    refine r_if_ne C 2163 2151 rfl dL_law_2148 rfl ⟨fun c1868 => ?_, fun c1868 => ?_⟩
    · have h := if_some_f c1868 h
      refine r_goto C 3082 dL_law_2163 rfl ?_
      refine r_lv [0, 1, 2, 3, 4, 5] rfl ?_
      refine r_wd (k1' := (k1 + 52)) (k2' := (k2 + 7248)) (by omega) (by omega) ?_
      exact w_L_law_3082 C hX ha1 ha2 ha3 ha4 hq (k1 := k1) (k2 := k2) (by omega) (by omega) (fun κ u5 h k1a k2a g1 g2 => hK28 κ u5 h k1a k2a (by omega) (by omega)) h
    · have h := if_some_t c1868 h
      refine r_aload_n C 3 2152 rfl dL_law_2151 rfl ?_
      refine r_iconst C 0 rfl 2153 rfl dL_law_2152 ?_
      refine r_lald C ha3 (by decide) 2154 rfl dL_law_2153 ?_
      refine r_iload C 7 2156 rfl dL_law_2154 rfl ?_
      refine r_i2l C 2157 rfl dL_law_2156 ?_
      refine r_lcmp C 2158 rfl dL_law_2157 ?_
      refine r_if_eq C 2163 2161 rfl dL_law_2158 rfl ⟨fun c1869 => ?_, fun c1869 => ?_⟩
      · have h := if_some_t c1869 h
        refine r_goto C 3082 dL_law_2163 rfl ?_
        refine r_lv [0, 1, 2, 3, 4, 5] rfl ?_
        refine r_wd (k1' := (k1 + 52)) (k2' := (k2 + 7248)) (by omega) (by omega) ?_
        exact w_L_law_3082 C hX ha1 ha2 ha3 ha4 hq (k1 := k1) (k2 := k2) (by omega) (by omega) (fun κ u5 h k1a k2a g1 g2 => hK28 κ u5 h k1a k2a (by omega) (by omega)) h
      · have h := if_some_f c1869 h
        refine r_iconst C 0 rfl 2162 rfl dL_law_2161 ?_
        exact absurd (congrArg (fun z => z.1) (Option.some.inj h)) (show ¬ ((0 : Int32) = 1) by decide)
  · have h := if_some_f c1867 h
    refine r_iconst C 0 rfl 2145 rfl dL_law_2144 ?_
    exact absurd (congrArg (fun z => z.1) (Option.some.inj h)) (show ¬ ((0 : Int32) = 1) by decide)
set_option maxRecDepth 20000 in
theorem w_L_law_2166 {F : jFm} (C : jA F RL cL_law 9 2048 603072 7182442 94400) {b L : Nat} {xs : Nat → Int32} (hX : jScr F b L xs) {κ : jKt} {a1 : Nat} (ha1 : jSof F a1 = (1, 10, 11)) {a2 : Nat} (ha2 : jSof F a2 = (1, 11, 22)) {a3 : Nat} (ha3 : jSof F a3 = (2, 3, 1)) {a4 : Nat} (ha4 : jSof F a4 = (2, 4, 1)) {v5 : Int32} {κr : jKt} (hq : ∀ κ k1 k2 lv, κ = κr → k1 ≤ 603072 → k2 ≤ 7182442 → jW F 9 k1 k2 κ 3089 lv [.int 1]) {k1 k2 : Nat} (hk1 : k1 + 52 ≤ 603072) (hk2 : k2 + 7248 ≤ 7182442) {K28 : jKt → Int32 → Option (Int32 × jKt)} (hK28 : ∀ (κ : jKt) (u5 : Int32), K28 κ u5 = some (1, κr) → ∀ k1a k2a, k1a ≤ k1 + 52 → k2a ≤ k2 + 7248 → jW F 9 k1a k2a κ 28 [(0, .ref b), (1, .ref a1), (2, .ref a2), (3, .ref a3), (4, .ref a4), (5, .int u5)] []) (h : P_L_law_2166 xs L κ a1 a2 a3 a4 v5 K28 = some (1, κr)) : jW F 9 k1 k2 κ 2166 [(0, .ref b), (1, .ref a1), (2, .ref a2), (3, .ref a3), (4, .ref a4), (5, .int v5)] [] := by
  unfold P_L_law_2166 at h
  refine r_aload_n C 1 2167 rfl dL_law_2166 rfl ?_
  refine r_aload_n C 0 2168 rfl dL_law_2167 rfl ?_
  refine r_iload C 5 2170 rfl dL_law_2168 rfl ?_
  refine r_iconst C 1 rfl 2171 rfl dL_law_2170 ?_
  refine r_iadd C 2172 rfl dL_law_2171 ?_
  obtain ⟨i1870, h⟩ := ck_some h
  refine r_sld C hX i1870 2173 rfl dL_law_2172 ?_
  refine r_aload_n C 0 2174 rfl dL_law_2173 rfl ?_
  refine r_iload C 5 2176 rfl dL_law_2174 rfl ?_
  refine r_iconst C 2 rfl 2177 rfl dL_law_2176 ?_
  refine r_iadd C 2178 rfl dL_law_2177 ?_
  obtain ⟨i1871, h⟩ := ck_some h
  refine r_sld C hX i1871 2179 rfl dL_law_2178 ?_
  refine r_aload_n C 3 2180 rfl dL_law_2179 rfl ?_
  obtain ⟨y1873, κ1874, e1872, h⟩ := bd2_some h
  refine r_cSh C (st := []) (c_L_sewingOrderByQueue ha1 ha3 e1872) yv_L_sewingOrderByQueue ml_L_272 rfl ⟨Nat.le_of_ble_eq_true rfl, Nat.le_of_ble_eq_true rfl⟩ ⟨by omega, by omega⟩ (Nat.le_of_ble_eq_true rfl) rfl (k1 + 2) (k2 + 12) rfl rfl 2183 rfl dL_law_2180 ?_
  refine r_istore C (lv' := [(0, .ref b), (1, .ref a1), (2, .ref a2), (3, .ref a3), (4, .ref a4), (5, .int v5), (6, .int y1873)]) [1, 2, 3, 4, 5, 6, 0] 2185 rfl dL_law_2183 (Nat.le_of_ble_eq_true rfl) rfl ?_
  refine r_aload_n C 2 2186 rfl dL_law_2185 rfl ?_
  refine r_aload_n C 0 2187 rfl dL_law_2186 rfl ?_
  refine r_iload C 5 2189 rfl dL_law_2187 rfl ?_
  refine r_iconst C 1 rfl 2190 rfl dL_law_2189 ?_
  refine r_iadd C 2191 rfl dL_law_2190 ?_
  obtain ⟨i1875, h⟩ := ck_some h
  refine r_sld C hX i1875 2192 rfl dL_law_2191 ?_
  refine r_aload_n C 0 2193 rfl dL_law_2192 rfl ?_
  refine r_iload C 5 2195 rfl dL_law_2193 rfl ?_
  refine r_iconst C 2 rfl 2196 rfl dL_law_2195 ?_
  refine r_iadd C 2197 rfl dL_law_2196 ?_
  obtain ⟨i1876, h⟩ := ck_some h
  refine r_sld C hX i1876 2198 rfl dL_law_2197 ?_
  obtain ⟨y1878, κ1879, e1877, h⟩ := bd2_some h
  refine r_cVi C (st := []) (c_X7_sewingOrderByQueue ha2 e1877) yv_X7_sewingOrderByQueue ml_L_274 rfl ha2 rfl ⟨Nat.le_of_ble_eq_true rfl, Nat.le_of_ble_eq_true rfl⟩ ⟨by omega, by omega⟩ (Nat.le_of_ble_eq_true rfl) rfl (k1 + 2) (k2 + 12) rfl rfl 2201 rfl dL_law_2198 ?_
  refine r_istore C (lv' := [(0, .ref b), (1, .ref a1), (2, .ref a2), (3, .ref a3), (4, .ref a4), (5, .int v5), (6, .int y1873), (7, .int y1878)]) [1, 2, 3, 4, 5, 6, 7, 0] 2203 rfl dL_law_2201 (Nat.le_of_ble_eq_true rfl) rfl ?_
  refine r_aload_n C 2 2204 rfl dL_law_2203 rfl ?_
  obtain ⟨y1881, e1880, h⟩ := bd_some h
  refine r_cVi C (st := []) (c_X7_thrown ha2 e1880) yv_X7_thrown ml_L_175 rfl ha2 rfl ⟨Nat.le_of_ble_eq_true rfl, Nat.le_of_ble_eq_true rfl⟩ ⟨by omega, by omega⟩ (Nat.le_of_ble_eq_true rfl) rfl (k1 + 2) (k2 + 12) rfl rfl 2207 rfl dL_law_2204 ?_
  refine r_iload C 6 2209 rfl dL_law_2207 rfl ?_
  refine r_icmp_eq C 2214 2212 rfl dL_law_2209 rfl ⟨fun c1882 => ?_, fun c1882 => ?_⟩
  · have h := if_some_t c1882 h
    refine r_iload C 6 2216 rfl dL_law_2214 rfl ?_
    refine r_if_ne C 2231 2219 rfl dL_law_2216 rfl ⟨fun c1883 => ?_, fun c1883 => ?_⟩
    · have h := if_some_f c1883 h
      refine r_goto C 3082 dL_law_2231 rfl ?_
      refine r_lv [0, 1, 2, 3, 4, 5] rfl ?_
      refine r_wd (k1' := (k1 + 52)) (k2' := (k2 + 7248)) (by omega) (by omega) ?_
      exact w_L_law_3082 C hX ha1 ha2 ha3 ha4 hq (k1 := k1) (k2 := k2) (by omega) (by omega) (fun κ u5 h k1a k2a g1 g2 => hK28 κ u5 h k1a k2a (by omega) (by omega)) h
    · have h := if_some_t c1883 h
      refine r_aload_n C 3 2220 rfl dL_law_2219 rfl ?_
      refine r_iconst C 0 rfl 2221 rfl dL_law_2220 ?_
      refine r_lald C ha3 (by decide) 2222 rfl dL_law_2221 ?_
      refine r_iload C 7 2224 rfl dL_law_2222 rfl ?_
      refine r_i2l C 2225 rfl dL_law_2224 ?_
      refine r_lcmp C 2226 rfl dL_law_2225 ?_
      refine r_if_eq C 2231 2229 rfl dL_law_2226 rfl ⟨fun c1884 => ?_, fun c1884 => ?_⟩
      · have h := if_some_t c1884 h
        refine r_goto C 3082 dL_law_2231 rfl ?_
        refine r_lv [0, 1, 2, 3, 4, 5] rfl ?_
        refine r_wd (k1' := (k1 + 52)) (k2' := (k2 + 7248)) (by omega) (by omega) ?_
        exact w_L_law_3082 C hX ha1 ha2 ha3 ha4 hq (k1 := k1) (k2 := k2) (by omega) (by omega) (fun κ u5 h k1a k2a g1 g2 => hK28 κ u5 h k1a k2a (by omega) (by omega)) h
      · have h := if_some_f c1884 h
        refine r_iconst C 0 rfl 2230 rfl dL_law_2229 ?_
        exact absurd (congrArg (fun z => z.1) (Option.some.inj h)) (show ¬ ((0 : Int32) = 1) by decide)
  · have h := if_some_f c1882 h
    refine r_iconst C 0 rfl 2213 rfl dL_law_2212 ?_
    exact absurd (congrArg (fun z => z.1) (Option.some.inj h)) (show ¬ ((0 : Int32) = 1) by decide)
set_option maxRecDepth 20000 in
theorem w_L_law_2234 {F : jFm} (C : jA F RL cL_law 9 2048 603072 7182442 94400) {b L : Nat} {xs : Nat → Int32} (hX : jScr F b L xs) {κ : jKt} {a1 : Nat} (ha1 : jSof F a1 = (1, 10, 11)) {a2 : Nat} (ha2 : jSof F a2 = (1, 11, 22)) {a3 : Nat} (ha3 : jSof F a3 = (2, 3, 1)) {a4 : Nat} (ha4 : jSof F a4 = (2, 4, 1)) {v5 : Int32} {κr : jKt} (hq : ∀ κ k1 k2 lv, κ = κr → k1 ≤ 603072 → k2 ≤ 7182442 → jW F 9 k1 k2 κ 3089 lv [.int 1]) {k1 k2 : Nat} (hk1 : k1 + 52 ≤ 603072) (hk2 : k2 + 7248 ≤ 7182442) {K28 : jKt → Int32 → Option (Int32 × jKt)} (hK28 : ∀ (κ : jKt) (u5 : Int32), K28 κ u5 = some (1, κr) → ∀ k1a k2a, k1a ≤ k1 + 52 → k2a ≤ k2 + 7248 → jW F 9 k1a k2a κ 28 [(0, .ref b), (1, .ref a1), (2, .ref a2), (3, .ref a3), (4, .ref a4), (5, .int u5)] []) (h : P_L_law_2234 xs L κ a1 a2 a3 a4 v5 K28 = some (1, κr)) : jW F 9 k1 k2 κ 2234 [(0, .ref b), (1, .ref a1), (2, .ref a2), (3, .ref a3), (4, .ref a4), (5, .int v5)] [] := by
  unfold P_L_law_2234 at h
  refine r_aload_n C 1 2235 rfl dL_law_2234 rfl ?_
  refine r_aload_n C 0 2236 rfl dL_law_2235 rfl ?_
  refine r_iload C 5 2238 rfl dL_law_2236 rfl ?_
  refine r_iconst C 1 rfl 2239 rfl dL_law_2238 ?_
  refine r_iadd C 2240 rfl dL_law_2239 ?_
  obtain ⟨i1885, h⟩ := ck_some h
  refine r_sld C hX i1885 2241 rfl dL_law_2240 ?_
  refine r_aload_n C 3 2242 rfl dL_law_2241 rfl ?_
  obtain ⟨y1887, κ1888, e1886, h⟩ := bd2_some h
  refine r_cSh C (st := []) (c_L_rounds ha1 ha3 e1886) yv_L_rounds ml_L_275 rfl ⟨Nat.le_of_ble_eq_true rfl, Nat.le_of_ble_eq_true rfl⟩ ⟨by omega, by omega⟩ (Nat.le_of_ble_eq_true rfl) rfl (k1 + 1) (k2 + 6) rfl rfl 2245 rfl dL_law_2242 ?_
  refine r_istore C (lv' := [(0, .ref b), (1, .ref a1), (2, .ref a2), (3, .ref a3), (4, .ref a4), (5, .int v5), (6, .int y1887)]) [1, 2, 3, 4, 5, 6, 0] 2247 rfl dL_law_2245 (Nat.le_of_ble_eq_true rfl) rfl ?_
  refine r_aload_n C 2 2248 rfl dL_law_2247 rfl ?_
  refine r_aload_n C 0 2249 rfl dL_law_2248 rfl ?_
  refine r_iload C 5 2251 rfl dL_law_2249 rfl ?_
  refine r_iconst C 1 rfl 2252 rfl dL_law_2251 ?_
  refine r_iadd C 2253 rfl dL_law_2252 ?_
  obtain ⟨i1889, h⟩ := ck_some h
  refine r_sld C hX i1889 2254 rfl dL_law_2253 ?_
  obtain ⟨y1891, κ1892, e1890, h⟩ := bd2_some h
  refine r_cVi C (st := []) (c_X7_rounds ha2 e1890) yv_X7_rounds ml_L_277 rfl ha2 rfl ⟨Nat.le_of_ble_eq_true rfl, Nat.le_of_ble_eq_true rfl⟩ ⟨by omega, by omega⟩ (Nat.le_of_ble_eq_true rfl) rfl (k1 + 1) (k2 + 6) rfl rfl 2257 rfl dL_law_2254 ?_
  refine r_istore C (lv' := [(0, .ref b), (1, .ref a1), (2, .ref a2), (3, .ref a3), (4, .ref a4), (5, .int v5), (6, .int y1887), (7, .int y1891)]) [1, 2, 3, 4, 5, 6, 7, 0] 2259 rfl dL_law_2257 (Nat.le_of_ble_eq_true rfl) rfl ?_
  refine r_aload_n C 2 2260 rfl dL_law_2259 rfl ?_
  obtain ⟨y1894, e1893, h⟩ := bd_some h
  refine r_cVi C (st := []) (c_X7_thrown ha2 e1893) yv_X7_thrown ml_L_175 rfl ha2 rfl ⟨Nat.le_of_ble_eq_true rfl, Nat.le_of_ble_eq_true rfl⟩ ⟨by omega, by omega⟩ (Nat.le_of_ble_eq_true rfl) rfl (k1 + 1) (k2 + 6) rfl rfl 2263 rfl dL_law_2260 ?_
  refine r_iload C 6 2265 rfl dL_law_2263 rfl ?_
  refine r_icmp_eq C 2270 2268 rfl dL_law_2265 rfl ⟨fun c1895 => ?_, fun c1895 => ?_⟩
  · have h := if_some_t c1895 h
    refine r_iload C 6 2272 rfl dL_law_2270 rfl ?_
    refine r_if_ne C 2287 2275 rfl dL_law_2272 rfl ⟨fun c1896 => ?_, fun c1896 => ?_⟩
    · have h := if_some_f c1896 h
      refine r_goto C 3082 dL_law_2287 rfl ?_
      refine r_lv [0, 1, 2, 3, 4, 5] rfl ?_
      refine r_wd (k1' := (k1 + 52)) (k2' := (k2 + 7248)) (by omega) (by omega) ?_
      exact w_L_law_3082 C hX ha1 ha2 ha3 ha4 hq (k1 := k1) (k2 := k2) (by omega) (by omega) (fun κ u5 h k1a k2a g1 g2 => hK28 κ u5 h k1a k2a (by omega) (by omega)) h
    · have h := if_some_t c1896 h
      refine r_aload_n C 3 2276 rfl dL_law_2275 rfl ?_
      refine r_iconst C 0 rfl 2277 rfl dL_law_2276 ?_
      refine r_lald C ha3 (by decide) 2278 rfl dL_law_2277 ?_
      refine r_iload C 7 2280 rfl dL_law_2278 rfl ?_
      refine r_i2l C 2281 rfl dL_law_2280 ?_
      refine r_lcmp C 2282 rfl dL_law_2281 ?_
      refine r_if_eq C 2287 2285 rfl dL_law_2282 rfl ⟨fun c1897 => ?_, fun c1897 => ?_⟩
      · have h := if_some_t c1897 h
        refine r_goto C 3082 dL_law_2287 rfl ?_
        refine r_lv [0, 1, 2, 3, 4, 5] rfl ?_
        refine r_wd (k1' := (k1 + 52)) (k2' := (k2 + 7248)) (by omega) (by omega) ?_
        exact w_L_law_3082 C hX ha1 ha2 ha3 ha4 hq (k1 := k1) (k2 := k2) (by omega) (by omega) (fun κ u5 h k1a k2a g1 g2 => hK28 κ u5 h k1a k2a (by omega) (by omega)) h
      · have h := if_some_f c1897 h
        refine r_iconst C 0 rfl 2286 rfl dL_law_2285 ?_
        exact absurd (congrArg (fun z => z.1) (Option.some.inj h)) (show ¬ ((0 : Int32) = 1) by decide)
  · have h := if_some_f c1895 h
    refine r_iconst C 0 rfl 2269 rfl dL_law_2268 ?_
    exact absurd (congrArg (fun z => z.1) (Option.some.inj h)) (show ¬ ((0 : Int32) = 1) by decide)
set_option maxRecDepth 20000 in
theorem w_L_law_2290 {F : jFm} (C : jA F RL cL_law 9 2048 603072 7182442 94400) {b L : Nat} {xs : Nat → Int32} (hX : jScr F b L xs) {κ : jKt} {a1 : Nat} (ha1 : jSof F a1 = (1, 10, 11)) {a2 : Nat} (ha2 : jSof F a2 = (1, 11, 22)) {a3 : Nat} (ha3 : jSof F a3 = (2, 3, 1)) {a4 : Nat} (ha4 : jSof F a4 = (2, 4, 1)) {v5 : Int32} {κr : jKt} (hq : ∀ κ k1 k2 lv, κ = κr → k1 ≤ 603072 → k2 ≤ 7182442 → jW F 9 k1 k2 κ 3089 lv [.int 1]) {k1 k2 : Nat} (hk1 : k1 + 52 ≤ 603072) (hk2 : k2 + 7248 ≤ 7182442) {K28 : jKt → Int32 → Option (Int32 × jKt)} (hK28 : ∀ (κ : jKt) (u5 : Int32), K28 κ u5 = some (1, κr) → ∀ k1a k2a, k1a ≤ k1 + 52 → k2a ≤ k2 + 7248 → jW F 9 k1a k2a κ 28 [(0, .ref b), (1, .ref a1), (2, .ref a2), (3, .ref a3), (4, .ref a4), (5, .int u5)] []) (h : P_L_law_2290 xs L κ a1 a2 a3 a4 v5 K28 = some (1, κr)) : jW F 9 k1 k2 κ 2290 [(0, .ref b), (1, .ref a1), (2, .ref a2), (3, .ref a3), (4, .ref a4), (5, .int v5)] [] := by
  unfold P_L_law_2290 at h
  refine r_aload_n C 1 2291 rfl dL_law_2290 rfl ?_
  refine r_aload_n C 0 2292 rfl dL_law_2291 rfl ?_
  refine r_iload C 5 2294 rfl dL_law_2292 rfl ?_
  refine r_iconst C 1 rfl 2295 rfl dL_law_2294 ?_
  refine r_iadd C 2296 rfl dL_law_2295 ?_
  obtain ⟨i1898, h⟩ := ck_some h
  refine r_sld C hX i1898 2297 rfl dL_law_2296 ?_
  refine r_aload_n C 3 2298 rfl dL_law_2297 rfl ?_
  obtain ⟨y1900, κ1901, e1899, h⟩ := bd2_some h
  refine r_cSh C (st := []) (c_L_clothNeeded ha1 ha3 e1899) yv_L_clothNeeded ml_L_278 rfl ⟨Nat.le_of_ble_eq_true rfl, Nat.le_of_ble_eq_true rfl⟩ ⟨by omega, by omega⟩ (Nat.le_of_ble_eq_true rfl) rfl (k1 + 1) (k2 + 6) rfl rfl 2301 rfl dL_law_2298 ?_
  refine r_istore C (lv' := [(0, .ref b), (1, .ref a1), (2, .ref a2), (3, .ref a3), (4, .ref a4), (5, .int v5), (6, .int y1900)]) [1, 2, 3, 4, 5, 6, 0] 2303 rfl dL_law_2301 (Nat.le_of_ble_eq_true rfl) rfl ?_
  refine r_aload_n C 2 2304 rfl dL_law_2303 rfl ?_
  refine r_aload_n C 0 2305 rfl dL_law_2304 rfl ?_
  refine r_iload C 5 2307 rfl dL_law_2305 rfl ?_
  refine r_iconst C 1 rfl 2308 rfl dL_law_2307 ?_
  refine r_iadd C 2309 rfl dL_law_2308 ?_
  obtain ⟨i1902, h⟩ := ck_some h
  refine r_sld C hX i1902 2310 rfl dL_law_2309 ?_
  obtain ⟨y1904, κ1905, e1903, h⟩ := bd2_some h
  refine r_cVi C (st := []) (c_X7_clothNeeded ha2 e1903) yv_X7_clothNeeded ml_L_280 rfl ha2 rfl ⟨Nat.le_of_ble_eq_true rfl, Nat.le_of_ble_eq_true rfl⟩ ⟨by omega, by omega⟩ (Nat.le_of_ble_eq_true rfl) rfl (k1 + 1) (k2 + 6) rfl rfl 2313 rfl dL_law_2310 ?_
  refine r_istore C (lv' := [(0, .ref b), (1, .ref a1), (2, .ref a2), (3, .ref a3), (4, .ref a4), (5, .int v5), (6, .int y1900), (7, .int y1904)]) [1, 2, 3, 4, 5, 6, 7, 0] 2315 rfl dL_law_2313 (Nat.le_of_ble_eq_true rfl) rfl ?_
  refine r_aload_n C 2 2316 rfl dL_law_2315 rfl ?_
  obtain ⟨y1907, e1906, h⟩ := bd_some h
  refine r_cVi C (st := []) (c_X7_thrown ha2 e1906) yv_X7_thrown ml_L_175 rfl ha2 rfl ⟨Nat.le_of_ble_eq_true rfl, Nat.le_of_ble_eq_true rfl⟩ ⟨by omega, by omega⟩ (Nat.le_of_ble_eq_true rfl) rfl (k1 + 1) (k2 + 6) rfl rfl 2319 rfl dL_law_2316 ?_
  refine r_iload C 6 2321 rfl dL_law_2319 rfl ?_
  refine r_icmp_eq C 2326 2324 rfl dL_law_2321 rfl ⟨fun c1908 => ?_, fun c1908 => ?_⟩
  · have h := if_some_t c1908 h
    refine r_iload C 6 2328 rfl dL_law_2326 rfl ?_
    refine r_if_ne C 2343 2331 rfl dL_law_2328 rfl ⟨fun c1909 => ?_, fun c1909 => ?_⟩
    · have h := if_some_f c1909 h
      refine r_goto C 3082 dL_law_2343 rfl ?_
      refine r_lv [0, 1, 2, 3, 4, 5] rfl ?_
      refine r_wd (k1' := (k1 + 52)) (k2' := (k2 + 7248)) (by omega) (by omega) ?_
      exact w_L_law_3082 C hX ha1 ha2 ha3 ha4 hq (k1 := k1) (k2 := k2) (by omega) (by omega) (fun κ u5 h k1a k2a g1 g2 => hK28 κ u5 h k1a k2a (by omega) (by omega)) h
    · have h := if_some_t c1909 h
      refine r_aload_n C 3 2332 rfl dL_law_2331 rfl ?_
      refine r_iconst C 0 rfl 2333 rfl dL_law_2332 ?_
      refine r_lald C ha3 (by decide) 2334 rfl dL_law_2333 ?_
      refine r_iload C 7 2336 rfl dL_law_2334 rfl ?_
      refine r_i2l C 2337 rfl dL_law_2336 ?_
      refine r_lcmp C 2338 rfl dL_law_2337 ?_
      refine r_if_eq C 2343 2341 rfl dL_law_2338 rfl ⟨fun c1910 => ?_, fun c1910 => ?_⟩
      · have h := if_some_t c1910 h
        refine r_goto C 3082 dL_law_2343 rfl ?_
        refine r_lv [0, 1, 2, 3, 4, 5] rfl ?_
        refine r_wd (k1' := (k1 + 52)) (k2' := (k2 + 7248)) (by omega) (by omega) ?_
        exact w_L_law_3082 C hX ha1 ha2 ha3 ha4 hq (k1 := k1) (k2 := k2) (by omega) (by omega) (fun κ u5 h k1a k2a g1 g2 => hK28 κ u5 h k1a k2a (by omega) (by omega)) h
      · have h := if_some_f c1910 h
        refine r_iconst C 0 rfl 2342 rfl dL_law_2341 ?_
        exact absurd (congrArg (fun z => z.1) (Option.some.inj h)) (show ¬ ((0 : Int32) = 1) by decide)
  · have h := if_some_f c1908 h
    refine r_iconst C 0 rfl 2325 rfl dL_law_2324 ?_
    exact absurd (congrArg (fun z => z.1) (Option.some.inj h)) (show ¬ ((0 : Int32) = 1) by decide)
set_option maxRecDepth 20000 in
theorem w_L_law_2346 {F : jFm} (C : jA F RL cL_law 9 2048 603072 7182442 94400) {b L : Nat} {xs : Nat → Int32} (hX : jScr F b L xs) {κ : jKt} {a1 : Nat} (ha1 : jSof F a1 = (1, 10, 11)) {a2 : Nat} (ha2 : jSof F a2 = (1, 11, 22)) {a3 : Nat} (ha3 : jSof F a3 = (2, 3, 1)) {a4 : Nat} (ha4 : jSof F a4 = (2, 4, 1)) {v5 : Int32} {κr : jKt} (hq : ∀ κ k1 k2 lv, κ = κr → k1 ≤ 603072 → k2 ≤ 7182442 → jW F 9 k1 k2 κ 3089 lv [.int 1]) {k1 k2 : Nat} (hk1 : k1 + 52 ≤ 603072) (hk2 : k2 + 7248 ≤ 7182442) {K28 : jKt → Int32 → Option (Int32 × jKt)} (hK28 : ∀ (κ : jKt) (u5 : Int32), K28 κ u5 = some (1, κr) → ∀ k1a k2a, k1a ≤ k1 + 52 → k2a ≤ k2 + 7248 → jW F 9 k1a k2a κ 28 [(0, .ref b), (1, .ref a1), (2, .ref a2), (3, .ref a3), (4, .ref a4), (5, .int u5)] []) (h : P_L_law_2346 xs L κ a1 a2 a3 a4 v5 K28 = some (1, κr)) : jW F 9 k1 k2 κ 2346 [(0, .ref b), (1, .ref a1), (2, .ref a2), (3, .ref a3), (4, .ref a4), (5, .int v5)] [] := by
  unfold P_L_law_2346 at h
  refine r_aload_n C 1 2347 rfl dL_law_2346 rfl ?_
  refine r_aload_n C 0 2348 rfl dL_law_2347 rfl ?_
  refine r_iload C 5 2350 rfl dL_law_2348 rfl ?_
  refine r_iconst C 1 rfl 2351 rfl dL_law_2350 ?_
  refine r_iadd C 2352 rfl dL_law_2351 ?_
  obtain ⟨i1911, h⟩ := ck_some h
  refine r_sld C hX i1911 2353 rfl dL_law_2352 ?_
  refine r_aload_n C 3 2354 rfl dL_law_2353 rfl ?_
  obtain ⟨y1913, κ1914, e1912, h⟩ := bd2_some h
  refine r_cSh C (st := []) (c_L_clothNeededByDifference ha1 ha3 e1912) yv_L_clothNeededByDifference ml_L_281 rfl ⟨Nat.le_of_ble_eq_true rfl, Nat.le_of_ble_eq_true rfl⟩ ⟨by omega, by omega⟩ (Nat.le_of_ble_eq_true rfl) rfl (k1 + 1) (k2 + 6) rfl rfl 2357 rfl dL_law_2354 ?_
  refine r_istore C (lv' := [(0, .ref b), (1, .ref a1), (2, .ref a2), (3, .ref a3), (4, .ref a4), (5, .int v5), (6, .int y1913)]) [1, 2, 3, 4, 5, 6, 0] 2359 rfl dL_law_2357 (Nat.le_of_ble_eq_true rfl) rfl ?_
  refine r_aload_n C 2 2360 rfl dL_law_2359 rfl ?_
  refine r_aload_n C 0 2361 rfl dL_law_2360 rfl ?_
  refine r_iload C 5 2363 rfl dL_law_2361 rfl ?_
  refine r_iconst C 1 rfl 2364 rfl dL_law_2363 ?_
  refine r_iadd C 2365 rfl dL_law_2364 ?_
  obtain ⟨i1915, h⟩ := ck_some h
  refine r_sld C hX i1915 2366 rfl dL_law_2365 ?_
  obtain ⟨y1917, κ1918, e1916, h⟩ := bd2_some h
  refine r_cVi C (st := []) (c_X7_clothNeededByDifference ha2 e1916) yv_X7_clothNeededByDifference ml_L_283 rfl ha2 rfl ⟨Nat.le_of_ble_eq_true rfl, Nat.le_of_ble_eq_true rfl⟩ ⟨by omega, by omega⟩ (Nat.le_of_ble_eq_true rfl) rfl (k1 + 1) (k2 + 6) rfl rfl 2369 rfl dL_law_2366 ?_
  refine r_istore C (lv' := [(0, .ref b), (1, .ref a1), (2, .ref a2), (3, .ref a3), (4, .ref a4), (5, .int v5), (6, .int y1913), (7, .int y1917)]) [1, 2, 3, 4, 5, 6, 7, 0] 2371 rfl dL_law_2369 (Nat.le_of_ble_eq_true rfl) rfl ?_
  refine r_aload_n C 2 2372 rfl dL_law_2371 rfl ?_
  obtain ⟨y1920, e1919, h⟩ := bd_some h
  refine r_cVi C (st := []) (c_X7_thrown ha2 e1919) yv_X7_thrown ml_L_175 rfl ha2 rfl ⟨Nat.le_of_ble_eq_true rfl, Nat.le_of_ble_eq_true rfl⟩ ⟨by omega, by omega⟩ (Nat.le_of_ble_eq_true rfl) rfl (k1 + 1) (k2 + 6) rfl rfl 2375 rfl dL_law_2372 ?_
  refine r_iload C 6 2377 rfl dL_law_2375 rfl ?_
  refine r_icmp_eq C 2382 2380 rfl dL_law_2377 rfl ⟨fun c1921 => ?_, fun c1921 => ?_⟩
  · have h := if_some_t c1921 h
    refine r_iload C 6 2384 rfl dL_law_2382 rfl ?_
    refine r_if_ne C 2399 2387 rfl dL_law_2384 rfl ⟨fun c1922 => ?_, fun c1922 => ?_⟩
    · have h := if_some_f c1922 h
      refine r_goto C 3082 dL_law_2399 rfl ?_
      refine r_lv [0, 1, 2, 3, 4, 5] rfl ?_
      refine r_wd (k1' := (k1 + 52)) (k2' := (k2 + 7248)) (by omega) (by omega) ?_
      exact w_L_law_3082 C hX ha1 ha2 ha3 ha4 hq (k1 := k1) (k2 := k2) (by omega) (by omega) (fun κ u5 h k1a k2a g1 g2 => hK28 κ u5 h k1a k2a (by omega) (by omega)) h
    · have h := if_some_t c1922 h
      refine r_aload_n C 3 2388 rfl dL_law_2387 rfl ?_
      refine r_iconst C 0 rfl 2389 rfl dL_law_2388 ?_
      refine r_lald C ha3 (by decide) 2390 rfl dL_law_2389 ?_
      refine r_iload C 7 2392 rfl dL_law_2390 rfl ?_
      refine r_i2l C 2393 rfl dL_law_2392 ?_
      refine r_lcmp C 2394 rfl dL_law_2393 ?_
      refine r_if_eq C 2399 2397 rfl dL_law_2394 rfl ⟨fun c1923 => ?_, fun c1923 => ?_⟩
      · have h := if_some_t c1923 h
        refine r_goto C 3082 dL_law_2399 rfl ?_
        refine r_lv [0, 1, 2, 3, 4, 5] rfl ?_
        refine r_wd (k1' := (k1 + 52)) (k2' := (k2 + 7248)) (by omega) (by omega) ?_
        exact w_L_law_3082 C hX ha1 ha2 ha3 ha4 hq (k1 := k1) (k2 := k2) (by omega) (by omega) (fun κ u5 h k1a k2a g1 g2 => hK28 κ u5 h k1a k2a (by omega) (by omega)) h
      · have h := if_some_f c1923 h
        refine r_iconst C 0 rfl 2398 rfl dL_law_2397 ?_
        exact absurd (congrArg (fun z => z.1) (Option.some.inj h)) (show ¬ ((0 : Int32) = 1) by decide)
  · have h := if_some_f c1921 h
    refine r_iconst C 0 rfl 2381 rfl dL_law_2380 ?_
    exact absurd (congrArg (fun z => z.1) (Option.some.inj h)) (show ¬ ((0 : Int32) = 1) by decide)
set_option maxRecDepth 20000 in
theorem w_L_law_2402 {F : jFm} (C : jA F RL cL_law 9 2048 603072 7182442 94400) {b L : Nat} {xs : Nat → Int32} (hX : jScr F b L xs) {κ : jKt} {a1 : Nat} (ha1 : jSof F a1 = (1, 10, 11)) {a2 : Nat} (ha2 : jSof F a2 = (1, 11, 22)) {a3 : Nat} (ha3 : jSof F a3 = (2, 3, 1)) {a4 : Nat} (ha4 : jSof F a4 = (2, 4, 1)) {v5 : Int32} {κr : jKt} (hq : ∀ κ k1 k2 lv, κ = κr → k1 ≤ 603072 → k2 ≤ 7182442 → jW F 9 k1 k2 κ 3089 lv [.int 1]) {k1 k2 : Nat} (hk1 : k1 + 52 ≤ 603072) (hk2 : k2 + 7248 ≤ 7182442) {K28 : jKt → Int32 → Option (Int32 × jKt)} (hK28 : ∀ (κ : jKt) (u5 : Int32), K28 κ u5 = some (1, κr) → ∀ k1a k2a, k1a ≤ k1 + 52 → k2a ≤ k2 + 7248 → jW F 9 k1a k2a κ 28 [(0, .ref b), (1, .ref a1), (2, .ref a2), (3, .ref a3), (4, .ref a4), (5, .int u5)] []) (h : P_L_law_2402 xs L κ a1 a2 a3 a4 v5 K28 = some (1, κr)) : jW F 9 k1 k2 κ 2402 [(0, .ref b), (1, .ref a1), (2, .ref a2), (3, .ref a3), (4, .ref a4), (5, .int v5)] [] := by
  unfold P_L_law_2402 at h
  refine r_aload_n C 1 2403 rfl dL_law_2402 rfl ?_
  obtain ⟨y1925, e1924, h⟩ := bd_some h
  refine r_cVi C (st := []) (c_X6_boughtTotal ha1 e1924) yv_X6_boughtTotal ml_L_284 rfl ha1 rfl ⟨Nat.le_of_ble_eq_true rfl, Nat.le_of_ble_eq_true rfl⟩ ⟨by omega, by omega⟩ (Nat.le_of_ble_eq_true rfl) rfl k1 k2 rfl rfl 2406 rfl dL_law_2403 ?_
  refine r_aload_n C 2 2407 rfl dL_law_2406 rfl ?_
  obtain ⟨y1927, κ1928, e1926, h⟩ := bd2_some h
  refine r_cVi C (st := [.int y1925]) (c_X7_boughtTotal ha2 e1926) yv_X7_boughtTotal ml_L_287 rfl ha2 rfl ⟨Nat.le_of_ble_eq_true rfl, Nat.le_of_ble_eq_true rfl⟩ ⟨by omega, by omega⟩ (Nat.le_of_ble_eq_true rfl) rfl k1 k2 rfl rfl 2410 rfl dL_law_2407 ?_
  refine r_icmp_eq C 3082 2413 rfl dL_law_2410 rfl ⟨fun c1929 => ?_, fun c1929 => ?_⟩
  · have h := if_some_t c1929 h
    refine r_wd (k1' := (k1 + 52)) (k2' := (k2 + 7248)) (by omega) (by omega) ?_
    exact w_L_law_3082 C hX ha1 ha2 ha3 ha4 hq (k1 := k1) (k2 := k2) (by omega) (by omega) (fun κ u5 h k1a k2a g1 g2 => hK28 κ u5 h k1a k2a (by omega) (by omega)) h
  · have h := if_some_f c1929 h
    refine r_iconst C 0 rfl 2414 rfl dL_law_2413 ?_
    exact absurd (congrArg (fun z => z.1) (Option.some.inj h)) (show ¬ ((0 : Int32) = 1) by decide)
set_option maxRecDepth 20000 in
theorem w_L_law_2415 {F : jFm} (C : jA F RL cL_law 9 2048 603072 7182442 94400) {b L : Nat} {xs : Nat → Int32} (hX : jScr F b L xs) {κ : jKt} {a1 : Nat} (ha1 : jSof F a1 = (1, 10, 11)) {a2 : Nat} (ha2 : jSof F a2 = (1, 11, 22)) {a3 : Nat} (ha3 : jSof F a3 = (2, 3, 1)) {a4 : Nat} (ha4 : jSof F a4 = (2, 4, 1)) {v5 : Int32} {κr : jKt} (hq : ∀ κ k1 k2 lv, κ = κr → k1 ≤ 603072 → k2 ≤ 7182442 → jW F 9 k1 k2 κ 3089 lv [.int 1]) {k1 k2 : Nat} (hk1 : k1 + 52 ≤ 603072) (hk2 : k2 + 7248 ≤ 7182442) {K28 : jKt → Int32 → Option (Int32 × jKt)} (hK28 : ∀ (κ : jKt) (u5 : Int32), K28 κ u5 = some (1, κr) → ∀ k1a k2a, k1a ≤ k1 + 52 → k2a ≤ k2 + 7248 → jW F 9 k1a k2a κ 28 [(0, .ref b), (1, .ref a1), (2, .ref a2), (3, .ref a3), (4, .ref a4), (5, .int u5)] []) (h : P_L_law_2415 xs L κ a1 a2 a3 a4 v5 K28 = some (1, κr)) : jW F 9 k1 k2 κ 2415 [(0, .ref b), (1, .ref a1), (2, .ref a2), (3, .ref a3), (4, .ref a4), (5, .int v5)] [] := by
  unfold P_L_law_2415 at h
  refine r_aload_n C 1 2416 rfl dL_law_2415 rfl ?_
  obtain ⟨y1931, e1930, h⟩ := bd_some h
  refine r_cVi C (st := []) (c_X6_wasteTotal ha1 e1930) yv_X6_wasteTotal ml_L_288 rfl ha1 rfl ⟨Nat.le_of_ble_eq_true rfl, Nat.le_of_ble_eq_true rfl⟩ ⟨by omega, by omega⟩ (Nat.le_of_ble_eq_true rfl) rfl k1 k2 rfl rfl 2419 rfl dL_law_2416 ?_
  refine r_aload_n C 2 2420 rfl dL_law_2419 rfl ?_
  obtain ⟨y1933, κ1934, e1932, h⟩ := bd2_some h
  refine r_cVi C (st := [.int y1931]) (c_X7_wasteTotal ha2 e1932) yv_X7_wasteTotal ml_L_291 rfl ha2 rfl ⟨Nat.le_of_ble_eq_true rfl, Nat.le_of_ble_eq_true rfl⟩ ⟨by omega, by omega⟩ (Nat.le_of_ble_eq_true rfl) rfl k1 k2 rfl rfl 2423 rfl dL_law_2420 ?_
  refine r_icmp_eq C 3082 2426 rfl dL_law_2423 rfl ⟨fun c1935 => ?_, fun c1935 => ?_⟩
  · have h := if_some_t c1935 h
    refine r_wd (k1' := (k1 + 52)) (k2' := (k2 + 7248)) (by omega) (by omega) ?_
    exact w_L_law_3082 C hX ha1 ha2 ha3 ha4 hq (k1 := k1) (k2 := k2) (by omega) (by omega) (fun κ u5 h k1a k2a g1 g2 => hK28 κ u5 h k1a k2a (by omega) (by omega)) h
  · have h := if_some_f c1935 h
    refine r_iconst C 0 rfl 2427 rfl dL_law_2426 ?_
    exact absurd (congrArg (fun z => z.1) (Option.some.inj h)) (show ¬ ((0 : Int32) = 1) by decide)
set_option maxRecDepth 20000 in
theorem w_L_law_2428 {F : jFm} (C : jA F RL cL_law 9 2048 603072 7182442 94400) {b L : Nat} {xs : Nat → Int32} (hX : jScr F b L xs) {κ : jKt} {a1 : Nat} (ha1 : jSof F a1 = (1, 10, 11)) {a2 : Nat} (ha2 : jSof F a2 = (1, 11, 22)) {a3 : Nat} (ha3 : jSof F a3 = (2, 3, 1)) {a4 : Nat} (ha4 : jSof F a4 = (2, 4, 1)) {v5 : Int32} {κr : jKt} (hq : ∀ κ k1 k2 lv, κ = κr → k1 ≤ 603072 → k2 ≤ 7182442 → jW F 9 k1 k2 κ 3089 lv [.int 1]) {k1 k2 : Nat} (hk1 : k1 + 52 ≤ 603072) (hk2 : k2 + 7248 ≤ 7182442) {K28 : jKt → Int32 → Option (Int32 × jKt)} (hK28 : ∀ (κ : jKt) (u5 : Int32), K28 κ u5 = some (1, κr) → ∀ k1a k2a, k1a ≤ k1 + 52 → k2a ≤ k2 + 7248 → jW F 9 k1a k2a κ 28 [(0, .ref b), (1, .ref a1), (2, .ref a2), (3, .ref a3), (4, .ref a4), (5, .int u5)] []) (h : P_L_law_2428 xs L κ a1 a2 a3 a4 v5 K28 = some (1, κr)) : jW F 9 k1 k2 κ 2428 [(0, .ref b), (1, .ref a1), (2, .ref a2), (3, .ref a3), (4, .ref a4), (5, .int v5)] [] := by
  unfold P_L_law_2428 at h
  refine r_aload_n C 1 2429 rfl dL_law_2428 rfl ?_
  obtain ⟨y1937, e1936, h⟩ := bd_some h
  refine r_cVi C (st := []) (c_X6_deliveredTotal ha1 e1936) yv_X6_deliveredTotal ml_L_292 rfl ha1 rfl ⟨Nat.le_of_ble_eq_true rfl, Nat.le_of_ble_eq_true rfl⟩ ⟨by omega, by omega⟩ (Nat.le_of_ble_eq_true rfl) rfl k1 k2 rfl rfl 2432 rfl dL_law_2429 ?_
  refine r_aload_n C 2 2433 rfl dL_law_2432 rfl ?_
  obtain ⟨y1939, κ1940, e1938, h⟩ := bd2_some h
  refine r_cVi C (st := [.int y1937]) (c_X7_deliveredTotal ha2 e1938) yv_X7_deliveredTotal ml_L_295 rfl ha2 rfl ⟨Nat.le_of_ble_eq_true rfl, Nat.le_of_ble_eq_true rfl⟩ ⟨by omega, by omega⟩ (Nat.le_of_ble_eq_true rfl) rfl k1 k2 rfl rfl 2436 rfl dL_law_2433 ?_
  refine r_icmp_eq C 3082 2439 rfl dL_law_2436 rfl ⟨fun c1941 => ?_, fun c1941 => ?_⟩
  · have h := if_some_t c1941 h
    refine r_wd (k1' := (k1 + 52)) (k2' := (k2 + 7248)) (by omega) (by omega) ?_
    exact w_L_law_3082 C hX ha1 ha2 ha3 ha4 hq (k1 := k1) (k2 := k2) (by omega) (by omega) (fun κ u5 h k1a k2a g1 g2 => hK28 κ u5 h k1a k2a (by omega) (by omega)) h
  · have h := if_some_f c1941 h
    refine r_iconst C 0 rfl 2440 rfl dL_law_2439 ?_
    exact absurd (congrArg (fun z => z.1) (Option.some.inj h)) (show ¬ ((0 : Int32) = 1) by decide)
set_option maxRecDepth 20000 in
theorem w_L_law_2441 {F : jFm} (C : jA F RL cL_law 9 2048 603072 7182442 94400) {b L : Nat} {xs : Nat → Int32} (hX : jScr F b L xs) {κ : jKt} {a1 : Nat} (ha1 : jSof F a1 = (1, 10, 11)) {a2 : Nat} (ha2 : jSof F a2 = (1, 11, 22)) {a3 : Nat} (ha3 : jSof F a3 = (2, 3, 1)) {a4 : Nat} (ha4 : jSof F a4 = (2, 4, 1)) {v5 : Int32} {κr : jKt} (hq : ∀ κ k1 k2 lv, κ = κr → k1 ≤ 603072 → k2 ≤ 7182442 → jW F 9 k1 k2 κ 3089 lv [.int 1]) {k1 k2 : Nat} (hk1 : k1 + 52 ≤ 603072) (hk2 : k2 + 7248 ≤ 7182442) {K28 : jKt → Int32 → Option (Int32 × jKt)} (hK28 : ∀ (κ : jKt) (u5 : Int32), K28 κ u5 = some (1, κr) → ∀ k1a k2a, k1a ≤ k1 + 52 → k2a ≤ k2 + 7248 → jW F 9 k1a k2a κ 28 [(0, .ref b), (1, .ref a1), (2, .ref a2), (3, .ref a3), (4, .ref a4), (5, .int u5)] []) (h : P_L_law_2441 xs L κ a1 a2 a3 a4 v5 K28 = some (1, κr)) : jW F 9 k1 k2 κ 2441 [(0, .ref b), (1, .ref a1), (2, .ref a2), (3, .ref a3), (4, .ref a4), (5, .int v5)] [] := by
  unfold P_L_law_2441 at h
  refine r_aload_n C 1 2442 rfl dL_law_2441 rfl ?_
  obtain ⟨y1943, e1942, h⟩ := bd_some h
  refine r_cVi C (st := []) (c_X6_income ha1 e1942) yv_X6_income ml_L_296 rfl ha1 rfl ⟨Nat.le_of_ble_eq_true rfl, Nat.le_of_ble_eq_true rfl⟩ ⟨by omega, by omega⟩ (Nat.le_of_ble_eq_true rfl) rfl k1 k2 rfl rfl 2445 rfl dL_law_2442 ?_
  refine r_aload_n C 2 2446 rfl dL_law_2445 rfl ?_
  obtain ⟨y1945, κ1946, e1944, h⟩ := bd2_some h
  refine r_cVi C (st := [.int y1943]) (c_X7_income ha2 e1944) yv_X7_income ml_L_299 rfl ha2 rfl ⟨Nat.le_of_ble_eq_true rfl, Nat.le_of_ble_eq_true rfl⟩ ⟨by omega, by omega⟩ (Nat.le_of_ble_eq_true rfl) rfl k1 k2 rfl rfl 2449 rfl dL_law_2446 ?_
  refine r_icmp_eq C 3082 2452 rfl dL_law_2449 rfl ⟨fun c1947 => ?_, fun c1947 => ?_⟩
  · have h := if_some_t c1947 h
    refine r_wd (k1' := (k1 + 52)) (k2' := (k2 + 7248)) (by omega) (by omega) ?_
    exact w_L_law_3082 C hX ha1 ha2 ha3 ha4 hq (k1 := k1) (k2 := k2) (by omega) (by omega) (fun κ u5 h k1a k2a g1 g2 => hK28 κ u5 h k1a k2a (by omega) (by omega)) h
  · have h := if_some_f c1947 h
    refine r_iconst C 0 rfl 2453 rfl dL_law_2452 ?_
    exact absurd (congrArg (fun z => z.1) (Option.some.inj h)) (show ¬ ((0 : Int32) = 1) by decide)
set_option maxRecDepth 20000 in
theorem w_L_law_2454 {F : jFm} (C : jA F RL cL_law 9 2048 603072 7182442 94400) {b L : Nat} {xs : Nat → Int32} (hX : jScr F b L xs) {κ : jKt} {a1 : Nat} (ha1 : jSof F a1 = (1, 10, 11)) {a2 : Nat} (ha2 : jSof F a2 = (1, 11, 22)) {a3 : Nat} (ha3 : jSof F a3 = (2, 3, 1)) {a4 : Nat} (ha4 : jSof F a4 = (2, 4, 1)) {v5 : Int32} {κr : jKt} (hq : ∀ κ k1 k2 lv, κ = κr → k1 ≤ 603072 → k2 ≤ 7182442 → jW F 9 k1 k2 κ 3089 lv [.int 1]) {k1 k2 : Nat} (hk1 : k1 + 52 ≤ 603072) (hk2 : k2 + 7248 ≤ 7182442) {K28 : jKt → Int32 → Option (Int32 × jKt)} (hK28 : ∀ (κ : jKt) (u5 : Int32), K28 κ u5 = some (1, κr) → ∀ k1a k2a, k1a ≤ k1 + 52 → k2a ≤ k2 + 7248 → jW F 9 k1a k2a κ 28 [(0, .ref b), (1, .ref a1), (2, .ref a2), (3, .ref a3), (4, .ref a4), (5, .int u5)] []) (h : P_L_law_2454 xs L κ a1 a2 a3 a4 v5 K28 = some (1, κr)) : jW F 9 k1 k2 κ 2454 [(0, .ref b), (1, .ref a1), (2, .ref a2), (3, .ref a3), (4, .ref a4), (5, .int v5)] [] := by
  unfold P_L_law_2454 at h
  refine r_aload_n C 1 2455 rfl dL_law_2454 rfl ?_
  obtain ⟨y1949, e1948, h⟩ := bd_some h
  refine r_cVi C (st := []) (c_X6_deliveredSuits ha1 e1948) yv_X6_deliveredSuits ml_L_300 rfl ha1 rfl ⟨Nat.le_of_ble_eq_true rfl, Nat.le_of_ble_eq_true rfl⟩ ⟨by omega, by omega⟩ (Nat.le_of_ble_eq_true rfl) rfl k1 k2 rfl rfl 2458 rfl dL_law_2455 ?_
  refine r_aload_n C 2 2459 rfl dL_law_2458 rfl ?_
  obtain ⟨y1951, κ1952, e1950, h⟩ := bd2_some h
  refine r_cVi C (st := [.int y1949]) (c_X7_deliveredSuits ha2 e1950) yv_X7_deliveredSuits ml_L_303 rfl ha2 rfl ⟨Nat.le_of_ble_eq_true rfl, Nat.le_of_ble_eq_true rfl⟩ ⟨by omega, by omega⟩ (Nat.le_of_ble_eq_true rfl) rfl k1 k2 rfl rfl 2462 rfl dL_law_2459 ?_
  refine r_icmp_eq C 3082 2465 rfl dL_law_2462 rfl ⟨fun c1953 => ?_, fun c1953 => ?_⟩
  · have h := if_some_t c1953 h
    refine r_wd (k1' := (k1 + 52)) (k2' := (k2 + 7248)) (by omega) (by omega) ?_
    exact w_L_law_3082 C hX ha1 ha2 ha3 ha4 hq (k1 := k1) (k2 := k2) (by omega) (by omega) (fun κ u5 h k1a k2a g1 g2 => hK28 κ u5 h k1a k2a (by omega) (by omega)) h
  · have h := if_some_f c1953 h
    refine r_iconst C 0 rfl 2466 rfl dL_law_2465 ?_
    exact absurd (congrArg (fun z => z.1) (Option.some.inj h)) (show ¬ ((0 : Int32) = 1) by decide)
set_option maxRecDepth 20000 in
theorem w_L_law_2467 {F : jFm} (C : jA F RL cL_law 9 2048 603072 7182442 94400) {b L : Nat} {xs : Nat → Int32} (hX : jScr F b L xs) {κ : jKt} {a1 : Nat} (ha1 : jSof F a1 = (1, 10, 11)) {a2 : Nat} (ha2 : jSof F a2 = (1, 11, 22)) {a3 : Nat} (ha3 : jSof F a3 = (2, 3, 1)) {a4 : Nat} (ha4 : jSof F a4 = (2, 4, 1)) {v5 : Int32} {κr : jKt} (hq : ∀ κ k1 k2 lv, κ = κr → k1 ≤ 603072 → k2 ≤ 7182442 → jW F 9 k1 k2 κ 3089 lv [.int 1]) {k1 k2 : Nat} (hk1 : k1 + 52 ≤ 603072) (hk2 : k2 + 7248 ≤ 7182442) {K28 : jKt → Int32 → Option (Int32 × jKt)} (hK28 : ∀ (κ : jKt) (u5 : Int32), K28 κ u5 = some (1, κr) → ∀ k1a k2a, k1a ≤ k1 + 52 → k2a ≤ k2 + 7248 → jW F 9 k1a k2a κ 28 [(0, .ref b), (1, .ref a1), (2, .ref a2), (3, .ref a3), (4, .ref a4), (5, .int u5)] []) (h : P_L_law_2467 xs L κ a1 a2 a3 a4 v5 K28 = some (1, κr)) : jW F 9 k1 k2 κ 2467 [(0, .ref b), (1, .ref a1), (2, .ref a2), (3, .ref a3), (4, .ref a4), (5, .int v5)] [] := by
  unfold P_L_law_2467 at h
  refine r_aload_n C 1 2468 rfl dL_law_2467 rfl ?_
  refine r_aload_n C 0 2469 rfl dL_law_2468 rfl ?_
  refine r_iload C 5 2471 rfl dL_law_2469 rfl ?_
  refine r_iconst C 1 rfl 2472 rfl dL_law_2471 ?_
  refine r_iadd C 2473 rfl dL_law_2472 ?_
  obtain ⟨i1954, h⟩ := ck_some h
  refine r_sld C hX i1954 2474 rfl dL_law_2473 ?_
  refine r_aload C 4 2476 rfl dL_law_2474 rfl ?_
  obtain ⟨y1956, κ1957, e1955, h⟩ := bd2_some h
  refine r_cSh C (st := []) (c_L_meanLeg ha1 ha4 e1955) yv_L_meanLeg ml_L_304 rfl ⟨Nat.le_of_ble_eq_true rfl, Nat.le_of_ble_eq_true rfl⟩ ⟨by omega, by omega⟩ (Nat.le_of_ble_eq_true rfl) rfl (k1 + 1) (k2 + 6) rfl rfl 2479 rfl dL_law_2476 ?_
  refine r_istore C (lv' := [(0, .ref b), (1, .ref a1), (2, .ref a2), (3, .ref a3), (4, .ref a4), (5, .int v5), (6, .int y1956)]) [1, 2, 3, 4, 5, 6, 0] 2481 rfl dL_law_2479 (Nat.le_of_ble_eq_true rfl) rfl ?_
  refine r_aload_n C 2 2482 rfl dL_law_2481 rfl ?_
  refine r_aload_n C 0 2483 rfl dL_law_2482 rfl ?_
  refine r_iload C 5 2485 rfl dL_law_2483 rfl ?_
  refine r_iconst C 1 rfl 2486 rfl dL_law_2485 ?_
  refine r_iadd C 2487 rfl dL_law_2486 ?_
  obtain ⟨i1958, h⟩ := ck_some h
  refine r_sld C hX i1958 2488 rfl dL_law_2487 ?_
  obtain ⟨y1960, κ1961, e1959, h⟩ := bd2_some h
  refine r_cVd C (st := []) (c_X7_meanLeg ha2 e1959) yv_X7_meanLeg ml_L_307 rfl ha2 rfl ⟨Nat.le_of_ble_eq_true rfl, Nat.le_of_ble_eq_true rfl⟩ ⟨by omega, by omega⟩ (Nat.le_of_ble_eq_true rfl) rfl (k1 + 1) (k2 + 6) rfl rfl 2491 rfl dL_law_2488 ?_
  refine r_dstore C (lv' := [(0, .ref b), (1, .ref a1), (2, .ref a2), (3, .ref a3), (4, .ref a4), (5, .int v5), (6, .int y1956), (7, .double y1960)]) [1, 2, 3, 4, 5, 6, 7, 0] 2493 rfl dL_law_2491 (Nat.le_of_ble_eq_true rfl) rfl ?_
  refine r_aload_n C 2 2494 rfl dL_law_2493 rfl ?_
  obtain ⟨y1963, e1962, h⟩ := bd_some h
  refine r_cVi C (st := []) (c_X7_thrown ha2 e1962) yv_X7_thrown ml_L_175 rfl ha2 rfl ⟨Nat.le_of_ble_eq_true rfl, Nat.le_of_ble_eq_true rfl⟩ ⟨by omega, by omega⟩ (Nat.le_of_ble_eq_true rfl) rfl (k1 + 1) (k2 + 6) rfl rfl 2497 rfl dL_law_2494 ?_
  refine r_iload C 6 2499 rfl dL_law_2497 rfl ?_
  refine r_icmp_eq C 2504 2502 rfl dL_law_2499 rfl ⟨fun c1964 => ?_, fun c1964 => ?_⟩
  · have h := if_some_t c1964 h
    refine r_iload C 6 2506 rfl dL_law_2504 rfl ?_
    refine r_if_ne C 2541 2509 rfl dL_law_2506 rfl ⟨fun c1965 => ?_, fun c1965 => ?_⟩
    · have h := if_some_f c1965 h
      refine r_goto C 3082 dL_law_2541 rfl ?_
      refine r_lv [0, 1, 2, 3, 4, 5] rfl ?_
      refine r_wd (k1' := (k1 + 52)) (k2' := (k2 + 7248)) (by omega) (by omega) ?_
      exact w_L_law_3082 C hX ha1 ha2 ha3 ha4 hq (k1 := k1) (k2 := k2) (by omega) (by omega) (fun κ u5 h k1a k2a g1 g2 => hK28 κ u5 h k1a k2a (by omega) (by omega)) h
    · have h := if_some_t c1965 h
      refine r_aload C 4 2511 rfl dL_law_2509 rfl ?_
      refine r_iconst C 0 rfl 2512 rfl dL_law_2511 ?_
      refine r_dald C ha4 (by decide) 2513 rfl dL_law_2512 ?_
      refine r_dload C 7 2515 rfl dL_law_2513 rfl ?_
      refine r_dcmp C 2516 rfl dL_law_2515 ?_
      refine r_if_eq C 2541 2519 rfl dL_law_2516 rfl ⟨fun c1966 => ?_, fun c1966 => ?_⟩
      · have h := if_some_t c1966 h
        refine r_goto C 3082 dL_law_2541 rfl ?_
        refine r_lv [0, 1, 2, 3, 4, 5] rfl ?_
        refine r_wd (k1' := (k1 + 52)) (k2' := (k2 + 7248)) (by omega) (by omega) ?_
        exact w_L_law_3082 C hX ha1 ha2 ha3 ha4 hq (k1 := k1) (k2 := k2) (by omega) (by omega) (fun κ u5 h k1a k2a g1 g2 => hK28 κ u5 h k1a k2a (by omega) (by omega)) h
      · have h := if_some_f c1966 h
        refine r_aload C 4 2521 rfl dL_law_2519 rfl ?_
        refine r_iconst C 0 rfl 2522 rfl dL_law_2521 ?_
        refine r_dald C ha4 (by decide) 2523 rfl dL_law_2522 ?_
        refine r_aload C 4 2525 rfl dL_law_2523 rfl ?_
        refine r_iconst C 0 rfl 2526 rfl dL_law_2525 ?_
        refine r_dald C ha4 (by decide) 2527 rfl dL_law_2526 ?_
        refine r_dcmp C 2528 rfl dL_law_2527 ?_
        refine r_if_eq C 2539 2531 rfl dL_law_2528 rfl ⟨fun c1967 => ?_, fun c1967 => ?_⟩
        · have h := if_some_t c1967 h
          refine r_iconst C 0 rfl 2540 rfl dL_law_2539 ?_
          exact absurd (congrArg (fun z => z.1) (Option.some.inj h)) (show ¬ ((0 : Int32) = 1) by decide)
        · have h := if_some_f c1967 h
          refine r_dload C 7 2533 rfl dL_law_2531 rfl ?_
          refine r_dload C 7 2535 rfl dL_law_2533 rfl ?_
          refine r_dcmp C 2536 rfl dL_law_2535 ?_
          refine r_if_ne C 2541 2539 rfl dL_law_2536 rfl ⟨fun c1968 => ?_, fun c1968 => ?_⟩
          · have h := if_some_f c1968 h
            refine r_goto C 3082 dL_law_2541 rfl ?_
            refine r_lv [0, 1, 2, 3, 4, 5] rfl ?_
            refine r_wd (k1' := (k1 + 52)) (k2' := (k2 + 7248)) (by omega) (by omega) ?_
            exact w_L_law_3082 C hX ha1 ha2 ha3 ha4 hq (k1 := k1) (k2 := k2) (by omega) (by omega) (fun κ u5 h k1a k2a g1 g2 => hK28 κ u5 h k1a k2a (by omega) (by omega)) h
          · have h := if_some_t c1968 h
            refine r_iconst C 0 rfl 2540 rfl dL_law_2539 ?_
            exact absurd (congrArg (fun z => z.1) (Option.some.inj h)) (show ¬ ((0 : Int32) = 1) by decide)
  · have h := if_some_f c1964 h
    refine r_iconst C 0 rfl 2503 rfl dL_law_2502 ?_
    exact absurd (congrArg (fun z => z.1) (Option.some.inj h)) (show ¬ ((0 : Int32) = 1) by decide)
set_option maxRecDepth 20000 in
theorem w_L_law_2544 {F : jFm} (C : jA F RL cL_law 9 2048 603072 7182442 94400) {b L : Nat} {xs : Nat → Int32} (hX : jScr F b L xs) {κ : jKt} {a1 : Nat} (ha1 : jSof F a1 = (1, 10, 11)) {a2 : Nat} (ha2 : jSof F a2 = (1, 11, 22)) {a3 : Nat} (ha3 : jSof F a3 = (2, 3, 1)) {a4 : Nat} (ha4 : jSof F a4 = (2, 4, 1)) {v5 : Int32} {κr : jKt} (hq : ∀ κ k1 k2 lv, κ = κr → k1 ≤ 603072 → k2 ≤ 7182442 → jW F 9 k1 k2 κ 3089 lv [.int 1]) {k1 k2 : Nat} (hk1 : k1 + 52 ≤ 603072) (hk2 : k2 + 7248 ≤ 7182442) {K28 : jKt → Int32 → Option (Int32 × jKt)} (hK28 : ∀ (κ : jKt) (u5 : Int32), K28 κ u5 = some (1, κr) → ∀ k1a k2a, k1a ≤ k1 + 52 → k2a ≤ k2 + 7248 → jW F 9 k1a k2a κ 28 [(0, .ref b), (1, .ref a1), (2, .ref a2), (3, .ref a3), (4, .ref a4), (5, .int u5)] []) (h : P_L_law_2544 xs L κ a1 a2 a3 a4 v5 K28 = some (1, κr)) : jW F 9 k1 k2 κ 2544 [(0, .ref b), (1, .ref a1), (2, .ref a2), (3, .ref a3), (4, .ref a4), (5, .int v5)] [] := by
  unfold P_L_law_2544 at h
  refine r_aload_n C 1 2545 rfl dL_law_2544 rfl ?_
  refine r_aload C 4 2547 rfl dL_law_2545 rfl ?_
  obtain ⟨y1970, κ1971, e1969, h⟩ := bd2_some h
  refine r_cSh C (st := []) (c_L_wasteShare ha1 ha4 e1969) yv_L_wasteShare ml_L_308 rfl ⟨Nat.le_of_ble_eq_true rfl, Nat.le_of_ble_eq_true rfl⟩ ⟨by omega, by omega⟩ (Nat.le_of_ble_eq_true rfl) rfl (k1 + 1) (k2 + 6) rfl rfl 2550 rfl dL_law_2547 ?_
  refine r_istore C (lv' := [(0, .ref b), (1, .ref a1), (2, .ref a2), (3, .ref a3), (4, .ref a4), (5, .int v5), (6, .int y1970)]) [1, 2, 3, 4, 5, 6, 0] 2552 rfl dL_law_2550 (Nat.le_of_ble_eq_true rfl) rfl ?_
  refine r_aload_n C 2 2553 rfl dL_law_2552 rfl ?_
  obtain ⟨y1973, κ1974, e1972, h⟩ := bd2_some h
  refine r_cVf C (st := []) (c_X7_wasteShare ha2 e1972) yv_X7_wasteShare ml_L_311 rfl ha2 rfl ⟨Nat.le_of_ble_eq_true rfl, Nat.le_of_ble_eq_true rfl⟩ ⟨by omega, by omega⟩ (Nat.le_of_ble_eq_true rfl) rfl (k1 + 1) (k2 + 6) rfl rfl 2556 rfl dL_law_2553 ?_
  refine r_fstore C (lv' := [(0, .ref b), (1, .ref a1), (2, .ref a2), (3, .ref a3), (4, .ref a4), (5, .int v5), (6, .int y1970), (7, .float y1973)]) [1, 2, 3, 4, 5, 6, 7, 0] 2558 rfl dL_law_2556 (Nat.le_of_ble_eq_true rfl) rfl ?_
  refine r_aload_n C 2 2559 rfl dL_law_2558 rfl ?_
  obtain ⟨y1976, e1975, h⟩ := bd_some h
  refine r_cVi C (st := []) (c_X7_thrown ha2 e1975) yv_X7_thrown ml_L_175 rfl ha2 rfl ⟨Nat.le_of_ble_eq_true rfl, Nat.le_of_ble_eq_true rfl⟩ ⟨by omega, by omega⟩ (Nat.le_of_ble_eq_true rfl) rfl (k1 + 1) (k2 + 6) rfl rfl 2562 rfl dL_law_2559 ?_
  refine r_iload C 6 2564 rfl dL_law_2562 rfl ?_
  refine r_icmp_eq C 2569 2567 rfl dL_law_2564 rfl ⟨fun c1977 => ?_, fun c1977 => ?_⟩
  · have h := if_some_t c1977 h
    refine r_iload C 6 2571 rfl dL_law_2569 rfl ?_
    refine r_if_ne C 2607 2574 rfl dL_law_2571 rfl ⟨fun c1978 => ?_, fun c1978 => ?_⟩
    · have h := if_some_f c1978 h
      refine r_goto C 3082 dL_law_2607 rfl ?_
      refine r_lv [0, 1, 2, 3, 4, 5] rfl ?_
      refine r_wd (k1' := (k1 + 52)) (k2' := (k2 + 7248)) (by omega) (by omega) ?_
      exact w_L_law_3082 C hX ha1 ha2 ha3 ha4 hq (k1 := k1) (k2 := k2) (by omega) (by omega) (fun κ u5 h k1a k2a g1 g2 => hK28 κ u5 h k1a k2a (by omega) (by omega)) h
    · have h := if_some_t c1978 h
      refine r_aload C 4 2576 rfl dL_law_2574 rfl ?_
      refine r_iconst C 0 rfl 2577 rfl dL_law_2576 ?_
      refine r_dald C ha4 (by decide) 2578 rfl dL_law_2577 ?_
      refine r_fload C 7 2580 rfl dL_law_2578 rfl ?_
      obtain ⟨z1979, h⟩ := ck_some h
      refine r_f2d C 2581 rfl dL_law_2580 z1979 ?_
      refine r_dcmp C 2582 rfl dL_law_2581 ?_
      refine r_if_eq C 2607 2585 rfl dL_law_2582 rfl ⟨fun c1980 => ?_, fun c1980 => ?_⟩
      · have h := if_some_t c1980 h
        refine r_goto C 3082 dL_law_2607 rfl ?_
        refine r_lv [0, 1, 2, 3, 4, 5] rfl ?_
        refine r_wd (k1' := (k1 + 52)) (k2' := (k2 + 7248)) (by omega) (by omega) ?_
        exact w_L_law_3082 C hX ha1 ha2 ha3 ha4 hq (k1 := k1) (k2 := k2) (by omega) (by omega) (fun κ u5 h k1a k2a g1 g2 => hK28 κ u5 h k1a k2a (by omega) (by omega)) h
      · have h := if_some_f c1980 h
        refine r_aload C 4 2587 rfl dL_law_2585 rfl ?_
        refine r_iconst C 0 rfl 2588 rfl dL_law_2587 ?_
        refine r_dald C ha4 (by decide) 2589 rfl dL_law_2588 ?_
        refine r_aload C 4 2591 rfl dL_law_2589 rfl ?_
        refine r_iconst C 0 rfl 2592 rfl dL_law_2591 ?_
        refine r_dald C ha4 (by decide) 2593 rfl dL_law_2592 ?_
        refine r_dcmp C 2594 rfl dL_law_2593 ?_
        refine r_if_eq C 2605 2597 rfl dL_law_2594 rfl ⟨fun c1981 => ?_, fun c1981 => ?_⟩
        · have h := if_some_t c1981 h
          refine r_iconst C 0 rfl 2606 rfl dL_law_2605 ?_
          exact absurd (congrArg (fun z => z.1) (Option.some.inj h)) (show ¬ ((0 : Int32) = 1) by decide)
        · have h := if_some_f c1981 h
          refine r_fload C 7 2599 rfl dL_law_2597 rfl ?_
          refine r_fload C 7 2601 rfl dL_law_2599 rfl ?_
          refine r_fcmp C 2602 rfl dL_law_2601 ?_
          refine r_if_ne C 2607 2605 rfl dL_law_2602 rfl ⟨fun c1982 => ?_, fun c1982 => ?_⟩
          · have h := if_some_f c1982 h
            refine r_goto C 3082 dL_law_2607 rfl ?_
            refine r_lv [0, 1, 2, 3, 4, 5] rfl ?_
            refine r_wd (k1' := (k1 + 52)) (k2' := (k2 + 7248)) (by omega) (by omega) ?_
            exact w_L_law_3082 C hX ha1 ha2 ha3 ha4 hq (k1 := k1) (k2 := k2) (by omega) (by omega) (fun κ u5 h k1a k2a g1 g2 => hK28 κ u5 h k1a k2a (by omega) (by omega)) h
          · have h := if_some_t c1982 h
            refine r_iconst C 0 rfl 2606 rfl dL_law_2605 ?_
            exact absurd (congrArg (fun z => z.1) (Option.some.inj h)) (show ¬ ((0 : Int32) = 1) by decide)
  · have h := if_some_f c1977 h
    refine r_iconst C 0 rfl 2568 rfl dL_law_2567 ?_
    exact absurd (congrArg (fun z => z.1) (Option.some.inj h)) (show ¬ ((0 : Int32) = 1) by decide)
set_option maxRecDepth 20000 in
theorem w_L_law_2610 {F : jFm} (C : jA F RL cL_law 9 2048 603072 7182442 94400) {b L : Nat} {xs : Nat → Int32} (hX : jScr F b L xs) {κ : jKt} {a1 : Nat} (ha1 : jSof F a1 = (1, 10, 11)) {a2 : Nat} (ha2 : jSof F a2 = (1, 11, 22)) {a3 : Nat} (ha3 : jSof F a3 = (2, 3, 1)) {a4 : Nat} (ha4 : jSof F a4 = (2, 4, 1)) {v5 : Int32} {κr : jKt} (hq : ∀ κ k1 k2 lv, κ = κr → k1 ≤ 603072 → k2 ≤ 7182442 → jW F 9 k1 k2 κ 3089 lv [.int 1]) {k1 k2 : Nat} (hk1 : k1 + 52 ≤ 603072) (hk2 : k2 + 7248 ≤ 7182442) {K28 : jKt → Int32 → Option (Int32 × jKt)} (hK28 : ∀ (κ : jKt) (u5 : Int32), K28 κ u5 = some (1, κr) → ∀ k1a k2a, k1a ≤ k1 + 52 → k2a ≤ k2 + 7248 → jW F 9 k1a k2a κ 28 [(0, .ref b), (1, .ref a1), (2, .ref a2), (3, .ref a3), (4, .ref a4), (5, .int u5)] []) (h : P_L_law_2610 xs L κ a1 a2 a3 a4 v5 K28 = some (1, κr)) : jW F 9 k1 k2 κ 2610 [(0, .ref b), (1, .ref a1), (2, .ref a2), (3, .ref a3), (4, .ref a4), (5, .int v5)] [] := by
  unfold P_L_law_2610 at h
  refine r_aload_n C 1 2611 rfl dL_law_2610 rfl ?_
  obtain ⟨y1984, κ1985, e1983, h⟩ := bd2_some h
  refine r_cVi C (st := []) (c_X6_isConsistent ha1 e1983) yv_X6_isConsistent ml_L_312 rfl ha1 rfl ⟨Nat.le_of_ble_eq_true rfl, Nat.le_of_ble_eq_true rfl⟩ ⟨by omega, by omega⟩ (Nat.le_of_ble_eq_true rfl) rfl k1 k2 rfl rfl 2614 rfl dL_law_2611 ?_
  refine r_aload_n C 2 2615 rfl dL_law_2614 rfl ?_
  obtain ⟨y1987, κ1988, e1986, h⟩ := bd2_some h
  refine r_cVi C (st := [.int y1984]) (c_X7_isConsistent ha2 e1986) yv_X7_isConsistent ml_L_316 rfl ha2 rfl ⟨Nat.le_of_ble_eq_true rfl, Nat.le_of_ble_eq_true rfl⟩ ⟨by omega, by omega⟩ (Nat.le_of_ble_eq_true rfl) rfl k1 k2 rfl rfl 2618 rfl dL_law_2615 ?_
  refine r_icmp_eq C 3082 2621 rfl dL_law_2618 rfl ⟨fun c1989 => ?_, fun c1989 => ?_⟩
  · have h := if_some_t c1989 h
    refine r_wd (k1' := (k1 + 52)) (k2' := (k2 + 7248)) (by omega) (by omega) ?_
    exact w_L_law_3082 C hX ha1 ha2 ha3 ha4 hq (k1 := k1) (k2 := k2) (by omega) (by omega) (fun κ u5 h k1a k2a g1 g2 => hK28 κ u5 h k1a k2a (by omega) (by omega)) h
  · have h := if_some_f c1989 h
    refine r_iconst C 0 rfl 2622 rfl dL_law_2621 ?_
    exact absurd (congrArg (fun z => z.1) (Option.some.inj h)) (show ¬ ((0 : Int32) = 1) by decide)
set_option maxRecDepth 20000 in
theorem w_L_law_2623 {F : jFm} (C : jA F RL cL_law 9 2048 603072 7182442 94400) {b L : Nat} {xs : Nat → Int32} (hX : jScr F b L xs) {κ : jKt} {a1 : Nat} (ha1 : jSof F a1 = (1, 10, 11)) {a2 : Nat} (ha2 : jSof F a2 = (1, 11, 22)) {a3 : Nat} (ha3 : jSof F a3 = (2, 3, 1)) {a4 : Nat} (ha4 : jSof F a4 = (2, 4, 1)) {v5 : Int32} {κr : jKt} (hq : ∀ κ k1 k2 lv, κ = κr → k1 ≤ 603072 → k2 ≤ 7182442 → jW F 9 k1 k2 κ 3089 lv [.int 1]) {k1 k2 : Nat} (hk1 : k1 + 52 ≤ 603072) (hk2 : k2 + 7248 ≤ 7182442) {K28 : jKt → Int32 → Option (Int32 × jKt)} (hK28 : ∀ (κ : jKt) (u5 : Int32), K28 κ u5 = some (1, κr) → ∀ k1a k2a, k1a ≤ k1 + 52 → k2a ≤ k2 + 7248 → jW F 9 k1a k2a κ 28 [(0, .ref b), (1, .ref a1), (2, .ref a2), (3, .ref a3), (4, .ref a4), (5, .int u5)] []) (h : P_L_law_2623 xs L κ a1 a2 a3 a4 v5 K28 = some (1, κr)) : jW F 9 k1 k2 κ 2623 [(0, .ref b), (1, .ref a1), (2, .ref a2), (3, .ref a3), (4, .ref a4), (5, .int v5)] [] := by
  unfold P_L_law_2623 at h
  refine r_aload_n C 1 2624 rfl dL_law_2623 rfl ?_
  refine r_aload_n C 0 2625 rfl dL_law_2624 rfl ?_
  refine r_iload C 5 2627 rfl dL_law_2625 rfl ?_
  refine r_iconst C 1 rfl 2628 rfl dL_law_2627 ?_
  refine r_iadd C 2629 rfl dL_law_2628 ?_
  obtain ⟨i1990, h⟩ := ck_some h
  refine r_sld C hX i1990 2630 rfl dL_law_2629 ?_
  refine r_aload_n C 3 2631 rfl dL_law_2630 rfl ?_
  obtain ⟨y1992, κ1993, e1991, h⟩ := bd2_some h
  refine r_cSh C (st := []) (c_L_renderSuit ha1 ha3 e1991) yv_L_renderSuit ml_L_317 rfl ⟨Nat.le_of_ble_eq_true rfl, Nat.le_of_ble_eq_true rfl⟩ ⟨by omega, by omega⟩ (Nat.le_of_ble_eq_true rfl) rfl (k1 + 52) (k2 + 7248) rfl rfl 2634 rfl dL_law_2631 ?_
  refine r_istore C (lv' := [(0, .ref b), (1, .ref a1), (2, .ref a2), (3, .ref a3), (4, .ref a4), (5, .int v5), (6, .int y1992)]) [1, 2, 3, 4, 5, 6, 0] 2636 rfl dL_law_2634 (Nat.le_of_ble_eq_true rfl) rfl ?_
  refine r_aload_n C 2 2637 rfl dL_law_2636 rfl ?_
  refine r_aload_n C 0 2638 rfl dL_law_2637 rfl ?_
  refine r_iload C 5 2640 rfl dL_law_2638 rfl ?_
  refine r_iconst C 1 rfl 2641 rfl dL_law_2640 ?_
  refine r_iadd C 2642 rfl dL_law_2641 ?_
  obtain ⟨i1994, h⟩ := ck_some h
  refine r_sld C hX i1994 2643 rfl dL_law_2642 ?_
  obtain ⟨y1996, κ1997, e1995, h⟩ := bd2_some h
  refine r_cVi C (st := []) (c_X7_renderSuit ha2 e1995) yv_X7_renderSuit ml_L_319 rfl ha2 rfl ⟨Nat.le_of_ble_eq_true rfl, Nat.le_of_ble_eq_true rfl⟩ ⟨by omega, by omega⟩ (Nat.le_of_ble_eq_true rfl) rfl (k1 + 52) (k2 + 7248) rfl rfl 2646 rfl dL_law_2643 ?_
  refine r_istore C (lv' := [(0, .ref b), (1, .ref a1), (2, .ref a2), (3, .ref a3), (4, .ref a4), (5, .int v5), (6, .int y1992), (7, .int y1996)]) [1, 2, 3, 4, 5, 6, 7, 0] 2648 rfl dL_law_2646 (Nat.le_of_ble_eq_true rfl) rfl ?_
  refine r_aload_n C 2 2649 rfl dL_law_2648 rfl ?_
  obtain ⟨y1999, e1998, h⟩ := bd_some h
  refine r_cVi C (st := []) (c_X7_thrown ha2 e1998) yv_X7_thrown ml_L_175 rfl ha2 rfl ⟨Nat.le_of_ble_eq_true rfl, Nat.le_of_ble_eq_true rfl⟩ ⟨by omega, by omega⟩ (Nat.le_of_ble_eq_true rfl) rfl (k1 + 52) (k2 + 7248) rfl rfl 2652 rfl dL_law_2649 ?_
  refine r_iload C 6 2654 rfl dL_law_2652 rfl ?_
  refine r_icmp_eq C 2659 2657 rfl dL_law_2654 rfl ⟨fun c2000 => ?_, fun c2000 => ?_⟩
  · have h := if_some_t c2000 h
    refine r_iload C 6 2661 rfl dL_law_2659 rfl ?_
    refine r_if_ne C 2676 2664 rfl dL_law_2661 rfl ⟨fun c2001 => ?_, fun c2001 => ?_⟩
    · have h := if_some_f c2001 h
      refine r_goto C 3082 dL_law_2676 rfl ?_
      refine r_lv [0, 1, 2, 3, 4, 5] rfl ?_
      exact w_L_law_3082 C hX ha1 ha2 ha3 ha4 hq (k1 := k1) (k2 := k2) (by omega) (by omega) (fun κ u5 h k1a k2a g1 g2 => hK28 κ u5 h k1a k2a (by omega) (by omega)) h
    · have h := if_some_t c2001 h
      refine r_aload_n C 3 2665 rfl dL_law_2664 rfl ?_
      refine r_iconst C 0 rfl 2666 rfl dL_law_2665 ?_
      refine r_lald C ha3 (by decide) 2667 rfl dL_law_2666 ?_
      refine r_iload C 7 2669 rfl dL_law_2667 rfl ?_
      refine r_i2l C 2670 rfl dL_law_2669 ?_
      refine r_lcmp C 2671 rfl dL_law_2670 ?_
      refine r_if_eq C 2676 2674 rfl dL_law_2671 rfl ⟨fun c2002 => ?_, fun c2002 => ?_⟩
      · have h := if_some_t c2002 h
        refine r_goto C 3082 dL_law_2676 rfl ?_
        refine r_lv [0, 1, 2, 3, 4, 5] rfl ?_
        exact w_L_law_3082 C hX ha1 ha2 ha3 ha4 hq (k1 := k1) (k2 := k2) (by omega) (by omega) (fun κ u5 h k1a k2a g1 g2 => hK28 κ u5 h k1a k2a (by omega) (by omega)) h
      · have h := if_some_f c2002 h
        refine r_iconst C 0 rfl 2675 rfl dL_law_2674 ?_
        exact absurd (congrArg (fun z => z.1) (Option.some.inj h)) (show ¬ ((0 : Int32) = 1) by decide)
  · have h := if_some_f c2000 h
    refine r_iconst C 0 rfl 2658 rfl dL_law_2657 ?_
    exact absurd (congrArg (fun z => z.1) (Option.some.inj h)) (show ¬ ((0 : Int32) = 1) by decide)
set_option maxRecDepth 20000 in
theorem w_L_law_2679 {F : jFm} (C : jA F RL cL_law 9 2048 603072 7182442 94400) {b L : Nat} {xs : Nat → Int32} (hX : jScr F b L xs) {κ : jKt} {a1 : Nat} (ha1 : jSof F a1 = (1, 10, 11)) {a2 : Nat} (ha2 : jSof F a2 = (1, 11, 22)) {a3 : Nat} (ha3 : jSof F a3 = (2, 3, 1)) {a4 : Nat} (ha4 : jSof F a4 = (2, 4, 1)) {v5 : Int32} {κr : jKt} (hq : ∀ κ k1 k2 lv, κ = κr → k1 ≤ 603072 → k2 ≤ 7182442 → jW F 9 k1 k2 κ 3089 lv [.int 1]) {k1 k2 : Nat} (hk1 : k1 + 52 ≤ 603072) (hk2 : k2 + 7248 ≤ 7182442) {K28 : jKt → Int32 → Option (Int32 × jKt)} (hK28 : ∀ (κ : jKt) (u5 : Int32), K28 κ u5 = some (1, κr) → ∀ k1a k2a, k1a ≤ k1 + 52 → k2a ≤ k2 + 7248 → jW F 9 k1a k2a κ 28 [(0, .ref b), (1, .ref a1), (2, .ref a2), (3, .ref a3), (4, .ref a4), (5, .int u5)] []) (h : P_L_law_2679 xs L κ a1 a2 a3 a4 v5 K28 = some (1, κr)) : jW F 9 k1 k2 κ 2679 [(0, .ref b), (1, .ref a1), (2, .ref a2), (3, .ref a3), (4, .ref a4), (5, .int v5)] [] := by
  unfold P_L_law_2679 at h
  refine r_aload_n C 1 2680 rfl dL_law_2679 rfl ?_
  refine r_aload_n C 0 2681 rfl dL_law_2680 rfl ?_
  refine r_iload C 5 2683 rfl dL_law_2681 rfl ?_
  refine r_iconst C 1 rfl 2684 rfl dL_law_2683 ?_
  refine r_iadd C 2685 rfl dL_law_2684 ?_
  obtain ⟨i2003, h⟩ := ck_some h
  refine r_sld C hX i2003 2686 rfl dL_law_2685 ?_
  refine r_aload_n C 3 2687 rfl dL_law_2686 rfl ?_
  obtain ⟨y2005, κ2006, e2004, h⟩ := bd2_some h
  refine r_cSh C (st := []) (c_L_renderOrder ha1 ha3 e2004) yv_L_renderOrder ml_L_320 rfl ⟨Nat.le_of_ble_eq_true rfl, Nat.le_of_ble_eq_true rfl⟩ ⟨by omega, by omega⟩ (Nat.le_of_ble_eq_true rfl) rfl (k1 + 35) (k2 + 4834) rfl rfl 2690 rfl dL_law_2687 ?_
  refine r_istore C (lv' := [(0, .ref b), (1, .ref a1), (2, .ref a2), (3, .ref a3), (4, .ref a4), (5, .int v5), (6, .int y2005)]) [1, 2, 3, 4, 5, 6, 0] 2692 rfl dL_law_2690 (Nat.le_of_ble_eq_true rfl) rfl ?_
  refine r_aload_n C 2 2693 rfl dL_law_2692 rfl ?_
  refine r_aload_n C 0 2694 rfl dL_law_2693 rfl ?_
  refine r_iload C 5 2696 rfl dL_law_2694 rfl ?_
  refine r_iconst C 1 rfl 2697 rfl dL_law_2696 ?_
  refine r_iadd C 2698 rfl dL_law_2697 ?_
  obtain ⟨i2007, h⟩ := ck_some h
  refine r_sld C hX i2007 2699 rfl dL_law_2698 ?_
  obtain ⟨y2009, κ2010, e2008, h⟩ := bd2_some h
  refine r_cVi C (st := []) (c_X7_renderOrder ha2 e2008) yv_X7_renderOrder ml_L_322 rfl ha2 rfl ⟨Nat.le_of_ble_eq_true rfl, Nat.le_of_ble_eq_true rfl⟩ ⟨by omega, by omega⟩ (Nat.le_of_ble_eq_true rfl) rfl (k1 + 35) (k2 + 4834) rfl rfl 2702 rfl dL_law_2699 ?_
  refine r_istore C (lv' := [(0, .ref b), (1, .ref a1), (2, .ref a2), (3, .ref a3), (4, .ref a4), (5, .int v5), (6, .int y2005), (7, .int y2009)]) [1, 2, 3, 4, 5, 6, 7, 0] 2704 rfl dL_law_2702 (Nat.le_of_ble_eq_true rfl) rfl ?_
  refine r_aload_n C 2 2705 rfl dL_law_2704 rfl ?_
  obtain ⟨y2012, e2011, h⟩ := bd_some h
  refine r_cVi C (st := []) (c_X7_thrown ha2 e2011) yv_X7_thrown ml_L_175 rfl ha2 rfl ⟨Nat.le_of_ble_eq_true rfl, Nat.le_of_ble_eq_true rfl⟩ ⟨by omega, by omega⟩ (Nat.le_of_ble_eq_true rfl) rfl (k1 + 35) (k2 + 4834) rfl rfl 2708 rfl dL_law_2705 ?_
  refine r_iload C 6 2710 rfl dL_law_2708 rfl ?_
  refine r_icmp_eq C 2715 2713 rfl dL_law_2710 rfl ⟨fun c2013 => ?_, fun c2013 => ?_⟩
  · have h := if_some_t c2013 h
    refine r_iload C 6 2717 rfl dL_law_2715 rfl ?_
    refine r_if_ne C 2732 2720 rfl dL_law_2717 rfl ⟨fun c2014 => ?_, fun c2014 => ?_⟩
    · have h := if_some_f c2014 h
      refine r_goto C 3082 dL_law_2732 rfl ?_
      refine r_lv [0, 1, 2, 3, 4, 5] rfl ?_
      refine r_wd (k1' := (k1 + 52)) (k2' := (k2 + 7248)) (by omega) (by omega) ?_
      exact w_L_law_3082 C hX ha1 ha2 ha3 ha4 hq (k1 := k1) (k2 := k2) (by omega) (by omega) (fun κ u5 h k1a k2a g1 g2 => hK28 κ u5 h k1a k2a (by omega) (by omega)) h
    · have h := if_some_t c2014 h
      refine r_aload_n C 3 2721 rfl dL_law_2720 rfl ?_
      refine r_iconst C 0 rfl 2722 rfl dL_law_2721 ?_
      refine r_lald C ha3 (by decide) 2723 rfl dL_law_2722 ?_
      refine r_iload C 7 2725 rfl dL_law_2723 rfl ?_
      refine r_i2l C 2726 rfl dL_law_2725 ?_
      refine r_lcmp C 2727 rfl dL_law_2726 ?_
      refine r_if_eq C 2732 2730 rfl dL_law_2727 rfl ⟨fun c2015 => ?_, fun c2015 => ?_⟩
      · have h := if_some_t c2015 h
        refine r_goto C 3082 dL_law_2732 rfl ?_
        refine r_lv [0, 1, 2, 3, 4, 5] rfl ?_
        refine r_wd (k1' := (k1 + 52)) (k2' := (k2 + 7248)) (by omega) (by omega) ?_
        exact w_L_law_3082 C hX ha1 ha2 ha3 ha4 hq (k1 := k1) (k2 := k2) (by omega) (by omega) (fun κ u5 h k1a k2a g1 g2 => hK28 κ u5 h k1a k2a (by omega) (by omega)) h
      · have h := if_some_f c2015 h
        refine r_iconst C 0 rfl 2731 rfl dL_law_2730 ?_
        exact absurd (congrArg (fun z => z.1) (Option.some.inj h)) (show ¬ ((0 : Int32) = 1) by decide)
  · have h := if_some_f c2013 h
    refine r_iconst C 0 rfl 2714 rfl dL_law_2713 ?_
    exact absurd (congrArg (fun z => z.1) (Option.some.inj h)) (show ¬ ((0 : Int32) = 1) by decide)
set_option maxRecDepth 20000 in
theorem w_L_law_2735 {F : jFm} (C : jA F RL cL_law 9 2048 603072 7182442 94400) {b L : Nat} {xs : Nat → Int32} (hX : jScr F b L xs) {κ : jKt} {a1 : Nat} (ha1 : jSof F a1 = (1, 10, 11)) {a2 : Nat} (ha2 : jSof F a2 = (1, 11, 22)) {a3 : Nat} (ha3 : jSof F a3 = (2, 3, 1)) {a4 : Nat} (ha4 : jSof F a4 = (2, 4, 1)) {v5 : Int32} {κr : jKt} (hq : ∀ κ k1 k2 lv, κ = κr → k1 ≤ 603072 → k2 ≤ 7182442 → jW F 9 k1 k2 κ 3089 lv [.int 1]) {k1 k2 : Nat} (hk1 : k1 + 52 ≤ 603072) (hk2 : k2 + 7248 ≤ 7182442) {K28 : jKt → Int32 → Option (Int32 × jKt)} (hK28 : ∀ (κ : jKt) (u5 : Int32), K28 κ u5 = some (1, κr) → ∀ k1a k2a, k1a ≤ k1 + 52 → k2a ≤ k2 + 7248 → jW F 9 k1a k2a κ 28 [(0, .ref b), (1, .ref a1), (2, .ref a2), (3, .ref a3), (4, .ref a4), (5, .int u5)] []) (h : P_L_law_2735 xs L κ a1 a2 a3 a4 v5 K28 = some (1, κr)) : jW F 9 k1 k2 κ 2735 [(0, .ref b), (1, .ref a1), (2, .ref a2), (3, .ref a3), (4, .ref a4), (5, .int v5)] [] := by
  unfold P_L_law_2735 at h
  refine r_aload_n C 1 2736 rfl dL_law_2735 rfl ?_
  refine r_aload_n C 0 2737 rfl dL_law_2736 rfl ?_
  refine r_iload C 5 2739 rfl dL_law_2737 rfl ?_
  refine r_iconst C 1 rfl 2740 rfl dL_law_2739 ?_
  refine r_iadd C 2741 rfl dL_law_2740 ?_
  obtain ⟨i2016, h⟩ := ck_some h
  refine r_sld C hX i2016 2742 rfl dL_law_2741 ?_
  refine r_aload_n C 3 2743 rfl dL_law_2742 rfl ?_
  obtain ⟨y2018, κ2019, e2017, h⟩ := bd2_some h
  refine r_cSh C (st := []) (c_L_outputAt ha1 ha3 e2017) yv_L_outputAt ml_L_323 rfl ⟨Nat.le_of_ble_eq_true rfl, Nat.le_of_ble_eq_true rfl⟩ ⟨by omega, by omega⟩ (Nat.le_of_ble_eq_true rfl) rfl (k1 + 1) (k2 + 6) rfl rfl 2746 rfl dL_law_2743 ?_
  refine r_istore C (lv' := [(0, .ref b), (1, .ref a1), (2, .ref a2), (3, .ref a3), (4, .ref a4), (5, .int v5), (6, .int y2018)]) [1, 2, 3, 4, 5, 6, 0] 2748 rfl dL_law_2746 (Nat.le_of_ble_eq_true rfl) rfl ?_
  refine r_aload_n C 2 2749 rfl dL_law_2748 rfl ?_
  refine r_aload_n C 0 2750 rfl dL_law_2749 rfl ?_
  refine r_iload C 5 2752 rfl dL_law_2750 rfl ?_
  refine r_iconst C 1 rfl 2753 rfl dL_law_2752 ?_
  refine r_iadd C 2754 rfl dL_law_2753 ?_
  obtain ⟨i2020, h⟩ := ck_some h
  refine r_sld C hX i2020 2755 rfl dL_law_2754 ?_
  obtain ⟨y2022, κ2023, e2021, h⟩ := bd2_some h
  refine r_cVi C (st := []) (c_X7_outputAt ha2 e2021) yv_X7_outputAt ml_L_325 rfl ha2 rfl ⟨Nat.le_of_ble_eq_true rfl, Nat.le_of_ble_eq_true rfl⟩ ⟨by omega, by omega⟩ (Nat.le_of_ble_eq_true rfl) rfl (k1 + 1) (k2 + 6) rfl rfl 2758 rfl dL_law_2755 ?_
  refine r_istore C (lv' := [(0, .ref b), (1, .ref a1), (2, .ref a2), (3, .ref a3), (4, .ref a4), (5, .int v5), (6, .int y2018), (7, .int y2022)]) [1, 2, 3, 4, 5, 6, 7, 0] 2760 rfl dL_law_2758 (Nat.le_of_ble_eq_true rfl) rfl ?_
  refine r_aload_n C 2 2761 rfl dL_law_2760 rfl ?_
  obtain ⟨y2025, e2024, h⟩ := bd_some h
  refine r_cVi C (st := []) (c_X7_thrown ha2 e2024) yv_X7_thrown ml_L_175 rfl ha2 rfl ⟨Nat.le_of_ble_eq_true rfl, Nat.le_of_ble_eq_true rfl⟩ ⟨by omega, by omega⟩ (Nat.le_of_ble_eq_true rfl) rfl (k1 + 1) (k2 + 6) rfl rfl 2764 rfl dL_law_2761 ?_
  refine r_iload C 6 2766 rfl dL_law_2764 rfl ?_
  refine r_icmp_eq C 2771 2769 rfl dL_law_2766 rfl ⟨fun c2026 => ?_, fun c2026 => ?_⟩
  · have h := if_some_t c2026 h
    refine r_iload C 6 2773 rfl dL_law_2771 rfl ?_
    refine r_if_ne C 2788 2776 rfl dL_law_2773 rfl ⟨fun c2027 => ?_, fun c2027 => ?_⟩
    · have h := if_some_f c2027 h
      refine r_goto C 3082 dL_law_2788 rfl ?_
      refine r_lv [0, 1, 2, 3, 4, 5] rfl ?_
      refine r_wd (k1' := (k1 + 52)) (k2' := (k2 + 7248)) (by omega) (by omega) ?_
      exact w_L_law_3082 C hX ha1 ha2 ha3 ha4 hq (k1 := k1) (k2 := k2) (by omega) (by omega) (fun κ u5 h k1a k2a g1 g2 => hK28 κ u5 h k1a k2a (by omega) (by omega)) h
    · have h := if_some_t c2027 h
      refine r_aload_n C 3 2777 rfl dL_law_2776 rfl ?_
      refine r_iconst C 0 rfl 2778 rfl dL_law_2777 ?_
      refine r_lald C ha3 (by decide) 2779 rfl dL_law_2778 ?_
      refine r_iload C 7 2781 rfl dL_law_2779 rfl ?_
      refine r_i2l C 2782 rfl dL_law_2781 ?_
      refine r_lcmp C 2783 rfl dL_law_2782 ?_
      refine r_if_eq C 2788 2786 rfl dL_law_2783 rfl ⟨fun c2028 => ?_, fun c2028 => ?_⟩
      · have h := if_some_t c2028 h
        refine r_goto C 3082 dL_law_2788 rfl ?_
        refine r_lv [0, 1, 2, 3, 4, 5] rfl ?_
        refine r_wd (k1' := (k1 + 52)) (k2' := (k2 + 7248)) (by omega) (by omega) ?_
        exact w_L_law_3082 C hX ha1 ha2 ha3 ha4 hq (k1 := k1) (k2 := k2) (by omega) (by omega) (fun κ u5 h k1a k2a g1 g2 => hK28 κ u5 h k1a k2a (by omega) (by omega)) h
      · have h := if_some_f c2028 h
        refine r_iconst C 0 rfl 2787 rfl dL_law_2786 ?_
        exact absurd (congrArg (fun z => z.1) (Option.some.inj h)) (show ¬ ((0 : Int32) = 1) by decide)
  · have h := if_some_f c2026 h
    refine r_iconst C 0 rfl 2770 rfl dL_law_2769 ?_
    exact absurd (congrArg (fun z => z.1) (Option.some.inj h)) (show ¬ ((0 : Int32) = 1) by decide)
set_option maxRecDepth 20000 in
theorem w_L_law_2791 {F : jFm} (C : jA F RL cL_law 9 2048 603072 7182442 94400) {b L : Nat} {xs : Nat → Int32} (hX : jScr F b L xs) {κ : jKt} {a1 : Nat} (ha1 : jSof F a1 = (1, 10, 11)) {a2 : Nat} (ha2 : jSof F a2 = (1, 11, 22)) {a3 : Nat} (ha3 : jSof F a3 = (2, 3, 1)) {a4 : Nat} (ha4 : jSof F a4 = (2, 4, 1)) {v5 : Int32} {κr : jKt} (hq : ∀ κ k1 k2 lv, κ = κr → k1 ≤ 603072 → k2 ≤ 7182442 → jW F 9 k1 k2 κ 3089 lv [.int 1]) {k1 k2 : Nat} (hk1 : k1 + 52 ≤ 603072) (hk2 : k2 + 7248 ≤ 7182442) {K28 : jKt → Int32 → Option (Int32 × jKt)} (hK28 : ∀ (κ : jKt) (u5 : Int32), K28 κ u5 = some (1, κr) → ∀ k1a k2a, k1a ≤ k1 + 52 → k2a ≤ k2 + 7248 → jW F 9 k1a k2a κ 28 [(0, .ref b), (1, .ref a1), (2, .ref a2), (3, .ref a3), (4, .ref a4), (5, .int u5)] []) (h : P_L_law_2791 xs L κ a1 a2 a3 a4 v5 K28 = some (1, κr)) : jW F 9 k1 k2 κ 2791 [(0, .ref b), (1, .ref a1), (2, .ref a2), (3, .ref a3), (4, .ref a4), (5, .int v5)] [] := by
  unfold P_L_law_2791 at h
  refine r_aload_n C 1 2792 rfl dL_law_2791 rfl ?_
  refine r_aload_n C 0 2793 rfl dL_law_2792 rfl ?_
  refine r_iload C 5 2795 rfl dL_law_2793 rfl ?_
  refine r_iconst C 1 rfl 2796 rfl dL_law_2795 ?_
  refine r_iadd C 2797 rfl dL_law_2796 ?_
  obtain ⟨i2029, h⟩ := ck_some h
  refine r_sld C hX i2029 2798 rfl dL_law_2797 ?_
  refine r_i2c C 2799 rfl dL_law_2798 ?_
  refine r_aload_n C 3 2800 rfl dL_law_2799 rfl ?_
  obtain ⟨y2031, κ2032, e2030, h⟩ := bd2_some h
  refine r_cSh C (st := []) (c_L_type ha1 ha3 e2030) yv_L_type ml_L_326 rfl ⟨Nat.le_of_ble_eq_true rfl, Nat.le_of_ble_eq_true rfl⟩ ⟨by omega, by omega⟩ (Nat.le_of_ble_eq_true rfl) rfl (k1 + 1) (k2 + 6) rfl rfl 2803 rfl dL_law_2800 ?_
  refine r_istore C (lv' := [(0, .ref b), (1, .ref a1), (2, .ref a2), (3, .ref a3), (4, .ref a4), (5, .int v5), (6, .int y2031)]) [1, 2, 3, 4, 5, 6, 0] 2805 rfl dL_law_2803 (Nat.le_of_ble_eq_true rfl) rfl ?_
  refine r_aload_n C 2 2806 rfl dL_law_2805 rfl ?_
  refine r_aload_n C 0 2807 rfl dL_law_2806 rfl ?_
  refine r_iload C 5 2809 rfl dL_law_2807 rfl ?_
  refine r_iconst C 1 rfl 2810 rfl dL_law_2809 ?_
  refine r_iadd C 2811 rfl dL_law_2810 ?_
  obtain ⟨i2033, h⟩ := ck_some h
  refine r_sld C hX i2033 2812 rfl dL_law_2811 ?_
  refine r_i2c C 2813 rfl dL_law_2812 ?_
  obtain ⟨y2035, κ2036, e2034, h⟩ := bd2_some h
  refine r_cVi C (st := []) (c_X7_type ha2 e2034) yv_X7_type ml_L_329 rfl ha2 rfl ⟨Nat.le_of_ble_eq_true rfl, Nat.le_of_ble_eq_true rfl⟩ ⟨by omega, by omega⟩ (Nat.le_of_ble_eq_true rfl) rfl (k1 + 1) (k2 + 6) rfl rfl 2816 rfl dL_law_2813 ?_
  refine r_istore C (lv' := [(0, .ref b), (1, .ref a1), (2, .ref a2), (3, .ref a3), (4, .ref a4), (5, .int v5), (6, .int y2031), (7, .int y2035)]) [1, 2, 3, 4, 5, 6, 7, 0] 2818 rfl dL_law_2816 (Nat.le_of_ble_eq_true rfl) rfl ?_
  refine r_aload_n C 2 2819 rfl dL_law_2818 rfl ?_
  obtain ⟨y2038, e2037, h⟩ := bd_some h
  refine r_cVi C (st := []) (c_X7_thrown ha2 e2037) yv_X7_thrown ml_L_175 rfl ha2 rfl ⟨Nat.le_of_ble_eq_true rfl, Nat.le_of_ble_eq_true rfl⟩ ⟨by omega, by omega⟩ (Nat.le_of_ble_eq_true rfl) rfl (k1 + 1) (k2 + 6) rfl rfl 2822 rfl dL_law_2819 ?_
  refine r_iload C 6 2824 rfl dL_law_2822 rfl ?_
  refine r_icmp_eq C 2829 2827 rfl dL_law_2824 rfl ⟨fun c2039 => ?_, fun c2039 => ?_⟩
  · have h := if_some_t c2039 h
    refine r_iload C 6 2831 rfl dL_law_2829 rfl ?_
    refine r_if_ne C 2846 2834 rfl dL_law_2831 rfl ⟨fun c2040 => ?_, fun c2040 => ?_⟩
    · have h := if_some_f c2040 h
      refine r_goto C 3082 dL_law_2846 rfl ?_
      refine r_lv [0, 1, 2, 3, 4, 5] rfl ?_
      refine r_wd (k1' := (k1 + 52)) (k2' := (k2 + 7248)) (by omega) (by omega) ?_
      exact w_L_law_3082 C hX ha1 ha2 ha3 ha4 hq (k1 := k1) (k2 := k2) (by omega) (by omega) (fun κ u5 h k1a k2a g1 g2 => hK28 κ u5 h k1a k2a (by omega) (by omega)) h
    · have h := if_some_t c2040 h
      refine r_aload_n C 3 2835 rfl dL_law_2834 rfl ?_
      refine r_iconst C 0 rfl 2836 rfl dL_law_2835 ?_
      refine r_lald C ha3 (by decide) 2837 rfl dL_law_2836 ?_
      refine r_iload C 7 2839 rfl dL_law_2837 rfl ?_
      refine r_i2l C 2840 rfl dL_law_2839 ?_
      refine r_lcmp C 2841 rfl dL_law_2840 ?_
      refine r_if_eq C 2846 2844 rfl dL_law_2841 rfl ⟨fun c2041 => ?_, fun c2041 => ?_⟩
      · have h := if_some_t c2041 h
        refine r_goto C 3082 dL_law_2846 rfl ?_
        refine r_lv [0, 1, 2, 3, 4, 5] rfl ?_
        refine r_wd (k1' := (k1 + 52)) (k2' := (k2 + 7248)) (by omega) (by omega) ?_
        exact w_L_law_3082 C hX ha1 ha2 ha3 ha4 hq (k1 := k1) (k2 := k2) (by omega) (by omega) (fun κ u5 h k1a k2a g1 g2 => hK28 κ u5 h k1a k2a (by omega) (by omega)) h
      · have h := if_some_f c2041 h
        refine r_iconst C 0 rfl 2845 rfl dL_law_2844 ?_
        exact absurd (congrArg (fun z => z.1) (Option.some.inj h)) (show ¬ ((0 : Int32) = 1) by decide)
  · have h := if_some_f c2039 h
    refine r_iconst C 0 rfl 2828 rfl dL_law_2827 ?_
    exact absurd (congrArg (fun z => z.1) (Option.some.inj h)) (show ¬ ((0 : Int32) = 1) by decide)
set_option maxRecDepth 20000 in
theorem w_L_law_2849 {F : jFm} (C : jA F RL cL_law 9 2048 603072 7182442 94400) {b L : Nat} {xs : Nat → Int32} (hX : jScr F b L xs) {κ : jKt} {a1 : Nat} (ha1 : jSof F a1 = (1, 10, 11)) {a2 : Nat} (ha2 : jSof F a2 = (1, 11, 22)) {a3 : Nat} (ha3 : jSof F a3 = (2, 3, 1)) {a4 : Nat} (ha4 : jSof F a4 = (2, 4, 1)) {v5 : Int32} {κr : jKt} (hq : ∀ κ k1 k2 lv, κ = κr → k1 ≤ 603072 → k2 ≤ 7182442 → jW F 9 k1 k2 κ 3089 lv [.int 1]) {k1 k2 : Nat} (hk1 : k1 + 52 ≤ 603072) (hk2 : k2 + 7248 ≤ 7182442) {K28 : jKt → Int32 → Option (Int32 × jKt)} (hK28 : ∀ (κ : jKt) (u5 : Int32), K28 κ u5 = some (1, κr) → ∀ k1a k2a, k1a ≤ k1 + 52 → k2a ≤ k2 + 7248 → jW F 9 k1a k2a κ 28 [(0, .ref b), (1, .ref a1), (2, .ref a2), (3, .ref a3), (4, .ref a4), (5, .int u5)] []) (h : P_L_law_2849 xs L κ a1 a2 a3 a4 v5 K28 = some (1, κr)) : jW F 9 k1 k2 κ 2849 [(0, .ref b), (1, .ref a1), (2, .ref a2), (3, .ref a3), (4, .ref a4), (5, .int v5)] [] := by
  unfold P_L_law_2849 at h
  refine r_aload_n C 1 2850 rfl dL_law_2849 rfl ?_
  refine r_aload_n C 3 2851 rfl dL_law_2850 rfl ?_
  obtain ⟨y2043, κ2044, e2042, h⟩ := bd2_some h
  refine r_cSh C (st := []) (c_L_runScript ha1 ha3 e2042) yv_L_runScript ml_L_330 rfl ⟨Nat.le_of_ble_eq_true rfl, Nat.le_of_ble_eq_true rfl⟩ ⟨by omega, by omega⟩ (Nat.le_of_ble_eq_true rfl) rfl (k1 + 1) (k2 + 6) rfl rfl 2854 rfl dL_law_2851 ?_
  refine r_istore C (lv' := [(0, .ref b), (1, .ref a1), (2, .ref a2), (3, .ref a3), (4, .ref a4), (5, .int v5), (6, .int y2043)]) [1, 2, 3, 4, 5, 6, 0] 2856 rfl dL_law_2854 (Nat.le_of_ble_eq_true rfl) rfl ?_
  refine r_aload_n C 2 2857 rfl dL_law_2856 rfl ?_
  obtain ⟨y2046, κ2047, e2045, h⟩ := bd2_some h
  refine r_cVi C (st := []) (c_X7_runScript ha2 e2045) yv_X7_runScript ml_L_333 rfl ha2 rfl ⟨Nat.le_of_ble_eq_true rfl, Nat.le_of_ble_eq_true rfl⟩ ⟨by omega, by omega⟩ (Nat.le_of_ble_eq_true rfl) rfl (k1 + 1) (k2 + 6) rfl rfl 2860 rfl dL_law_2857 ?_
  refine r_istore C (lv' := [(0, .ref b), (1, .ref a1), (2, .ref a2), (3, .ref a3), (4, .ref a4), (5, .int v5), (6, .int y2043), (7, .int y2046)]) [1, 2, 3, 4, 5, 6, 7, 0] 2862 rfl dL_law_2860 (Nat.le_of_ble_eq_true rfl) rfl ?_
  refine r_aload_n C 2 2863 rfl dL_law_2862 rfl ?_
  obtain ⟨y2049, e2048, h⟩ := bd_some h
  refine r_cVi C (st := []) (c_X7_thrown ha2 e2048) yv_X7_thrown ml_L_175 rfl ha2 rfl ⟨Nat.le_of_ble_eq_true rfl, Nat.le_of_ble_eq_true rfl⟩ ⟨by omega, by omega⟩ (Nat.le_of_ble_eq_true rfl) rfl (k1 + 1) (k2 + 6) rfl rfl 2866 rfl dL_law_2863 ?_
  refine r_iload C 6 2868 rfl dL_law_2866 rfl ?_
  refine r_icmp_eq C 2873 2871 rfl dL_law_2868 rfl ⟨fun c2050 => ?_, fun c2050 => ?_⟩
  · have h := if_some_t c2050 h
    refine r_iload C 6 2875 rfl dL_law_2873 rfl ?_
    refine r_if_ne C 2890 2878 rfl dL_law_2875 rfl ⟨fun c2051 => ?_, fun c2051 => ?_⟩
    · have h := if_some_f c2051 h
      refine r_goto C 3082 dL_law_2890 rfl ?_
      refine r_lv [0, 1, 2, 3, 4, 5] rfl ?_
      refine r_wd (k1' := (k1 + 52)) (k2' := (k2 + 7248)) (by omega) (by omega) ?_
      exact w_L_law_3082 C hX ha1 ha2 ha3 ha4 hq (k1 := k1) (k2 := k2) (by omega) (by omega) (fun κ u5 h k1a k2a g1 g2 => hK28 κ u5 h k1a k2a (by omega) (by omega)) h
    · have h := if_some_t c2051 h
      refine r_aload_n C 3 2879 rfl dL_law_2878 rfl ?_
      refine r_iconst C 0 rfl 2880 rfl dL_law_2879 ?_
      refine r_lald C ha3 (by decide) 2881 rfl dL_law_2880 ?_
      refine r_iload C 7 2883 rfl dL_law_2881 rfl ?_
      refine r_i2l C 2884 rfl dL_law_2883 ?_
      refine r_lcmp C 2885 rfl dL_law_2884 ?_
      refine r_if_eq C 2890 2888 rfl dL_law_2885 rfl ⟨fun c2052 => ?_, fun c2052 => ?_⟩
      · have h := if_some_t c2052 h
        refine r_goto C 3082 dL_law_2890 rfl ?_
        refine r_lv [0, 1, 2, 3, 4, 5] rfl ?_
        refine r_wd (k1' := (k1 + 52)) (k2' := (k2 + 7248)) (by omega) (by omega) ?_
        exact w_L_law_3082 C hX ha1 ha2 ha3 ha4 hq (k1 := k1) (k2 := k2) (by omega) (by omega) (fun κ u5 h k1a k2a g1 g2 => hK28 κ u5 h k1a k2a (by omega) (by omega)) h
      · have h := if_some_f c2052 h
        refine r_iconst C 0 rfl 2889 rfl dL_law_2888 ?_
        exact absurd (congrArg (fun z => z.1) (Option.some.inj h)) (show ¬ ((0 : Int32) = 1) by decide)
  · have h := if_some_f c2050 h
    refine r_iconst C 0 rfl 2872 rfl dL_law_2871 ?_
    exact absurd (congrArg (fun z => z.1) (Option.some.inj h)) (show ¬ ((0 : Int32) = 1) by decide)
set_option maxRecDepth 20000 in
theorem w_L_law_2893 {F : jFm} (C : jA F RL cL_law 9 2048 603072 7182442 94400) {b L : Nat} {xs : Nat → Int32} (hX : jScr F b L xs) {κ : jKt} {a1 : Nat} (ha1 : jSof F a1 = (1, 10, 11)) {a2 : Nat} (ha2 : jSof F a2 = (1, 11, 22)) {a3 : Nat} (ha3 : jSof F a3 = (2, 3, 1)) {a4 : Nat} (ha4 : jSof F a4 = (2, 4, 1)) {v5 : Int32} {κr : jKt} (hq : ∀ κ k1 k2 lv, κ = κr → k1 ≤ 603072 → k2 ≤ 7182442 → jW F 9 k1 k2 κ 3089 lv [.int 1]) {k1 k2 : Nat} (hk1 : k1 + 52 ≤ 603072) (hk2 : k2 + 7248 ≤ 7182442) {K28 : jKt → Int32 → Option (Int32 × jKt)} (hK28 : ∀ (κ : jKt) (u5 : Int32), K28 κ u5 = some (1, κr) → ∀ k1a k2a, k1a ≤ k1 + 52 → k2a ≤ k2 + 7248 → jW F 9 k1a k2a κ 28 [(0, .ref b), (1, .ref a1), (2, .ref a2), (3, .ref a3), (4, .ref a4), (5, .int u5)] []) (h : P_L_law_2893 xs L κ a1 a2 a3 a4 v5 K28 = some (1, κr)) : jW F 9 k1 k2 κ 2893 [(0, .ref b), (1, .ref a1), (2, .ref a2), (3, .ref a3), (4, .ref a4), (5, .int v5)] [] := by
  unfold P_L_law_2893 at h
  refine r_aload_n C 1 2894 rfl dL_law_2893 rfl ?_
  refine r_aload_n C 3 2895 rfl dL_law_2894 rfl ?_
  obtain ⟨y2054, κ2055, e2053, h⟩ := bd2_some h
  refine r_cSh C (st := []) (c_L_errorPosition ha1 ha3 e2053) yv_L_errorPosition ml_L_334 rfl ⟨Nat.le_of_ble_eq_true rfl, Nat.le_of_ble_eq_true rfl⟩ ⟨by omega, by omega⟩ (Nat.le_of_ble_eq_true rfl) rfl (k1 + 1) (k2 + 6) rfl rfl 2898 rfl dL_law_2895 ?_
  refine r_istore C (lv' := [(0, .ref b), (1, .ref a1), (2, .ref a2), (3, .ref a3), (4, .ref a4), (5, .int v5), (6, .int y2054)]) [1, 2, 3, 4, 5, 6, 0] 2900 rfl dL_law_2898 (Nat.le_of_ble_eq_true rfl) rfl ?_
  refine r_aload_n C 2 2901 rfl dL_law_2900 rfl ?_
  obtain ⟨y2057, κ2058, e2056, h⟩ := bd2_some h
  refine r_cVi C (st := []) (c_X7_errorPosition ha2 e2056) yv_X7_errorPosition ml_L_336 rfl ha2 rfl ⟨Nat.le_of_ble_eq_true rfl, Nat.le_of_ble_eq_true rfl⟩ ⟨by omega, by omega⟩ (Nat.le_of_ble_eq_true rfl) rfl (k1 + 1) (k2 + 6) rfl rfl 2904 rfl dL_law_2901 ?_
  refine r_istore C (lv' := [(0, .ref b), (1, .ref a1), (2, .ref a2), (3, .ref a3), (4, .ref a4), (5, .int v5), (6, .int y2054), (7, .int y2057)]) [1, 2, 3, 4, 5, 6, 7, 0] 2906 rfl dL_law_2904 (Nat.le_of_ble_eq_true rfl) rfl ?_
  refine r_aload_n C 2 2907 rfl dL_law_2906 rfl ?_
  obtain ⟨y2060, e2059, h⟩ := bd_some h
  refine r_cVi C (st := []) (c_X7_thrown ha2 e2059) yv_X7_thrown ml_L_175 rfl ha2 rfl ⟨Nat.le_of_ble_eq_true rfl, Nat.le_of_ble_eq_true rfl⟩ ⟨by omega, by omega⟩ (Nat.le_of_ble_eq_true rfl) rfl (k1 + 1) (k2 + 6) rfl rfl 2910 rfl dL_law_2907 ?_
  refine r_iload C 6 2912 rfl dL_law_2910 rfl ?_
  refine r_icmp_eq C 2917 2915 rfl dL_law_2912 rfl ⟨fun c2061 => ?_, fun c2061 => ?_⟩
  · have h := if_some_t c2061 h
    refine r_iload C 6 2919 rfl dL_law_2917 rfl ?_
    refine r_if_ne C 2934 2922 rfl dL_law_2919 rfl ⟨fun c2062 => ?_, fun c2062 => ?_⟩
    · have h := if_some_f c2062 h
      refine r_goto C 3082 dL_law_2934 rfl ?_
      refine r_lv [0, 1, 2, 3, 4, 5] rfl ?_
      refine r_wd (k1' := (k1 + 52)) (k2' := (k2 + 7248)) (by omega) (by omega) ?_
      exact w_L_law_3082 C hX ha1 ha2 ha3 ha4 hq (k1 := k1) (k2 := k2) (by omega) (by omega) (fun κ u5 h k1a k2a g1 g2 => hK28 κ u5 h k1a k2a (by omega) (by omega)) h
    · have h := if_some_t c2062 h
      refine r_aload_n C 3 2923 rfl dL_law_2922 rfl ?_
      refine r_iconst C 0 rfl 2924 rfl dL_law_2923 ?_
      refine r_lald C ha3 (by decide) 2925 rfl dL_law_2924 ?_
      refine r_iload C 7 2927 rfl dL_law_2925 rfl ?_
      refine r_i2l C 2928 rfl dL_law_2927 ?_
      refine r_lcmp C 2929 rfl dL_law_2928 ?_
      refine r_if_eq C 2934 2932 rfl dL_law_2929 rfl ⟨fun c2063 => ?_, fun c2063 => ?_⟩
      · have h := if_some_t c2063 h
        refine r_goto C 3082 dL_law_2934 rfl ?_
        refine r_lv [0, 1, 2, 3, 4, 5] rfl ?_
        refine r_wd (k1' := (k1 + 52)) (k2' := (k2 + 7248)) (by omega) (by omega) ?_
        exact w_L_law_3082 C hX ha1 ha2 ha3 ha4 hq (k1 := k1) (k2 := k2) (by omega) (by omega) (fun κ u5 h k1a k2a g1 g2 => hK28 κ u5 h k1a k2a (by omega) (by omega)) h
      · have h := if_some_f c2063 h
        refine r_iconst C 0 rfl 2933 rfl dL_law_2932 ?_
        exact absurd (congrArg (fun z => z.1) (Option.some.inj h)) (show ¬ ((0 : Int32) = 1) by decide)
  · have h := if_some_f c2061 h
    refine r_iconst C 0 rfl 2916 rfl dL_law_2915 ?_
    exact absurd (congrArg (fun z => z.1) (Option.some.inj h)) (show ¬ ((0 : Int32) = 1) by decide)
set_option maxRecDepth 20000 in
theorem w_L_law_2937 {F : jFm} (C : jA F RL cL_law 9 2048 603072 7182442 94400) {b L : Nat} {xs : Nat → Int32} (hX : jScr F b L xs) {κ : jKt} {a1 : Nat} (ha1 : jSof F a1 = (1, 10, 11)) {a2 : Nat} (ha2 : jSof F a2 = (1, 11, 22)) {a3 : Nat} (ha3 : jSof F a3 = (2, 3, 1)) {a4 : Nat} (ha4 : jSof F a4 = (2, 4, 1)) {v5 : Int32} {κr : jKt} (hq : ∀ κ k1 k2 lv, κ = κr → k1 ≤ 603072 → k2 ≤ 7182442 → jW F 9 k1 k2 κ 3089 lv [.int 1]) {k1 k2 : Nat} (hk1 : k1 + 52 ≤ 603072) (hk2 : k2 + 7248 ≤ 7182442) {K28 : jKt → Int32 → Option (Int32 × jKt)} (hK28 : ∀ (κ : jKt) (u5 : Int32), K28 κ u5 = some (1, κr) → ∀ k1a k2a, k1a ≤ k1 + 52 → k2a ≤ k2 + 7248 → jW F 9 k1a k2a κ 28 [(0, .ref b), (1, .ref a1), (2, .ref a2), (3, .ref a3), (4, .ref a4), (5, .int u5)] []) (h : P_L_law_2937 xs L κ a1 a2 a3 a4 v5 K28 = some (1, κr)) : jW F 9 k1 k2 κ 2937 [(0, .ref b), (1, .ref a1), (2, .ref a2), (3, .ref a3), (4, .ref a4), (5, .int v5)] [] := by
  unfold P_L_law_2937 at h
  refine r_aload_n C 1 2938 rfl dL_law_2937 rfl ?_
  refine r_aload_n C 3 2939 rfl dL_law_2938 rfl ?_
  obtain ⟨y2065, κ2066, e2064, h⟩ := bd2_some h
  refine r_cSh C (st := []) (c_L_failedCommand ha1 ha3 e2064) yv_L_failedCommand ml_L_337 rfl ⟨Nat.le_of_ble_eq_true rfl, Nat.le_of_ble_eq_true rfl⟩ ⟨by omega, by omega⟩ (Nat.le_of_ble_eq_true rfl) rfl (k1 + 1) (k2 + 6) rfl rfl 2942 rfl dL_law_2939 ?_
  refine r_istore C (lv' := [(0, .ref b), (1, .ref a1), (2, .ref a2), (3, .ref a3), (4, .ref a4), (5, .int v5), (6, .int y2065)]) [1, 2, 3, 4, 5, 6, 0] 2944 rfl dL_law_2942 (Nat.le_of_ble_eq_true rfl) rfl ?_
  refine r_aload_n C 2 2945 rfl dL_law_2944 rfl ?_
  obtain ⟨y2068, κ2069, e2067, h⟩ := bd2_some h
  refine r_cVi C (st := []) (c_X7_failedCommand ha2 e2067) yv_X7_failedCommand ml_L_339 rfl ha2 rfl ⟨Nat.le_of_ble_eq_true rfl, Nat.le_of_ble_eq_true rfl⟩ ⟨by omega, by omega⟩ (Nat.le_of_ble_eq_true rfl) rfl (k1 + 1) (k2 + 6) rfl rfl 2948 rfl dL_law_2945 ?_
  refine r_istore C (lv' := [(0, .ref b), (1, .ref a1), (2, .ref a2), (3, .ref a3), (4, .ref a4), (5, .int v5), (6, .int y2065), (7, .int y2068)]) [1, 2, 3, 4, 5, 6, 7, 0] 2950 rfl dL_law_2948 (Nat.le_of_ble_eq_true rfl) rfl ?_
  refine r_aload_n C 2 2951 rfl dL_law_2950 rfl ?_
  obtain ⟨y2071, e2070, h⟩ := bd_some h
  refine r_cVi C (st := []) (c_X7_thrown ha2 e2070) yv_X7_thrown ml_L_175 rfl ha2 rfl ⟨Nat.le_of_ble_eq_true rfl, Nat.le_of_ble_eq_true rfl⟩ ⟨by omega, by omega⟩ (Nat.le_of_ble_eq_true rfl) rfl (k1 + 1) (k2 + 6) rfl rfl 2954 rfl dL_law_2951 ?_
  refine r_iload C 6 2956 rfl dL_law_2954 rfl ?_
  refine r_icmp_eq C 2961 2959 rfl dL_law_2956 rfl ⟨fun c2072 => ?_, fun c2072 => ?_⟩
  · have h := if_some_t c2072 h
    refine r_iload C 6 2963 rfl dL_law_2961 rfl ?_
    refine r_if_ne C 2978 2966 rfl dL_law_2963 rfl ⟨fun c2073 => ?_, fun c2073 => ?_⟩
    · have h := if_some_f c2073 h
      refine r_goto C 3082 dL_law_2978 rfl ?_
      refine r_lv [0, 1, 2, 3, 4, 5] rfl ?_
      refine r_wd (k1' := (k1 + 52)) (k2' := (k2 + 7248)) (by omega) (by omega) ?_
      exact w_L_law_3082 C hX ha1 ha2 ha3 ha4 hq (k1 := k1) (k2 := k2) (by omega) (by omega) (fun κ u5 h k1a k2a g1 g2 => hK28 κ u5 h k1a k2a (by omega) (by omega)) h
    · have h := if_some_t c2073 h
      refine r_aload_n C 3 2967 rfl dL_law_2966 rfl ?_
      refine r_iconst C 0 rfl 2968 rfl dL_law_2967 ?_
      refine r_lald C ha3 (by decide) 2969 rfl dL_law_2968 ?_
      refine r_iload C 7 2971 rfl dL_law_2969 rfl ?_
      refine r_i2l C 2972 rfl dL_law_2971 ?_
      refine r_lcmp C 2973 rfl dL_law_2972 ?_
      refine r_if_eq C 2978 2976 rfl dL_law_2973 rfl ⟨fun c2074 => ?_, fun c2074 => ?_⟩
      · have h := if_some_t c2074 h
        refine r_goto C 3082 dL_law_2978 rfl ?_
        refine r_lv [0, 1, 2, 3, 4, 5] rfl ?_
        refine r_wd (k1' := (k1 + 52)) (k2' := (k2 + 7248)) (by omega) (by omega) ?_
        exact w_L_law_3082 C hX ha1 ha2 ha3 ha4 hq (k1 := k1) (k2 := k2) (by omega) (by omega) (fun κ u5 h k1a k2a g1 g2 => hK28 κ u5 h k1a k2a (by omega) (by omega)) h
      · have h := if_some_f c2074 h
        refine r_iconst C 0 rfl 2977 rfl dL_law_2976 ?_
        exact absurd (congrArg (fun z => z.1) (Option.some.inj h)) (show ¬ ((0 : Int32) = 1) by decide)
  · have h := if_some_f c2072 h
    refine r_iconst C 0 rfl 2960 rfl dL_law_2959 ?_
    exact absurd (congrArg (fun z => z.1) (Option.some.inj h)) (show ¬ ((0 : Int32) = 1) by decide)
set_option maxRecDepth 20000 in
theorem w_L_law_2981 {F : jFm} (C : jA F RL cL_law 9 2048 603072 7182442 94400) {b L : Nat} {xs : Nat → Int32} (hX : jScr F b L xs) {κ : jKt} {a1 : Nat} (ha1 : jSof F a1 = (1, 10, 11)) {a2 : Nat} (ha2 : jSof F a2 = (1, 11, 22)) {a3 : Nat} (ha3 : jSof F a3 = (2, 3, 1)) {a4 : Nat} (ha4 : jSof F a4 = (2, 4, 1)) {v5 : Int32} {κr : jKt} (hq : ∀ κ k1 k2 lv, κ = κr → k1 ≤ 603072 → k2 ≤ 7182442 → jW F 9 k1 k2 κ 3089 lv [.int 1]) {k1 k2 : Nat} (hk1 : k1 + 52 ≤ 603072) (hk2 : k2 + 7248 ≤ 7182442) {K28 : jKt → Int32 → Option (Int32 × jKt)} (hK28 : ∀ (κ : jKt) (u5 : Int32), K28 κ u5 = some (1, κr) → ∀ k1a k2a, k1a ≤ k1 + 52 → k2a ≤ k2 + 7248 → jW F 9 k1a k2a κ 28 [(0, .ref b), (1, .ref a1), (2, .ref a2), (3, .ref a3), (4, .ref a4), (5, .int u5)] []) (h : P_L_law_2981 xs L κ a1 a2 a3 a4 v5 K28 = some (1, κr)) : jW F 9 k1 k2 κ 2981 [(0, .ref b), (1, .ref a1), (2, .ref a2), (3, .ref a3), (4, .ref a4), (5, .int v5)] [] := by
  unfold P_L_law_2981 at h
  refine r_aload_n C 1 2982 rfl dL_law_2981 rfl ?_
  refine r_aload_n C 3 2983 rfl dL_law_2982 rfl ?_
  obtain ⟨y2076, κ2077, e2075, h⟩ := bd2_some h
  refine r_cSh C (st := []) (c_L_undo ha1 ha3 e2075) yv_L_undo ml_L_340 rfl ⟨Nat.le_of_ble_eq_true rfl, Nat.le_of_ble_eq_true rfl⟩ ⟨by omega, by omega⟩ (Nat.le_of_ble_eq_true rfl) rfl (k1 + 1) (k2 + 6) rfl rfl 2986 rfl dL_law_2983 ?_
  refine r_istore C (lv' := [(0, .ref b), (1, .ref a1), (2, .ref a2), (3, .ref a3), (4, .ref a4), (5, .int v5), (6, .int y2076)]) [1, 2, 3, 4, 5, 6, 0] 2988 rfl dL_law_2986 (Nat.le_of_ble_eq_true rfl) rfl ?_
  refine r_aload_n C 2 2989 rfl dL_law_2988 rfl ?_
  obtain ⟨y2079, κ2080, e2078, h⟩ := bd2_some h
  refine r_cVi C (st := []) (c_X7_undo ha2 e2078) yv_X7_undo ml_L_342 rfl ha2 rfl ⟨Nat.le_of_ble_eq_true rfl, Nat.le_of_ble_eq_true rfl⟩ ⟨by omega, by omega⟩ (Nat.le_of_ble_eq_true rfl) rfl (k1 + 1) (k2 + 6) rfl rfl 2992 rfl dL_law_2989 ?_
  refine r_istore C (lv' := [(0, .ref b), (1, .ref a1), (2, .ref a2), (3, .ref a3), (4, .ref a4), (5, .int v5), (6, .int y2076), (7, .int y2079)]) [1, 2, 3, 4, 5, 6, 7, 0] 2994 rfl dL_law_2992 (Nat.le_of_ble_eq_true rfl) rfl ?_
  refine r_aload_n C 2 2995 rfl dL_law_2994 rfl ?_
  obtain ⟨y2082, e2081, h⟩ := bd_some h
  refine r_cVi C (st := []) (c_X7_thrown ha2 e2081) yv_X7_thrown ml_L_175 rfl ha2 rfl ⟨Nat.le_of_ble_eq_true rfl, Nat.le_of_ble_eq_true rfl⟩ ⟨by omega, by omega⟩ (Nat.le_of_ble_eq_true rfl) rfl (k1 + 1) (k2 + 6) rfl rfl 2998 rfl dL_law_2995 ?_
  refine r_iload C 6 3000 rfl dL_law_2998 rfl ?_
  refine r_icmp_eq C 3005 3003 rfl dL_law_3000 rfl ⟨fun c2083 => ?_, fun c2083 => ?_⟩
  · have h := if_some_t c2083 h
    refine r_iload C 6 3007 rfl dL_law_3005 rfl ?_
    refine r_if_ne C 3022 3010 rfl dL_law_3007 rfl ⟨fun c2084 => ?_, fun c2084 => ?_⟩
    · have h := if_some_f c2084 h
      refine r_goto C 3082 dL_law_3022 rfl ?_
      refine r_lv [0, 1, 2, 3, 4, 5] rfl ?_
      refine r_wd (k1' := (k1 + 52)) (k2' := (k2 + 7248)) (by omega) (by omega) ?_
      exact w_L_law_3082 C hX ha1 ha2 ha3 ha4 hq (k1 := k1) (k2 := k2) (by omega) (by omega) (fun κ u5 h k1a k2a g1 g2 => hK28 κ u5 h k1a k2a (by omega) (by omega)) h
    · have h := if_some_t c2084 h
      refine r_aload_n C 3 3011 rfl dL_law_3010 rfl ?_
      refine r_iconst C 0 rfl 3012 rfl dL_law_3011 ?_
      refine r_lald C ha3 (by decide) 3013 rfl dL_law_3012 ?_
      refine r_iload C 7 3015 rfl dL_law_3013 rfl ?_
      refine r_i2l C 3016 rfl dL_law_3015 ?_
      refine r_lcmp C 3017 rfl dL_law_3016 ?_
      refine r_if_eq C 3022 3020 rfl dL_law_3017 rfl ⟨fun c2085 => ?_, fun c2085 => ?_⟩
      · have h := if_some_t c2085 h
        refine r_goto C 3082 dL_law_3022 rfl ?_
        refine r_lv [0, 1, 2, 3, 4, 5] rfl ?_
        refine r_wd (k1' := (k1 + 52)) (k2' := (k2 + 7248)) (by omega) (by omega) ?_
        exact w_L_law_3082 C hX ha1 ha2 ha3 ha4 hq (k1 := k1) (k2 := k2) (by omega) (by omega) (fun κ u5 h k1a k2a g1 g2 => hK28 κ u5 h k1a k2a (by omega) (by omega)) h
      · have h := if_some_f c2085 h
        refine r_iconst C 0 rfl 3021 rfl dL_law_3020 ?_
        exact absurd (congrArg (fun z => z.1) (Option.some.inj h)) (show ¬ ((0 : Int32) = 1) by decide)
  · have h := if_some_f c2083 h
    refine r_iconst C 0 rfl 3004 rfl dL_law_3003 ?_
    exact absurd (congrArg (fun z => z.1) (Option.some.inj h)) (show ¬ ((0 : Int32) = 1) by decide)
set_option maxRecDepth 20000 in
theorem w_L_law_3025 {F : jFm} (C : jA F RL cL_law 9 2048 603072 7182442 94400) {b L : Nat} {xs : Nat → Int32} (hX : jScr F b L xs) {κ : jKt} {a1 : Nat} (ha1 : jSof F a1 = (1, 10, 11)) {a2 : Nat} (ha2 : jSof F a2 = (1, 11, 22)) {a3 : Nat} (ha3 : jSof F a3 = (2, 3, 1)) {a4 : Nat} (ha4 : jSof F a4 = (2, 4, 1)) {v5 : Int32} {κr : jKt} (hq : ∀ κ k1 k2 lv, κ = κr → k1 ≤ 603072 → k2 ≤ 7182442 → jW F 9 k1 k2 κ 3089 lv [.int 1]) {k1 k2 : Nat} (hk1 : k1 + 52 ≤ 603072) (hk2 : k2 + 7248 ≤ 7182442) {K28 : jKt → Int32 → Option (Int32 × jKt)} (hK28 : ∀ (κ : jKt) (u5 : Int32), K28 κ u5 = some (1, κr) → ∀ k1a k2a, k1a ≤ k1 + 52 → k2a ≤ k2 + 7248 → jW F 9 k1a k2a κ 28 [(0, .ref b), (1, .ref a1), (2, .ref a2), (3, .ref a3), (4, .ref a4), (5, .int u5)] []) (h : P_L_law_3025 xs L κ a1 a2 a3 a4 v5 K28 = some (1, κr)) : jW F 9 k1 k2 κ 3025 [(0, .ref b), (1, .ref a1), (2, .ref a2), (3, .ref a3), (4, .ref a4), (5, .int v5)] [] := by
  unfold P_L_law_3025 at h
  refine r_aload_n C 1 3026 rfl dL_law_3025 rfl ?_
  obtain ⟨y2087, κ2088, e2086, h⟩ := bd2_some h
  refine r_cVi C (st := []) (c_X6_save ha1 e2086) yv_X6_save ml_L_343 rfl ha1 rfl ⟨Nat.le_of_ble_eq_true rfl, Nat.le_of_ble_eq_true rfl⟩ ⟨by omega, by omega⟩ (Nat.le_of_ble_eq_true rfl) rfl k1 k2 rfl rfl 3029 rfl dL_law_3026 ?_
  refine r_aload_n C 2 3030 rfl dL_law_3029 rfl ?_
  obtain ⟨y2090, κ2091, e2089, h⟩ := bd2_some h
  refine r_cVi C (st := [.int y2087]) (c_X7_save ha2 e2089) yv_X7_save ml_L_346 rfl ha2 rfl ⟨Nat.le_of_ble_eq_true rfl, Nat.le_of_ble_eq_true rfl⟩ ⟨by omega, by omega⟩ (Nat.le_of_ble_eq_true rfl) rfl k1 k2 rfl rfl 3033 rfl dL_law_3030 ?_
  refine r_icmp_eq C 3082 3036 rfl dL_law_3033 rfl ⟨fun c2092 => ?_, fun c2092 => ?_⟩
  · have h := if_some_t c2092 h
    refine r_wd (k1' := (k1 + 52)) (k2' := (k2 + 7248)) (by omega) (by omega) ?_
    exact w_L_law_3082 C hX ha1 ha2 ha3 ha4 hq (k1 := k1) (k2 := k2) (by omega) (by omega) (fun κ u5 h k1a k2a g1 g2 => hK28 κ u5 h k1a k2a (by omega) (by omega)) h
  · have h := if_some_f c2092 h
    refine r_iconst C 0 rfl 3037 rfl dL_law_3036 ?_
    exact absurd (congrArg (fun z => z.1) (Option.some.inj h)) (show ¬ ((0 : Int32) = 1) by decide)
set_option maxRecDepth 20000 in
theorem w_L_law_3038 {F : jFm} (C : jA F RL cL_law 9 2048 603072 7182442 94400) {b L : Nat} {xs : Nat → Int32} (hX : jScr F b L xs) {κ : jKt} {a1 : Nat} (ha1 : jSof F a1 = (1, 10, 11)) {a2 : Nat} (ha2 : jSof F a2 = (1, 11, 22)) {a3 : Nat} (ha3 : jSof F a3 = (2, 3, 1)) {a4 : Nat} (ha4 : jSof F a4 = (2, 4, 1)) {v5 : Int32} {κr : jKt} (hq : ∀ κ k1 k2 lv, κ = κr → k1 ≤ 603072 → k2 ≤ 7182442 → jW F 9 k1 k2 κ 3089 lv [.int 1]) {k1 k2 : Nat} (hk1 : k1 + 52 ≤ 603072) (hk2 : k2 + 7248 ≤ 7182442) {K28 : jKt → Int32 → Option (Int32 × jKt)} (hK28 : ∀ (κ : jKt) (u5 : Int32), K28 κ u5 = some (1, κr) → ∀ k1a k2a, k1a ≤ k1 + 52 → k2a ≤ k2 + 7248 → jW F 9 k1a k2a κ 28 [(0, .ref b), (1, .ref a1), (2, .ref a2), (3, .ref a3), (4, .ref a4), (5, .int u5)] []) (h : P_L_law_3038 xs L κ a1 a2 a3 a4 v5 K28 = some (1, κr)) : jW F 9 k1 k2 κ 3038 [(0, .ref b), (1, .ref a1), (2, .ref a2), (3, .ref a3), (4, .ref a4), (5, .int v5)] [] := by
  unfold P_L_law_3038 at h
  refine r_aload_n C 1 3039 rfl dL_law_3038 rfl ?_
  refine r_aload_n C 3 3040 rfl dL_law_3039 rfl ?_
  obtain ⟨y2094, κ2095, e2093, h⟩ := bd2_some h
  refine r_cSh C (st := []) (c_L_restore ha1 ha3 e2093) yv_L_restore ml_L_347 rfl ⟨Nat.le_of_ble_eq_true rfl, Nat.le_of_ble_eq_true rfl⟩ ⟨by omega, by omega⟩ (Nat.le_of_ble_eq_true rfl) rfl (k1 + 1) (k2 + 6) rfl rfl 3043 rfl dL_law_3040 ?_
  refine r_istore C (lv' := [(0, .ref b), (1, .ref a1), (2, .ref a2), (3, .ref a3), (4, .ref a4), (5, .int v5), (6, .int y2094)]) [1, 2, 3, 4, 5, 6, 0] 3045 rfl dL_law_3043 (Nat.le_of_ble_eq_true rfl) rfl ?_
  refine r_aload_n C 2 3046 rfl dL_law_3045 rfl ?_
  obtain ⟨y2097, κ2098, e2096, h⟩ := bd2_some h
  refine r_cVi C (st := []) (c_X7_restore ha2 e2096) yv_X7_restore ml_L_349 rfl ha2 rfl ⟨Nat.le_of_ble_eq_true rfl, Nat.le_of_ble_eq_true rfl⟩ ⟨by omega, by omega⟩ (Nat.le_of_ble_eq_true rfl) rfl (k1 + 1) (k2 + 6) rfl rfl 3049 rfl dL_law_3046 ?_
  refine r_istore C (lv' := [(0, .ref b), (1, .ref a1), (2, .ref a2), (3, .ref a3), (4, .ref a4), (5, .int v5), (6, .int y2094), (7, .int y2097)]) [1, 2, 3, 4, 5, 6, 7, 0] 3051 rfl dL_law_3049 (Nat.le_of_ble_eq_true rfl) rfl ?_
  refine r_aload_n C 2 3052 rfl dL_law_3051 rfl ?_
  obtain ⟨y2100, e2099, h⟩ := bd_some h
  refine r_cVi C (st := []) (c_X7_thrown ha2 e2099) yv_X7_thrown ml_L_175 rfl ha2 rfl ⟨Nat.le_of_ble_eq_true rfl, Nat.le_of_ble_eq_true rfl⟩ ⟨by omega, by omega⟩ (Nat.le_of_ble_eq_true rfl) rfl (k1 + 1) (k2 + 6) rfl rfl 3055 rfl dL_law_3052 ?_
  refine r_iload C 6 3057 rfl dL_law_3055 rfl ?_
  refine r_icmp_eq C 3062 3060 rfl dL_law_3057 rfl ⟨fun c2101 => ?_, fun c2101 => ?_⟩
  · have h := if_some_t c2101 h
    refine r_iload C 6 3064 rfl dL_law_3062 rfl ?_
    refine r_if_ne C 3079 3067 rfl dL_law_3064 rfl ⟨fun c2102 => ?_, fun c2102 => ?_⟩
    · have h := if_some_f c2102 h
      refine r_goto C 3082 dL_law_3079 rfl ?_
      refine r_lv [0, 1, 2, 3, 4, 5] rfl ?_
      refine r_wd (k1' := (k1 + 52)) (k2' := (k2 + 7248)) (by omega) (by omega) ?_
      exact w_L_law_3082 C hX ha1 ha2 ha3 ha4 hq (k1 := k1) (k2 := k2) (by omega) (by omega) (fun κ u5 h k1a k2a g1 g2 => hK28 κ u5 h k1a k2a (by omega) (by omega)) h
    · have h := if_some_t c2102 h
      refine r_aload_n C 3 3068 rfl dL_law_3067 rfl ?_
      refine r_iconst C 0 rfl 3069 rfl dL_law_3068 ?_
      refine r_lald C ha3 (by decide) 3070 rfl dL_law_3069 ?_
      refine r_iload C 7 3072 rfl dL_law_3070 rfl ?_
      refine r_i2l C 3073 rfl dL_law_3072 ?_
      refine r_lcmp C 3074 rfl dL_law_3073 ?_
      refine r_if_eq C 3079 3077 rfl dL_law_3074 rfl ⟨fun c2103 => ?_, fun c2103 => ?_⟩
      · have h := if_some_t c2103 h
        refine r_goto C 3082 dL_law_3079 rfl ?_
        refine r_lv [0, 1, 2, 3, 4, 5] rfl ?_
        refine r_wd (k1' := (k1 + 52)) (k2' := (k2 + 7248)) (by omega) (by omega) ?_
        exact w_L_law_3082 C hX ha1 ha2 ha3 ha4 hq (k1 := k1) (k2 := k2) (by omega) (by omega) (fun κ u5 h k1a k2a g1 g2 => hK28 κ u5 h k1a k2a (by omega) (by omega)) h
      · have h := if_some_f c2103 h
        refine r_iconst C 0 rfl 3078 rfl dL_law_3077 ?_
        exact absurd (congrArg (fun z => z.1) (Option.some.inj h)) (show ¬ ((0 : Int32) = 1) by decide)
  · have h := if_some_f c2101 h
    refine r_iconst C 0 rfl 3061 rfl dL_law_3060 ?_
    exact absurd (congrArg (fun z => z.1) (Option.some.inj h)) (show ¬ ((0 : Int32) = 1) by decide)
set_option maxRecDepth 20000 in
theorem w_L_law_28 {F : jFm} (C : jA F RL cL_law 9 2048 603072 7182442 94400) {b L : Nat} {xs : Nat → Int32} (hX : jScr F b L xs) {a1 : Nat} (ha1 : jSof F a1 = (1, 10, 11)) {a2 : Nat} (ha2 : jSof F a2 = (1, 11, 22)) {a3 : Nat} (ha3 : jSof F a3 = (2, 3, 1)) {a4 : Nat} (ha4 : jSof F a4 = (2, 4, 1)) {κr : jKt} (hq : ∀ κ k1 k2 lv, κ = κr → k1 ≤ 603072 → k2 ≤ 7182442 → jW F 9 k1 k2 κ 3089 lv [.int 1]) : ∀ (n : Nat) (κ : jKt) (v5 : Int32), P_L_law_28 xs L a1 a2 a3 a4 n κ v5 = some (1, κr) → ∀ k1 k2, k1 + n * 52 ≤ 603072 → k2 + n * 7248 ≤ 7182442 → jW F 9 k1 k2 κ 28 [(0, .ref b), (1, .ref a1), (2, .ref a2), (3, .ref a3), (4, .ref a4), (5, .int v5)] [] := by
  intro n
  induction n with
  | zero => intro κ v5 h; cases h
  | succ n ih =>
    intro κ v5 h k1 k2 hk1 hk2
    rw [P_L_law_28] at h
    refine r_iload C 5 30 rfl dL_law_28 rfl ?_
    refine r_aload_n C 0 31 rfl dL_law_30 rfl ?_
    refine r_slen C hX 32 rfl dL_law_31 ?_
    refine r_iconst C 4 rfl 33 rfl dL_law_32 ?_
    refine r_isub C 34 rfl dL_law_33 ?_
    refine r_icmp_gt C 3088 37 rfl dL_law_34 rfl ⟨fun c2104 => ?_, fun c2104 => ?_⟩
    · have h := if_some_t c2104 h
      refine r_iconst C 1 rfl 3089 rfl dL_law_3088 ?_
      cases h
      exact hq _ _ _ _ rfl (by omega) (by omega)
    · have h := if_some_f c2104 h
      refine r_aload_n C 0 38 rfl dL_law_37 rfl ?_
      refine r_iload C 5 40 rfl dL_law_38 rfl ?_
      obtain ⟨i2105, h⟩ := ck_some h
      refine r_sld C hX i2105 41 rfl dL_law_40 ?_
      refine r_bipush C 63 rfl 43 rfl dL_law_41 ?_
      refine r_iand C 44 rfl dL_law_43 ?_
      obtain ⟨y2106, e2107, h⟩ := bnd_some h
      refine r_top e2107 ?_
      by_cases c2108 : y2106 = 0
      · have h := if_some_t c2108 h
        refine r_tableAt C 272 (x0 := 0) c2108 dL_law_44 (by decide) (by decide) rfl rfl ?_
        exact w_L_law_272 C hX ha1 ha2 ha3 ha4 hq (k1 := k1) (k2 := k2) (by omega) (by omega) (fun κ u5 h k1a k2a g1 g2 => ih κ u5 h k1a k2a (by omega) (by omega)) h
      replace h := if_some_f c2108 h
      by_cases c2109 : y2106 = 1
      · have h := if_some_t c2109 h
        refine r_tableAt C 340 (x0 := 1) c2109 dL_law_44 (by decide) (by decide) rfl rfl ?_
        exact w_L_law_340 C hX ha1 ha2 ha3 ha4 hq (k1 := k1) (k2 := k2) (by omega) (by omega) (fun κ u5 h k1a k2a g1 g2 => ih κ u5 h k1a k2a (by omega) (by omega)) h
      replace h := if_some_f c2109 h
      by_cases c2110 : y2106 = 2
      · have h := if_some_t c2110 h
        refine r_tableAt C 408 (x0 := 2) c2110 dL_law_44 (by decide) (by decide) rfl rfl ?_
        exact w_L_law_408 C hX ha1 ha2 ha3 ha4 hq (k1 := k1) (k2 := k2) (by omega) (by omega) (fun κ u5 h k1a k2a g1 g2 => ih κ u5 h k1a k2a (by omega) (by omega)) h
      replace h := if_some_f c2110 h
      by_cases c2111 : y2106 = 3
      · have h := if_some_t c2111 h
        refine r_tableAt C 488 (x0 := 3) c2111 dL_law_44 (by decide) (by decide) rfl rfl ?_
        exact w_L_law_488 C hX ha1 ha2 ha3 ha4 hq (k1 := k1) (k2 := k2) (by omega) (by omega) (fun κ u5 h k1a k2a g1 g2 => ih κ u5 h k1a k2a (by omega) (by omega)) h
      replace h := if_some_f c2111 h
      by_cases c2112 : y2106 = 4
      · have h := if_some_t c2112 h
        refine r_tableAt C 556 (x0 := 4) c2112 dL_law_44 (by decide) (by decide) rfl rfl ?_
        exact w_L_law_556 C hX ha1 ha2 ha3 ha4 hq (k1 := k1) (k2 := k2) (by omega) (by omega) (fun κ u5 h k1a k2a g1 g2 => ih κ u5 h k1a k2a (by omega) (by omega)) h
      replace h := if_some_f c2112 h
      by_cases c2113 : y2106 = 5
      · have h := if_some_t c2113 h
        refine r_tableAt C 624 (x0 := 5) c2113 dL_law_44 (by decide) (by decide) rfl rfl ?_
        exact w_L_law_624 C hX ha1 ha2 ha3 ha4 hq (k1 := k1) (k2 := k2) (by omega) (by omega) (fun κ u5 h k1a k2a g1 g2 => ih κ u5 h k1a k2a (by omega) (by omega)) h
      replace h := if_some_f c2113 h
      by_cases c2114 : y2106 = 6
      · have h := if_some_t c2114 h
        refine r_tableAt C 692 (x0 := 6) c2114 dL_law_44 (by decide) (by decide) rfl rfl ?_
        exact w_L_law_692 C hX ha1 ha2 ha3 ha4 hq (k1 := k1) (k2 := k2) (by omega) (by omega) (fun κ u5 h k1a k2a g1 g2 => ih κ u5 h k1a k2a (by omega) (by omega)) h
      replace h := if_some_f c2114 h
      by_cases c2115 : y2106 = 7
      · have h := if_some_t c2115 h
        refine r_tableAt C 760 (x0 := 7) c2115 dL_law_44 (by decide) (by decide) rfl rfl ?_
        exact w_L_law_760 C hX ha1 ha2 ha3 ha4 hq (k1 := k1) (k2 := k2) (by omega) (by omega) (fun κ u5 h k1a k2a g1 g2 => ih κ u5 h k1a k2a (by omega) (by omega)) h
      replace h := if_some_f c2115 h
      by_cases c2116 : y2106 = 8
      · have h := if_some_t c2116 h
        refine r_tableAt C 840 (x0 := 8) c2116 dL_law_44 (by decide) (by decide) rfl rfl ?_
        exact w_L_law_840 C hX ha1 ha2 ha3 ha4 hq (k1 := k1) (k2 := k2) (by omega) (by omega) (fun κ u5 h k1a k2a g1 g2 => ih κ u5 h k1a k2a (by omega) (by omega)) h
      replace h := if_some_f c2116 h
      by_cases c2117 : y2106 = 9
      · have h := if_some_t c2117 h
        refine r_tableAt C 896 (x0 := 9) c2117 dL_law_44 (by decide) (by decide) rfl rfl ?_
        exact w_L_law_896 C hX ha1 ha2 ha3 ha4 hq (k1 := k1) (k2 := k2) (by omega) (by omega) (fun κ u5 h k1a k2a g1 g2 => ih κ u5 h k1a k2a (by omega) (by omega)) h
      replace h := if_some_f c2117 h
      by_cases c2118 : y2106 = 10
      · have h := if_some_t c2118 h
        refine r_tableAt C 952 (x0 := 10) c2118 dL_law_44 (by decide) (by decide) rfl rfl ?_
        exact w_L_law_952 C hX ha1 ha2 ha3 ha4 hq (k1 := k1) (k2 := k2) (by omega) (by omega) (fun κ u5 h k1a k2a g1 g2 => ih κ u5 h k1a k2a (by omega) (by omega)) h
      replace h := if_some_f c2118 h
      by_cases c2119 : y2106 = 11
      · have h := if_some_t c2119 h
        refine r_tableAt C 1008 (x0 := 11) c2119 dL_law_44 (by decide) (by decide) rfl rfl ?_
        exact w_L_law_1008 C hX ha1 ha2 ha3 ha4 hq (k1 := k1) (k2 := k2) (by omega) (by omega) (fun κ u5 h k1a k2a g1 g2 => ih κ u5 h k1a k2a (by omega) (by omega)) h
      replace h := if_some_f c2119 h
      by_cases c2120 : y2106 = 12
      · have h := if_some_t c2120 h
        refine r_tableAt C 1021 (x0 := 12) c2120 dL_law_44 (by decide) (by decide) rfl rfl ?_
        exact w_L_law_1021 C hX ha1 ha2 ha3 ha4 hq (k1 := k1) (k2 := k2) (by omega) (by omega) (fun κ u5 h k1a k2a g1 g2 => ih κ u5 h k1a k2a (by omega) (by omega)) h
      replace h := if_some_f c2120 h
      by_cases c2121 : y2106 = 13
      · have h := if_some_t c2121 h
        refine r_tableAt C 1077 (x0 := 13) c2121 dL_law_44 (by decide) (by decide) rfl rfl ?_
        exact w_L_law_1077 C hX ha1 ha2 ha3 ha4 hq (k1 := k1) (k2 := k2) (by omega) (by omega) (fun κ u5 h k1a k2a g1 g2 => ih κ u5 h k1a k2a (by omega) (by omega)) h
      replace h := if_some_f c2121 h
      by_cases c2122 : y2106 = 14
      · have h := if_some_t c2122 h
        refine r_tableAt C 1145 (x0 := 14) c2122 dL_law_44 (by decide) (by decide) rfl rfl ?_
        exact w_L_law_1145 C hX ha1 ha2 ha3 ha4 hq (k1 := k1) (k2 := k2) (by omega) (by omega) (fun κ u5 h k1a k2a g1 g2 => ih κ u5 h k1a k2a (by omega) (by omega)) h
      replace h := if_some_f c2122 h
      by_cases c2123 : y2106 = 15
      · have h := if_some_t c2123 h
        refine r_tableAt C 1213 (x0 := 15) c2123 dL_law_44 (by decide) (by decide) rfl rfl ?_
        exact w_L_law_1213 C hX ha1 ha2 ha3 ha4 hq (k1 := k1) (k2 := k2) (by omega) (by omega) (fun κ u5 h k1a k2a g1 g2 => ih κ u5 h k1a k2a (by omega) (by omega)) h
      replace h := if_some_f c2123 h
      by_cases c2124 : y2106 = 16
      · have h := if_some_t c2124 h
        refine r_tableAt C 1276 (x0 := 16) c2124 dL_law_44 (by decide) (by decide) rfl rfl ?_
        exact w_L_law_1276 C hX ha1 ha2 ha3 ha4 hq (k1 := k1) (k2 := k2) (by omega) (by omega) (fun κ u5 h k1a k2a g1 g2 => ih κ u5 h k1a k2a (by omega) (by omega)) h
      replace h := if_some_f c2124 h
      by_cases c2125 : y2106 = 17
      · have h := if_some_t c2125 h
        refine r_tableAt C 1332 (x0 := 17) c2125 dL_law_44 (by decide) (by decide) rfl rfl ?_
        exact w_L_law_1332 C hX ha1 ha2 ha3 ha4 hq (k1 := k1) (k2 := k2) (by omega) (by omega) (fun κ u5 h k1a k2a g1 g2 => ih κ u5 h k1a k2a (by omega) (by omega)) h
      replace h := if_some_f c2125 h
      by_cases c2126 : y2106 = 18
      · have h := if_some_t c2126 h
        refine r_tableAt C 1345 (x0 := 18) c2126 dL_law_44 (by decide) (by decide) rfl rfl ?_
        exact w_L_law_1345 C hX ha1 ha2 ha3 ha4 hq (k1 := k1) (k2 := k2) (by omega) (by omega) (fun κ u5 h k1a k2a g1 g2 => ih κ u5 h k1a k2a (by omega) (by omega)) h
      replace h := if_some_f c2126 h
      by_cases c2127 : y2106 = 19
      · have h := if_some_t c2127 h
        refine r_tableAt C 1401 (x0 := 19) c2127 dL_law_44 (by decide) (by decide) rfl rfl ?_
        exact w_L_law_1401 C hX ha1 ha2 ha3 ha4 hq (k1 := k1) (k2 := k2) (by omega) (by omega) (fun κ u5 h k1a k2a g1 g2 => ih κ u5 h k1a k2a (by omega) (by omega)) h
      replace h := if_some_f c2127 h
      by_cases c2128 : y2106 = 20
      · have h := if_some_t c2128 h
        refine r_tableAt C 1457 (x0 := 20) c2128 dL_law_44 (by decide) (by decide) rfl rfl ?_
        exact w_L_law_1457 C hX ha1 ha2 ha3 ha4 hq (k1 := k1) (k2 := k2) (by omega) (by omega) (fun κ u5 h k1a k2a g1 g2 => ih κ u5 h k1a k2a (by omega) (by omega)) h
      replace h := if_some_f c2128 h
      by_cases c2129 : y2106 = 21
      · have h := if_some_t c2129 h
        refine r_tableAt C 1513 (x0 := 21) c2129 dL_law_44 (by decide) (by decide) rfl rfl ?_
        exact w_L_law_1513 C hX ha1 ha2 ha3 ha4 hq (k1 := k1) (k2 := k2) (by omega) (by omega) (fun κ u5 h k1a k2a g1 g2 => ih κ u5 h k1a k2a (by omega) (by omega)) h
      replace h := if_some_f c2129 h
      by_cases c2130 : y2106 = 22
      · have h := if_some_t c2130 h
        refine r_tableAt C 1581 (x0 := 22) c2130 dL_law_44 (by decide) (by decide) rfl rfl ?_
        exact w_L_law_1581 C hX ha1 ha2 ha3 ha4 hq (k1 := k1) (k2 := k2) (by omega) (by omega) (fun κ u5 h k1a k2a g1 g2 => ih κ u5 h k1a k2a (by omega) (by omega)) h
      replace h := if_some_f c2130 h
      by_cases c2131 : y2106 = 23
      · have h := if_some_t c2131 h
        refine r_tableAt C 1649 (x0 := 23) c2131 dL_law_44 (by decide) (by decide) rfl rfl ?_
        exact w_L_law_1649 C hX ha1 ha2 ha3 ha4 hq (k1 := k1) (k2 := k2) (by omega) (by omega) (fun κ u5 h k1a k2a g1 g2 => ih κ u5 h k1a k2a (by omega) (by omega)) h
      replace h := if_some_f c2131 h
      by_cases c2132 : y2106 = 24
      · have h := if_some_t c2132 h
        refine r_tableAt C 1724 (x0 := 24) c2132 dL_law_44 (by decide) (by decide) rfl rfl ?_
        exact w_L_law_1724 C hX ha1 ha2 ha3 ha4 hq (k1 := k1) (k2 := k2) (by omega) (by omega) (fun κ u5 h k1a k2a g1 g2 => ih κ u5 h k1a k2a (by omega) (by omega)) h
      replace h := if_some_f c2132 h
      by_cases c2133 : y2106 = 25
      · have h := if_some_t c2133 h
        refine r_tableAt C 1780 (x0 := 25) c2133 dL_law_44 (by decide) (by decide) rfl rfl ?_
        exact w_L_law_1780 C hX ha1 ha2 ha3 ha4 hq (k1 := k1) (k2 := k2) (by omega) (by omega) (fun κ u5 h k1a k2a g1 g2 => ih κ u5 h k1a k2a (by omega) (by omega)) h
      replace h := if_some_f c2133 h
      by_cases c2134 : y2106 = 26
      · have h := if_some_t c2134 h
        refine r_tableAt C 1836 (x0 := 26) c2134 dL_law_44 (by decide) (by decide) rfl rfl ?_
        exact w_L_law_1836 C hX ha1 ha2 ha3 ha4 hq (k1 := k1) (k2 := k2) (by omega) (by omega) (fun κ u5 h k1a k2a g1 g2 => ih κ u5 h k1a k2a (by omega) (by omega)) h
      replace h := if_some_f c2134 h
      by_cases c2135 : y2106 = 27
      · have h := if_some_t c2135 h
        refine r_tableAt C 1923 (x0 := 27) c2135 dL_law_44 (by decide) (by decide) rfl rfl ?_
        exact w_L_law_1923 C hX ha1 ha2 ha3 ha4 hq (k1 := k1) (k2 := k2) (by omega) (by omega) (fun κ u5 h k1a k2a g1 g2 => ih κ u5 h k1a k2a (by omega) (by omega)) h
      replace h := if_some_f c2135 h
      by_cases c2136 : y2106 = 28
      · have h := if_some_t c2136 h
        refine r_tableAt C 1986 (x0 := 28) c2136 dL_law_44 (by decide) (by decide) rfl rfl ?_
        exact w_L_law_1986 C hX ha1 ha2 ha3 ha4 hq (k1 := k1) (k2 := k2) (by omega) (by omega) (fun κ u5 h k1a k2a g1 g2 => ih κ u5 h k1a k2a (by omega) (by omega)) h
      replace h := if_some_f c2136 h
      by_cases c2137 : y2106 = 29
      · have h := if_some_t c2137 h
        refine r_tableAt C 2042 (x0 := 29) c2137 dL_law_44 (by decide) (by decide) rfl rfl ?_
        exact w_L_law_2042 C hX ha1 ha2 ha3 ha4 hq (k1 := k1) (k2 := k2) (by omega) (by omega) (fun κ u5 h k1a k2a g1 g2 => ih κ u5 h k1a k2a (by omega) (by omega)) h
      replace h := if_some_f c2137 h
      by_cases c2138 : y2106 = 30
      · have h := if_some_t c2138 h
        refine r_tableAt C 2098 (x0 := 30) c2138 dL_law_44 (by decide) (by decide) rfl rfl ?_
        exact w_L_law_2098 C hX ha1 ha2 ha3 ha4 hq (k1 := k1) (k2 := k2) (by omega) (by omega) (fun κ u5 h k1a k2a g1 g2 => ih κ u5 h k1a k2a (by omega) (by omega)) h
      replace h := if_some_f c2138 h
      by_cases c2139 : y2106 = 31
      · have h := if_some_t c2139 h
        refine r_tableAt C 2166 (x0 := 31) c2139 dL_law_44 (by decide) (by decide) rfl rfl ?_
        exact w_L_law_2166 C hX ha1 ha2 ha3 ha4 hq (k1 := k1) (k2 := k2) (by omega) (by omega) (fun κ u5 h k1a k2a g1 g2 => ih κ u5 h k1a k2a (by omega) (by omega)) h
      replace h := if_some_f c2139 h
      by_cases c2140 : y2106 = 32
      · have h := if_some_t c2140 h
        refine r_tableAt C 2234 (x0 := 32) c2140 dL_law_44 (by decide) (by decide) rfl rfl ?_
        exact w_L_law_2234 C hX ha1 ha2 ha3 ha4 hq (k1 := k1) (k2 := k2) (by omega) (by omega) (fun κ u5 h k1a k2a g1 g2 => ih κ u5 h k1a k2a (by omega) (by omega)) h
      replace h := if_some_f c2140 h
      by_cases c2141 : y2106 = 33
      · have h := if_some_t c2141 h
        refine r_tableAt C 2290 (x0 := 33) c2141 dL_law_44 (by decide) (by decide) rfl rfl ?_
        exact w_L_law_2290 C hX ha1 ha2 ha3 ha4 hq (k1 := k1) (k2 := k2) (by omega) (by omega) (fun κ u5 h k1a k2a g1 g2 => ih κ u5 h k1a k2a (by omega) (by omega)) h
      replace h := if_some_f c2141 h
      by_cases c2142 : y2106 = 34
      · have h := if_some_t c2142 h
        refine r_tableAt C 2346 (x0 := 34) c2142 dL_law_44 (by decide) (by decide) rfl rfl ?_
        exact w_L_law_2346 C hX ha1 ha2 ha3 ha4 hq (k1 := k1) (k2 := k2) (by omega) (by omega) (fun κ u5 h k1a k2a g1 g2 => ih κ u5 h k1a k2a (by omega) (by omega)) h
      replace h := if_some_f c2142 h
      by_cases c2143 : y2106 = 35
      · have h := if_some_t c2143 h
        refine r_tableAt C 2402 (x0 := 35) c2143 dL_law_44 (by decide) (by decide) rfl rfl ?_
        exact w_L_law_2402 C hX ha1 ha2 ha3 ha4 hq (k1 := k1) (k2 := k2) (by omega) (by omega) (fun κ u5 h k1a k2a g1 g2 => ih κ u5 h k1a k2a (by omega) (by omega)) h
      replace h := if_some_f c2143 h
      by_cases c2144 : y2106 = 36
      · have h := if_some_t c2144 h
        refine r_tableAt C 2415 (x0 := 36) c2144 dL_law_44 (by decide) (by decide) rfl rfl ?_
        exact w_L_law_2415 C hX ha1 ha2 ha3 ha4 hq (k1 := k1) (k2 := k2) (by omega) (by omega) (fun κ u5 h k1a k2a g1 g2 => ih κ u5 h k1a k2a (by omega) (by omega)) h
      replace h := if_some_f c2144 h
      by_cases c2145 : y2106 = 37
      · have h := if_some_t c2145 h
        refine r_tableAt C 2428 (x0 := 37) c2145 dL_law_44 (by decide) (by decide) rfl rfl ?_
        exact w_L_law_2428 C hX ha1 ha2 ha3 ha4 hq (k1 := k1) (k2 := k2) (by omega) (by omega) (fun κ u5 h k1a k2a g1 g2 => ih κ u5 h k1a k2a (by omega) (by omega)) h
      replace h := if_some_f c2145 h
      by_cases c2146 : y2106 = 38
      · have h := if_some_t c2146 h
        refine r_tableAt C 2441 (x0 := 38) c2146 dL_law_44 (by decide) (by decide) rfl rfl ?_
        exact w_L_law_2441 C hX ha1 ha2 ha3 ha4 hq (k1 := k1) (k2 := k2) (by omega) (by omega) (fun κ u5 h k1a k2a g1 g2 => ih κ u5 h k1a k2a (by omega) (by omega)) h
      replace h := if_some_f c2146 h
      by_cases c2147 : y2106 = 39
      · have h := if_some_t c2147 h
        refine r_tableAt C 2454 (x0 := 39) c2147 dL_law_44 (by decide) (by decide) rfl rfl ?_
        exact w_L_law_2454 C hX ha1 ha2 ha3 ha4 hq (k1 := k1) (k2 := k2) (by omega) (by omega) (fun κ u5 h k1a k2a g1 g2 => ih κ u5 h k1a k2a (by omega) (by omega)) h
      replace h := if_some_f c2147 h
      by_cases c2148 : y2106 = 40
      · have h := if_some_t c2148 h
        refine r_tableAt C 2467 (x0 := 40) c2148 dL_law_44 (by decide) (by decide) rfl rfl ?_
        exact w_L_law_2467 C hX ha1 ha2 ha3 ha4 hq (k1 := k1) (k2 := k2) (by omega) (by omega) (fun κ u5 h k1a k2a g1 g2 => ih κ u5 h k1a k2a (by omega) (by omega)) h
      replace h := if_some_f c2148 h
      by_cases c2149 : y2106 = 41
      · have h := if_some_t c2149 h
        refine r_tableAt C 2544 (x0 := 41) c2149 dL_law_44 (by decide) (by decide) rfl rfl ?_
        exact w_L_law_2544 C hX ha1 ha2 ha3 ha4 hq (k1 := k1) (k2 := k2) (by omega) (by omega) (fun κ u5 h k1a k2a g1 g2 => ih κ u5 h k1a k2a (by omega) (by omega)) h
      replace h := if_some_f c2149 h
      by_cases c2150 : y2106 = 42
      · have h := if_some_t c2150 h
        refine r_tableAt C 2610 (x0 := 42) c2150 dL_law_44 (by decide) (by decide) rfl rfl ?_
        exact w_L_law_2610 C hX ha1 ha2 ha3 ha4 hq (k1 := k1) (k2 := k2) (by omega) (by omega) (fun κ u5 h k1a k2a g1 g2 => ih κ u5 h k1a k2a (by omega) (by omega)) h
      replace h := if_some_f c2150 h
      by_cases c2151 : y2106 = 43
      · have h := if_some_t c2151 h
        refine r_tableAt C 2623 (x0 := 43) c2151 dL_law_44 (by decide) (by decide) rfl rfl ?_
        exact w_L_law_2623 C hX ha1 ha2 ha3 ha4 hq (k1 := k1) (k2 := k2) (by omega) (by omega) (fun κ u5 h k1a k2a g1 g2 => ih κ u5 h k1a k2a (by omega) (by omega)) h
      replace h := if_some_f c2151 h
      by_cases c2152 : y2106 = 44
      · have h := if_some_t c2152 h
        refine r_tableAt C 2679 (x0 := 44) c2152 dL_law_44 (by decide) (by decide) rfl rfl ?_
        exact w_L_law_2679 C hX ha1 ha2 ha3 ha4 hq (k1 := k1) (k2 := k2) (by omega) (by omega) (fun κ u5 h k1a k2a g1 g2 => ih κ u5 h k1a k2a (by omega) (by omega)) h
      replace h := if_some_f c2152 h
      by_cases c2153 : y2106 = 45
      · have h := if_some_t c2153 h
        refine r_tableAt C 2735 (x0 := 45) c2153 dL_law_44 (by decide) (by decide) rfl rfl ?_
        exact w_L_law_2735 C hX ha1 ha2 ha3 ha4 hq (k1 := k1) (k2 := k2) (by omega) (by omega) (fun κ u5 h k1a k2a g1 g2 => ih κ u5 h k1a k2a (by omega) (by omega)) h
      replace h := if_some_f c2153 h
      by_cases c2154 : y2106 = 46
      · have h := if_some_t c2154 h
        refine r_tableAt C 2791 (x0 := 46) c2154 dL_law_44 (by decide) (by decide) rfl rfl ?_
        exact w_L_law_2791 C hX ha1 ha2 ha3 ha4 hq (k1 := k1) (k2 := k2) (by omega) (by omega) (fun κ u5 h k1a k2a g1 g2 => ih κ u5 h k1a k2a (by omega) (by omega)) h
      replace h := if_some_f c2154 h
      by_cases c2155 : y2106 = 47
      · have h := if_some_t c2155 h
        refine r_tableAt C 2849 (x0 := 47) c2155 dL_law_44 (by decide) (by decide) rfl rfl ?_
        exact w_L_law_2849 C hX ha1 ha2 ha3 ha4 hq (k1 := k1) (k2 := k2) (by omega) (by omega) (fun κ u5 h k1a k2a g1 g2 => ih κ u5 h k1a k2a (by omega) (by omega)) h
      replace h := if_some_f c2155 h
      by_cases c2156 : y2106 = 48
      · have h := if_some_t c2156 h
        refine r_tableAt C 2893 (x0 := 48) c2156 dL_law_44 (by decide) (by decide) rfl rfl ?_
        exact w_L_law_2893 C hX ha1 ha2 ha3 ha4 hq (k1 := k1) (k2 := k2) (by omega) (by omega) (fun κ u5 h k1a k2a g1 g2 => ih κ u5 h k1a k2a (by omega) (by omega)) h
      replace h := if_some_f c2156 h
      by_cases c2157 : y2106 = 49
      · have h := if_some_t c2157 h
        refine r_tableAt C 2937 (x0 := 49) c2157 dL_law_44 (by decide) (by decide) rfl rfl ?_
        exact w_L_law_2937 C hX ha1 ha2 ha3 ha4 hq (k1 := k1) (k2 := k2) (by omega) (by omega) (fun κ u5 h k1a k2a g1 g2 => ih κ u5 h k1a k2a (by omega) (by omega)) h
      replace h := if_some_f c2157 h
      by_cases c2158 : y2106 = 50
      · have h := if_some_t c2158 h
        refine r_tableAt C 2981 (x0 := 50) c2158 dL_law_44 (by decide) (by decide) rfl rfl ?_
        exact w_L_law_2981 C hX ha1 ha2 ha3 ha4 hq (k1 := k1) (k2 := k2) (by omega) (by omega) (fun κ u5 h k1a k2a g1 g2 => ih κ u5 h k1a k2a (by omega) (by omega)) h
      replace h := if_some_f c2158 h
      by_cases c2159 : y2106 = 51
      · have h := if_some_t c2159 h
        refine r_tableAt C 3025 (x0 := 51) c2159 dL_law_44 (by decide) (by decide) rfl rfl ?_
        exact w_L_law_3025 C hX ha1 ha2 ha3 ha4 hq (k1 := k1) (k2 := k2) (by omega) (by omega) (fun κ u5 h k1a k2a g1 g2 => ih κ u5 h k1a k2a (by omega) (by omega)) h
      replace h := if_some_f c2159 h
      by_cases c2160 : y2106 = 52
      · have h := if_some_t c2160 h
        refine r_tableAt C 3038 (x0 := 52) c2160 dL_law_44 (by decide) (by decide) rfl rfl ?_
        exact w_L_law_3038 C hX ha1 ha2 ha3 ha4 hq (k1 := k1) (k2 := k2) (by omega) (by omega) (fun κ u5 h k1a k2a g1 g2 => ih κ u5 h k1a k2a (by omega) (by omega)) h
      replace h := if_some_f c2160 h
      refine r_tableOut C 3082 dL_law_44 (by have g0 : y2106.toInt ≠ 0 := sw_ne c2108; have g1 : y2106.toInt ≠ 1 := sw_ne c2109; have g2 : y2106.toInt ≠ 2 := sw_ne c2110; have g3 : y2106.toInt ≠ 3 := sw_ne c2111; have g4 : y2106.toInt ≠ 4 := sw_ne c2112; have g5 : y2106.toInt ≠ 5 := sw_ne c2113; have g6 : y2106.toInt ≠ 6 := sw_ne c2114; have g7 : y2106.toInt ≠ 7 := sw_ne c2115; have g8 : y2106.toInt ≠ 8 := sw_ne c2116; have g9 : y2106.toInt ≠ 9 := sw_ne c2117; have g10 : y2106.toInt ≠ 10 := sw_ne c2118; have g11 : y2106.toInt ≠ 11 := sw_ne c2119; have g12 : y2106.toInt ≠ 12 := sw_ne c2120; have g13 : y2106.toInt ≠ 13 := sw_ne c2121; have g14 : y2106.toInt ≠ 14 := sw_ne c2122; have g15 : y2106.toInt ≠ 15 := sw_ne c2123; have g16 : y2106.toInt ≠ 16 := sw_ne c2124; have g17 : y2106.toInt ≠ 17 := sw_ne c2125; have g18 : y2106.toInt ≠ 18 := sw_ne c2126; have g19 : y2106.toInt ≠ 19 := sw_ne c2127; have g20 : y2106.toInt ≠ 20 := sw_ne c2128; have g21 : y2106.toInt ≠ 21 := sw_ne c2129; have g22 : y2106.toInt ≠ 22 := sw_ne c2130; have g23 : y2106.toInt ≠ 23 := sw_ne c2131; have g24 : y2106.toInt ≠ 24 := sw_ne c2132; have g25 : y2106.toInt ≠ 25 := sw_ne c2133; have g26 : y2106.toInt ≠ 26 := sw_ne c2134; have g27 : y2106.toInt ≠ 27 := sw_ne c2135; have g28 : y2106.toInt ≠ 28 := sw_ne c2136; have g29 : y2106.toInt ≠ 29 := sw_ne c2137; have g30 : y2106.toInt ≠ 30 := sw_ne c2138; have g31 : y2106.toInt ≠ 31 := sw_ne c2139; have g32 : y2106.toInt ≠ 32 := sw_ne c2140; have g33 : y2106.toInt ≠ 33 := sw_ne c2141; have g34 : y2106.toInt ≠ 34 := sw_ne c2142; have g35 : y2106.toInt ≠ 35 := sw_ne c2143; have g36 : y2106.toInt ≠ 36 := sw_ne c2144; have g37 : y2106.toInt ≠ 37 := sw_ne c2145; have g38 : y2106.toInt ≠ 38 := sw_ne c2146; have g39 : y2106.toInt ≠ 39 := sw_ne c2147; have g40 : y2106.toInt ≠ 40 := sw_ne c2148; have g41 : y2106.toInt ≠ 41 := sw_ne c2149; have g42 : y2106.toInt ≠ 42 := sw_ne c2150; have g43 : y2106.toInt ≠ 43 := sw_ne c2151; have g44 : y2106.toInt ≠ 44 := sw_ne c2152; have g45 : y2106.toInt ≠ 45 := sw_ne c2153; have g46 : y2106.toInt ≠ 46 := sw_ne c2154; have g47 : y2106.toInt ≠ 47 := sw_ne c2155; have g48 : y2106.toInt ≠ 48 := sw_ne c2156; have g49 : y2106.toInt ≠ 49 := sw_ne c2157; have g50 : y2106.toInt ≠ 50 := sw_ne c2158; have g51 : y2106.toInt ≠ 51 := sw_ne c2159; have g52 : y2106.toInt ≠ 52 := sw_ne c2160; omega) rfl ?_
      refine r_wd (k1' := (k1 + 52)) (k2' := (k2 + 7248)) (by omega) (by omega) ?_
      exact w_L_law_3082 C hX ha1 ha2 ha3 ha4 hq (k1 := k1) (k2 := k2) (by omega) (by omega) (fun κ u5 h k1a k2a g1 g2 => ih κ u5 h k1a k2a (by omega) (by omega)) h
