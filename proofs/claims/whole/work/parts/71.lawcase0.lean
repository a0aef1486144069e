set_option maxRecDepth 20000 in
set_option maxHeartbeats 4000000 in
theorem l_0 {Z : hZ} {Q : State → Prop} {cs ss L0 sb i : Nat} {xs : Nat → Int32} {X M : hMem} (hz : cOK Z cL_law RL 4 100 600000 7302250 0 ret) (hX : va_X sb L0 xs (h_s Z) (h_s Z).heap) (hbl : sb < (h_s Z).heap.size) (hL : L0 ≤ 3584) (hi : i + 7 ≤ L0) (hcs : cs ≤ 600000) (hss : ss ≤ 7302250) (R : RR X M) (kk : ∀ X' M' : hMem, RR X' M' → hB Z Q (cW Z X' M') cs ss 2111 [(3, .int (nI i)), (2, .ref (h_b Z + 88 + 0)), (1, .ref (h_b Z + 0)), (0, .ref sb)] []) : hB Z Q (cW Z X M) cs ss 248 [(3, .int (nI i)), (2, .ref (h_b Z + 88 + 0)), (1, .ref (h_b Z + 0)), (0, .ref sb)] [] := by
  have h1 : vp_in (nI i + 1) L0 := l_in hi hL (k := 1) (by decide)
  have h2 : vp_in (nI i + 2) L0 := l_in hi hL (k := 2) (by decide)
  have h3 : vp_in (nI i + 3) L0 := l_in hi hL (k := 3) (by decide)
  obtain ⟨v, X', M', e1, e2, R'⟩ := eq_street R (xs (nI i + 1).toNatClampNeg) (xs (nI i + 2).toNatClampNeg) (xs (nI i + 3).toNatClampNeg)
  refine v_aload_n hz.1 dL_law_248 rfl 2 rfl ?_
  refine v_aload_n hz.1 dL_law_249 rfl 3 rfl ?_
  refine v_iload_n hz.1 dL_law_250 rfl 0 rfl ?_
  refine v_iconst hz.1 1 dL_law_251 rfl ?_
  refine v_iadd hz.1 dL_law_252 ?_
  refine l_sld hz hX hbl h1 dL_law_253 ?_
  refine v_aload_n hz.1 dL_law_254 rfl 3 rfl ?_
  refine v_iload_n hz.1 dL_law_255 rfl 0 rfl ?_
  refine v_iconst hz.1 2 dL_law_256 rfl ?_
  refine v_iadd hz.1 dL_law_257 ?_
  refine l_sld hz hX hbl h2 dL_law_258 ?_
  refine v_aload_n hz.1 dL_law_259 rfl 3 rfl ?_
  refine v_iload_n hz.1 dL_law_260 rfl 0 rfl ?_
  refine v_iconst hz.1 3 dL_law_261 rfl ?_
  refine v_iadd hz.1 dL_law_262 ?_
  refine l_sld hz hX hbl h3 dL_law_263 ?_
  refine l_callX hz mv_L_13 rfl (kX9_street (n := 97) (xs (nI i + 1).toNatClampNeg) (xs (nI i + 2).toNatClampNeg) (xs (nI i + 3).toNatClampNeg) X (v, X') e1) rfl (av := [.int (xs (nI i + 1).toNatClampNeg), .int (xs (nI i + 2).toNatClampNeg), .int (xs (nI i + 3).toNatClampNeg)]) (rest := []) rfl rfl (Nat.le_of_ble_eq_true rfl) dL_law_264 hcs hss ?_
  refine v_aload_n hz.1 dL_law_267 rfl 1 rfl ?_
  refine v_aload_n hz.1 dL_law_268 rfl 3 rfl ?_
  refine v_iload_n hz.1 dL_law_269 rfl 0 rfl ?_
  refine v_iconst hz.1 1 dL_law_270 rfl ?_
  refine v_iadd hz.1 dL_law_271 ?_
  refine l_sld hz hX hbl h1 dL_law_272 ?_
  refine v_aload_n hz.1 dL_law_273 rfl 3 rfl ?_
  refine v_iload_n hz.1 dL_law_274 rfl 0 rfl ?_
  refine v_iconst hz.1 2 dL_law_275 rfl ?_
  refine v_iadd hz.1 dL_law_276 ?_
  refine l_sld hz hX hbl h2 dL_law_277 ?_
  refine v_aload_n hz.1 dL_law_278 rfl 3 rfl ?_
  refine v_iload_n hz.1 dL_law_279 rfl 0 rfl ?_
  refine v_iconst hz.1 3 dL_law_280 rfl ?_
  refine v_iadd hz.1 dL_law_281 ?_
  refine l_sld hz hX hbl h3 dL_law_282 ?_
  refine l_callM hz mv_L_17 rfl (kX10_street (n := 97) (xs (nI i + 1).toNatClampNeg) (xs (nI i + 2).toNatClampNeg) (xs (nI i + 3).toNatClampNeg) M (v, M') e2) rfl (av := [.int (xs (nI i + 1).toNatClampNeg), .int (xs (nI i + 2).toNatClampNeg), .int (xs (nI i + 3).toNatClampNeg)]) (rest := [.int v]) rfl rfl (Nat.le_of_ble_eq_true rfl) dL_law_283 hcs hss ?_
  exact v_icmp_eq hz.1 dL_law_286 (fun _ => kk X' M' R') (fun h => absurd rfl h)
set_option maxRecDepth 20000 in
set_option maxHeartbeats 4000000 in
theorem l_1 {Z : hZ} {Q : State → Prop} {cs ss L0 sb i : Nat} {xs : Nat → Int32} {X M : hMem} (hz : cOK Z cL_law RL 4 100 600000 7302250 0 ret) (hX : va_X sb L0 xs (h_s Z) (h_s Z).heap) (hbl : sb < (h_s Z).heap.size) (hL : L0 ≤ 3584) (hi : i + 7 ≤ L0) (hcs : cs ≤ 600000) (hss : ss ≤ 7302250) (R : RR X M) (kk : ∀ X' M' : hMem, RR X' M' → hB Z Q (cW Z X' M') cs ss 2111 [(3, .int (nI i)), (2, .ref (h_b Z + 88 + 0)), (1, .ref (h_b Z + 0)), (0, .ref sb)] []) : hB Z Q (cW Z X M) cs ss 291 [(3, .int (nI i)), (2, .ref (h_b Z + 88 + 0)), (1, .ref (h_b Z + 0)), (0, .ref sb)] [] := by
  have h1 : vp_in (nI i + 1) L0 := l_in hi hL (k := 1) (by decide)
  have h2 : vp_in (nI i + 2) L0 := l_in hi hL (k := 2) (by decide)
  have h3 : vp_in (nI i + 3) L0 := l_in hi hL (k := 3) (by decide)
  obtain ⟨v, X', M', e1, e2, R'⟩ := eq_blow R (xs (nI i + 1).toNatClampNeg) (xs (nI i + 2).toNatClampNeg) (xs (nI i + 3).toNatClampNeg)
  refine v_aload_n hz.1 dL_law_291 rfl 2 rfl ?_
  refine v_aload_n hz.1 dL_law_292 rfl 3 rfl ?_
  refine v_iload_n hz.1 dL_law_293 rfl 0 rfl ?_
  refine v_iconst hz.1 1 dL_law_294 rfl ?_
  refine v_iadd hz.1 dL_law_295 ?_
  refine l_sld hz hX hbl h1 dL_law_296 ?_
  refine v_aload_n hz.1 dL_law_297 rfl 3 rfl ?_
  refine v_iload_n hz.1 dL_law_298 rfl 0 rfl ?_
  refine v_iconst hz.1 2 dL_law_299 rfl ?_
  refine v_iadd hz.1 dL_law_300 ?_
  refine l_sld hz hX hbl h2 dL_law_301 ?_
  refine v_aload_n hz.1 dL_law_302 rfl 3 rfl ?_
  refine v_iload_n hz.1 dL_law_303 rfl 0 rfl ?_
  refine v_iconst hz.1 3 dL_law_304 rfl ?_
  refine v_iadd hz.1 dL_law_305 ?_
  refine l_sld hz hX hbl h3 dL_law_306 ?_
  refine l_callX hz mv_L_18 rfl (kX9_blow (n := 98) (xs (nI i + 1).toNatClampNeg) (xs (nI i + 2).toNatClampNeg) (xs (nI i + 3).toNatClampNeg) X (v, X') e1) rfl (av := [.int (xs (nI i + 1).toNatClampNeg), .int (xs (nI i + 2).toNatClampNeg), .int (xs (nI i + 3).toNatClampNeg)]) (rest := []) rfl rfl (Nat.le_of_ble_eq_true rfl) dL_law_307 hcs hss ?_
  refine v_aload_n hz.1 dL_law_310 rfl 1 rfl ?_
  refine v_aload_n hz.1 dL_law_311 rfl 3 rfl ?_
  refine v_iload_n hz.1 dL_law_312 rfl 0 rfl ?_
  refine v_iconst hz.1 1 dL_law_313 rfl ?_
  refine v_iadd hz.1 dL_law_314 ?_
  refine l_sld hz hX hbl h1 dL_law_315 ?_
  refine v_aload_n hz.1 dL_law_316 rfl 3 rfl ?_
  refine v_iload_n hz.1 dL_law_317 rfl 0 rfl ?_
  refine v_iconst hz.1 2 dL_law_318 rfl ?_
  refine v_iadd hz.1 dL_law_319 ?_
  refine l_sld hz hX hbl h2 dL_law_320 ?_
  refine v_aload_n hz.1 dL_law_321 rfl 3 rfl ?_
  refine v_iload_n hz.1 dL_law_322 rfl 0 rfl ?_
  refine v_iconst hz.1 3 dL_law_323 rfl ?_
  refine v_iadd hz.1 dL_law_324 ?_
  refine l_sld hz hX hbl h3 dL_law_325 ?_
  refine l_callM hz mv_L_21 rfl (kX10_blow (n := 98) (xs (nI i + 1).toNatClampNeg) (xs (nI i + 2).toNatClampNeg) (xs (nI i + 3).toNatClampNeg) M (v, M') e2) rfl (av := [.int (xs (nI i + 1).toNatClampNeg), .int (xs (nI i + 2).toNatClampNeg), .int (xs (nI i + 3).toNatClampNeg)]) (rest := [.int v]) rfl rfl (Nat.le_of_ble_eq_true rfl) dL_law_326 hcs hss ?_
  exact v_icmp_eq hz.1 dL_law_329 (fun _ => kk X' M' R') (fun h => absurd rfl h)
set_option maxRecDepth 20000 in
set_option maxHeartbeats 4000000 in
theorem l_2 {Z : hZ} {Q : State → Prop} {cs ss L0 sb i : Nat} {xs : Nat → Int32} {X M : hMem} (hz : cOK Z cL_law RL 4 100 600000 7302250 0 ret) (hX : va_X sb L0 xs (h_s Z) (h_s Z).heap) (hbl : sb < (h_s Z).heap.size) (hL : L0 ≤ 3584) (hi : i + 7 ≤ L0) (hcs : cs ≤ 600000) (hss : ss ≤ 7302250) (R : RR X M) (kk : ∀ X' M' : hMem, RR X' M' → hB Z Q (cW Z X' M') cs ss 2111 [(3, .int (nI i)), (2, .ref (h_b Z + 88 + 0)), (1, .ref (h_b Z + 0)), (0, .ref sb)] []) : hB Z Q (cW Z X M) cs ss 334 [(3, .int (nI i)), (2, .ref (h_b Z + 88 + 0)), (1, .ref (h_b Z + 0)), (0, .ref sb)] [] := by
  have h1 : vp_in (nI i + 1) L0 := l_in hi hL (k := 1) (by decide)
  obtain ⟨v, e1, e2⟩ := eq_wind R (xs (nI i + 1).toNatClampNeg)
  refine v_aload_n hz.1 dL_law_334 rfl 2 rfl ?_
  refine v_aload_n hz.1 dL_law_335 rfl 3 rfl ?_
  refine v_iload_n hz.1 dL_law_336 rfl 0 rfl ?_
  refine v_iconst hz.1 1 dL_law_337 rfl ?_
  refine v_iadd hz.1 dL_law_338 ?_
  refine l_sld hz hX hbl h1 dL_law_339 ?_
  refine l_callX hz mv_L_22 rfl (kX9_wind (n := 98) (xs (nI i + 1).toNatClampNeg) X v e1) rfl (av := [.int (xs (nI i + 1).toNatClampNeg)]) (rest := []) rfl rfl (Nat.le_of_ble_eq_true rfl) dL_law_340 hcs hss ?_
  refine v_aload_n hz.1 dL_law_343 rfl 1 rfl ?_
  refine v_aload_n hz.1 dL_law_344 rfl 3 rfl ?_
  refine v_iload_n hz.1 dL_law_345 rfl 0 rfl ?_
  refine v_iconst hz.1 1 dL_law_346 rfl ?_
  refine v_iadd hz.1 dL_law_347 ?_
  refine l_sld hz hX hbl h1 dL_law_348 ?_
  refine l_callM hz mv_L_26 rfl (kX10_wind (n := 98) (xs (nI i + 1).toNatClampNeg) M v e2) rfl (av := [.int (xs (nI i + 1).toNatClampNeg)]) (rest := [.int v]) rfl rfl (Nat.le_of_ble_eq_true rfl) dL_law_349 hcs hss ?_
  exact v_icmp_eq hz.1 dL_law_352 (fun _ => kk X M R) (fun h => absurd rfl h)
set_option maxRecDepth 20000 in
set_option maxHeartbeats 4000000 in
theorem l_3 {Z : hZ} {Q : State → Prop} {cs ss L0 sb i : Nat} {xs : Nat → Int32} {X M : hMem} (hz : cOK Z cL_law RL 4 100 600000 7302250 0 ret) (hX : va_X sb L0 xs (h_s Z) (h_s Z).heap) (hbl : sb < (h_s Z).heap.size) (hL : L0 ≤ 3584) (hi : i + 7 ≤ L0) (hcs : cs ≤ 600000) (hss : ss ≤ 7302250) (R : RR X M) (kk : ∀ X' M' : hMem, RR X' M' → hB Z Q (cW Z X' M') cs ss 2111 [(3, .int (nI i)), (2, .ref (h_b Z + 88 + 0)), (1, .ref (h_b Z + 0)), (0, .ref sb)] []) : hB Z Q (cW Z X M) cs ss 357 [(3, .int (nI i)), (2, .ref (h_b Z + 88 + 0)), (1, .ref (h_b Z + 0)), (0, .ref sb)] [] := by
  have h1 : vp_in (nI i + 1) L0 := l_in hi hL (k := 1) (by decide)
  obtain ⟨v, e1, e2⟩ := eq_count R (xs (nI i + 1).toNatClampNeg)
  refine v_aload_n hz.1 dL_law_357 rfl 2 rfl ?_
  refine v_aload_n hz.1 dL_law_358 rfl 3 rfl ?_
  refine v_iload_n hz.1 dL_law_359 rfl 0 rfl ?_
  refine v_iconst hz.1 1 dL_law_360 rfl ?_
  refine v_iadd hz.1 dL_law_361 ?_
  refine l_sld hz hX hbl h1 dL_law_362 ?_
  refine l_callX hz mv_L_27 rfl (kX9_count (n := 99) (xs (nI i + 1).toNatClampNeg) X) rfl (av := [.int (xs (nI i + 1).toNatClampNeg)]) (rest := []) rfl rfl (Nat.le_of_ble_eq_true rfl) dL_law_363 hcs hss ?_
  refine v_aload_n hz.1 dL_law_366 rfl 1 rfl ?_
  refine v_aload_n hz.1 dL_law_367 rfl 3 rfl ?_
  refine v_iload_n hz.1 dL_law_368 rfl 0 rfl ?_
  refine v_iconst hz.1 1 dL_law_369 rfl ?_
  refine v_iadd hz.1 dL_law_370 ?_
  refine l_sld hz hX hbl h1 dL_law_371 ?_
  refine l_callM hz mv_L_30 rfl (kX10_count (n := 99) (xs (nI i + 1).toNatClampNeg) M v e2) rfl (av := [.int (xs (nI i + 1).toNatClampNeg)]) (rest := [.int (fX9_count (xs (nI i + 1).toNatClampNeg) X)]) rfl rfl (Nat.le_of_ble_eq_true rfl) dL_law_372 hcs hss ?_
  exact v_icmp_eq hz.1 dL_law_375 (fun _ => kk X M R) (fun h => absurd (Option.some.inj e1) h)
set_option maxRecDepth 20000 in
set_option maxHeartbeats 4000000 in
theorem l_4 {Z : hZ} {Q : State → Prop} {cs ss L0 sb i : Nat} {xs : Nat → Int32} {X M : hMem} (hz : cOK Z cL_law RL 4 100 600000 7302250 0 ret) (hX : va_X sb L0 xs (h_s Z) (h_s Z).heap) (hbl : sb < (h_s Z).heap.size) (hL : L0 ≤ 3584) (hi : i + 7 ≤ L0) (hcs : cs ≤ 600000) (hss : ss ≤ 7302250) (R : RR X M) (kk : ∀ X' M' : hMem, RR X' M' → hB Z Q (cW Z X' M') cs ss 2111 [(3, .int (nI i)), (2, .ref (h_b Z + 88 + 0)), (1, .ref (h_b Z + 0)), (0, .ref sb)] []) : hB Z Q (cW Z X M) cs ss 380 [(3, .int (nI i)), (2, .ref (h_b Z + 88 + 0)), (1, .ref (h_b Z + 0)), (0, .ref sb)] [] := by
  have h1 : vp_in (nI i + 1) L0 := l_in hi hL (k := 1) (by decide)
  have h2 : vp_in (nI i + 2) L0 := l_in hi hL (k := 2) (by decide)
  have h3 : vp_in (nI i + 3) L0 := l_in hi hL (k := 3) (by decide)
  have h4 : vp_in (nI i + 4) L0 := l_in hi hL (k := 4) (by decide)
  have h5 : vp_in (nI i + 5) L0 := l_in hi hL (k := 5) (by decide)
  have h6 : vp_in (nI i + 6) L0 := l_in hi hL (k := 6) (by decide)
  obtain ⟨v, X', M', e1, e2, R'⟩ := eq_feed R (xs (nI i + 1).toNatClampNeg) (xs (nI i + 2).toNatClampNeg) (xs (nI i + 3).toNatClampNeg) (xs (nI i + 4).toNatClampNeg) (xs (nI i + 5).toNatClampNeg) (xs (nI i + 6).toNatClampNeg)
  refine v_aload_n hz.1 dL_law_380 rfl 2 rfl ?_
  refine v_aload_n hz.1 dL_law_381 rfl 3 rfl ?_
  refine v_iload_n hz.1 dL_law_382 rfl 0 rfl ?_
  refine v_iconst hz.1 1 dL_law_383 rfl ?_
  refine v_iadd hz.1 dL_law_384 ?_
  refine l_sld hz hX hbl h1 dL_law_385 ?_
  refine v_aload_n hz.1 dL_law_386 rfl 3 rfl ?_
  refine v_iload_n hz.1 dL_law_387 rfl 0 rfl ?_
  refine v_iconst hz.1 2 dL_law_388 rfl ?_
  refine v_iadd hz.1 dL_law_389 ?_
  refine l_sld hz hX hbl h2 dL_law_390 ?_
  refine v_aload_n hz.1 dL_law_391 rfl 3 rfl ?_
  refine v_iload_n hz.1 dL_law_392 rfl 0 rfl ?_
  refine v_iconst hz.1 3 dL_law_393 rfl ?_
  refine v_iadd hz.1 dL_law_394 ?_
  refine l_sld hz hX hbl h3 dL_law_395 ?_
  refine v_aload_n hz.1 dL_law_396 rfl 3 rfl ?_
  refine v_iload_n hz.1 dL_law_397 rfl 0 rfl ?_
  refine v_iconst hz.1 4 dL_law_398 rfl ?_
  refine v_iadd hz.1 dL_law_399 ?_
  refine l_sld hz hX hbl h4 dL_law_400 ?_
  refine v_aload_n hz.1 dL_law_401 rfl 3 rfl ?_
  refine v_iload_n hz.1 dL_law_402 rfl 0 rfl ?_
  refine v_iconst hz.1 5 dL_law_403 rfl ?_
  refine v_iadd hz.1 dL_law_404 ?_
  refine l_sld hz hX hbl h5 dL_law_405 ?_
  refine v_aload_n hz.1 dL_law_406 rfl 3 rfl ?_
  refine v_iload_n hz.1 dL_law_407 rfl 0 rfl ?_
  refine v_bipush hz.1 6 dL_law_408 rfl ?_
  refine v_iadd hz.1 dL_law_410 ?_
  refine l_sld hz hX hbl h6 dL_law_411 ?_
  refine l_callX hz mv_L_31 rfl (kX9_feed (n := 98) (xs (nI i + 1).toNatClampNeg) (xs (nI i + 2).toNatClampNeg) (xs (nI i + 3).toNatClampNeg) (xs (nI i + 4).toNatClampNeg) (xs (nI i + 5).toNatClampNeg) (xs (nI i + 6).toNatClampNeg) X (v, X') e1) rfl (av := [.int (xs (nI i + 1).toNatClampNeg), .int (xs (nI i + 2).toNatClampNeg), .int (xs (nI i + 3).toNatClampNeg), .int (xs (nI i + 4).toNatClampNeg), .int (xs (nI i + 5).toNatClampNeg), .int (xs (nI i + 6).toNatClampNeg)]) (rest := []) rfl rfl (Nat.le_of_ble_eq_true rfl) dL_law_412 hcs hss ?_
  refine v_aload_n hz.1 dL_law_415 rfl 1 rfl ?_
  refine v_aload_n hz.1 dL_law_416 rfl 3 rfl ?_
  refine v_iload_n hz.1 dL_law_417 rfl 0 rfl ?_
  refine v_iconst hz.1 1 dL_law_418 rfl ?_
  refine v_iadd hz.1 dL_law_419 ?_
  refine l_sld hz hX hbl h1 dL_law_420 ?_
  refine v_aload_n hz.1 dL_law_421 rfl 3 rfl ?_
  refine v_iload_n hz.1 dL_law_422 rfl 0 rfl ?_
  refine v_iconst hz.1 2 dL_law_423 rfl ?_
  refine v_iadd hz.1 dL_law_424 ?_
  refine l_sld hz hX hbl h2 dL_law_425 ?_
  refine v_aload_n hz.1 dL_law_426 rfl 3 rfl ?_
  refine v_iload_n hz.1 dL_law_427 rfl 0 rfl ?_
  refine v_iconst hz.1 3 dL_law_428 rfl ?_
  refine v_iadd hz.1 dL_law_429 ?_
  refine l_sld hz hX hbl h3 dL_law_430 ?_
  refine v_aload_n hz.1 dL_law_431 rfl 3 rfl ?_
  refine v_iload_n hz.1 dL_law_432 rfl 0 rfl ?_
  refine v_iconst hz.1 4 dL_law_433 rfl ?_
  refine v_iadd hz.1 dL_law_434 ?_
  refine l_sld hz hX hbl h4 dL_law_435 ?_
  refine v_aload_n hz.1 dL_law_436 rfl 3 rfl ?_
  refine v_iload_n hz.1 dL_law_437 rfl 0 rfl ?_
  refine v_iconst hz.1 5 dL_law_438 rfl ?_
  refine v_iadd hz.1 dL_law_439 ?_
  refine l_sld hz hX hbl h5 dL_law_440 ?_
  refine v_aload_n hz.1 dL_law_441 rfl 3 rfl ?_
  refine v_iload_n hz.1 dL_law_442 rfl 0 rfl ?_
  refine v_bipush hz.1 6 dL_law_443 rfl ?_
  refine v_iadd hz.1 dL_law_445 ?_
  refine l_sld hz hX hbl h6 dL_law_446 ?_
  refine l_callM hz mv_L_35 rfl (kX10_feed (n := 97) (xs (nI i + 1).toNatClampNeg) (xs (nI i + 2).toNatClampNeg) (xs (nI i + 3).toNatClampNeg) (xs (nI i + 4).toNatClampNeg) (xs (nI i + 5).toNatClampNeg) (xs (nI i + 6).toNatClampNeg) M (v, M') e2) rfl (av := [.int (xs (nI i + 1).toNatClampNeg), .int (xs (nI i + 2).toNatClampNeg), .int (xs (nI i + 3).toNatClampNeg), .int (xs (nI i + 4).toNatClampNeg), .int (xs (nI i + 5).toNatClampNeg), .int (xs (nI i + 6).toNatClampNeg)]) (rest := [.int v]) rfl rfl (Nat.le_of_ble_eq_true rfl) dL_law_447 hcs hss ?_
  exact v_icmp_eq hz.1 dL_law_450 (fun _ => kk X' M' R') (fun h => absurd rfl h)
set_option maxRecDepth 20000 in
set_option maxHeartbeats 4000000 in
theorem l_5 {Z : hZ} {Q : State → Prop} {cs ss L0 sb i : Nat} {xs : Nat → Int32} {X M : hMem} (hz : cOK Z cL_law RL 4 100 600000 7302250 0 ret) (hX : va_X sb L0 xs (h_s Z) (h_s Z).heap) (hbl : sb < (h_s Z).heap.size) (hL : L0 ≤ 3584) (hi : i + 7 ≤ L0) (hcs : cs ≤ 600000) (hss : ss ≤ 7302250) (R : RR X M) (kk : ∀ X' M' : hMem, RR X' M' → hB Z Q (cW Z X' M') cs ss 2111 [(3, .int (nI i)), (2, .ref (h_b Z + 88 + 0)), (1, .ref (h_b Z + 0)), (0, .ref sb)] []) : hB Z Q (cW Z X M) cs ss 455 [(3, .int (nI i)), (2, .ref (h_b Z + 88 + 0)), (1, .ref (h_b Z + 0)), (0, .ref sb)] [] := by
  obtain ⟨v, X', M', e1, e2, R'⟩ := eq_text R 
  refine v_aload_n hz.1 dL_law_455 rfl 2 rfl ?_
  refine l_callX hz mv_L_36 rfl (kX9_text (n := 55)  X (v, X') e1) rfl (av := []) (rest := []) rfl rfl (Nat.le_of_ble_eq_true rfl) dL_law_456 hcs hss ?_
  refine v_aload_n hz.1 dL_law_459 rfl 1 rfl ?_
  refine l_callM hz mv_L_40 rfl (kX10_text (n := 95)  M (v, M') e2) rfl (av := []) (rest := [.int v]) rfl rfl (Nat.le_of_ble_eq_true rfl) dL_law_460 hcs hss ?_
  exact v_icmp_eq hz.1 dL_law_463 (fun _ => kk X' M' R') (fun h => absurd rfl h)
set_option maxRecDepth 20000 in
set_option maxHeartbeats 4000000 in
theorem l_6 {Z : hZ} {Q : State → Prop} {cs ss L0 sb i : Nat} {xs : Nat → Int32} {X M : hMem} (hz : cOK Z cL_law RL 4 100 600000 7302250 0 ret) (hX : va_X sb L0 xs (h_s Z) (h_s Z).heap) (hbl : sb < (h_s Z).heap.size) (hL : L0 ≤ 3584) (hi : i + 7 ≤ L0) (hcs : cs ≤ 600000) (hss : ss ≤ 7302250) (R : RR X M) (kk : ∀ X' M' : hMem, RR X' M' → hB Z Q (cW Z X' M') cs ss 2111 [(3, .int (nI i)), (2, .ref (h_b Z + 88 + 0)), (1, .ref (h_b Z + 0)), (0, .ref sb)] []) : hB Z Q (cW Z X M) cs ss 468 [(3, .int (nI i)), (2, .ref (h_b Z + 88 + 0)), (1, .ref (h_b Z + 0)), (0, .ref sb)] [] := by
  have h1 : vp_in (nI i + 1) L0 := l_in hi hL (k := 1) (by decide)
  obtain ⟨v, X', M', e1, e2, R'⟩ := eq_force R (xs (nI i + 1).toNatClampNeg)
  refine v_aload_n hz.1 dL_law_468 rfl 2 rfl ?_
  refine v_aload_n hz.1 dL_law_469 rfl 3 rfl ?_
  refine v_iload_n hz.1 dL_law_470 rfl 0 rfl ?_
  refine v_iconst hz.1 1 dL_law_471 rfl ?_
  refine v_iadd hz.1 dL_law_472 ?_
  refine l_sld hz hX hbl h1 dL_law_473 ?_
  refine l_callX hz mv_L_41 rfl (kX9_force (n := 99) (xs (nI i + 1).toNatClampNeg) X (v, X') e1) rfl (av := [.int (xs (nI i + 1).toNatClampNeg)]) (rest := []) rfl rfl (Nat.le_of_ble_eq_true rfl) dL_law_474 hcs hss ?_
  refine v_aload_n hz.1 dL_law_477 rfl 1 rfl ?_
  refine v_aload_n hz.1 dL_law_478 rfl 3 rfl ?_
  refine v_iload_n hz.1 dL_law_479 rfl 0 rfl ?_
  refine v_iconst hz.1 1 dL_law_480 rfl ?_
  refine v_iadd hz.1 dL_law_481 ?_
  refine l_sld hz hX hbl h1 dL_law_482 ?_
  refine l_callM hz mv_L_44 rfl (kX10_force (n := 98) (xs (nI i + 1).toNatClampNeg) M (v, M') e2) rfl (av := [.int (xs (nI i + 1).toNatClampNeg)]) (rest := [.int v]) rfl rfl (Nat.le_of_ble_eq_true rfl) dL_law_483 hcs hss ?_
  exact v_icmp_eq hz.1 dL_law_486 (fun _ => kk X' M' R') (fun h => absurd rfl h)
set_option maxRecDepth 20000 in
set_option maxHeartbeats 4000000 in
theorem l_7 {Z : hZ} {Q : State → Prop} {cs ss L0 sb i : Nat} {xs : Nat → Int32} {X M : hMem} (hz : cOK Z cL_law RL 4 100 600000 7302250 0 ret) (hX : va_X sb L0 xs (h_s Z) (h_s Z).heap) (hbl : sb < (h_s Z).heap.size) (hL : L0 ≤ 3584) (hi : i + 7 ≤ L0) (hcs : cs ≤ 600000) (hss : ss ≤ 7302250) (R : RR X M) (kk : ∀ X' M' : hMem, RR X' M' → hB Z Q (cW Z X' M') cs ss 2111 [(3, .int (nI i)), (2, .ref (h_b Z + 88 + 0)), (1, .ref (h_b Z + 0)), (0, .ref sb)] []) : hB Z Q (cW Z X M) cs ss 491 [(3, .int (nI i)), (2, .ref (h_b Z + 88 + 0)), (1, .ref (h_b Z + 0)), (0, .ref sb)] [] := by
  have h1 : vp_in (nI i + 1) L0 := l_in hi hL (k := 1) (by decide)
  have h2 : vp_in (nI i + 2) L0 := l_in hi hL (k := 2) (by decide)
  have h3 : vp_in (nI i + 3) L0 := l_in hi hL (k := 3) (by decide)
  have h4 : vp_in (nI i + 4) L0 := l_in hi hL (k := 4) (by decide)
  have h5 : vp_in (nI i + 5) L0 := l_in hi hL (k := 5) (by decide)
  obtain ⟨v, X', M', e1, e2, R'⟩ := eq_asks R (xs (nI i + 1).toNatClampNeg) (xs (nI i + 2).toNatClampNeg) (xs (nI i + 3).toNatClampNeg) (xs (nI i + 4).toNatClampNeg) (xs (nI i + 5).toNatClampNeg)
  refine v_aload_n hz.1 dL_law_491 rfl 2 rfl ?_
  refine v_aload_n hz.1 dL_law_492 rfl 3 rfl ?_
  refine v_iload_n hz.1 dL_law_493 rfl 0 rfl ?_
  refine v_iconst hz.1 1 dL_law_494 rfl ?_
  refine v_iadd hz.1 dL_law_495 ?_
  refine l_sld hz hX hbl h1 dL_law_496 ?_
  refine v_aload_n hz.1 dL_law_497 rfl 3 rfl ?_
  refine v_iload_n hz.1 dL_law_498 rfl 0 rfl ?_
  refine v_iconst hz.1 2 dL_law_499 rfl ?_
  refine v_iadd hz.1 dL_law_500 ?_
  refine l_sld hz hX hbl h2 dL_law_501 ?_
  refine v_aload_n hz.1 dL_law_502 rfl 3 rfl ?_
  refine v_iload_n hz.1 dL_law_503 rfl 0 rfl ?_
  refine v_iconst hz.1 3 dL_law_504 rfl ?_
  refine v_iadd hz.1 dL_law_505 ?_
  refine l_sld hz hX hbl h3 dL_law_506 ?_
  refine v_aload_n hz.1 dL_law_507 rfl 3 rfl ?_
  refine v_iload_n hz.1 dL_law_508 rfl 0 rfl ?_
  refine v_iconst hz.1 4 dL_law_509 rfl ?_
  refine v_iadd hz.1 dL_law_510 ?_
  refine l_sld hz hX hbl h4 dL_law_511 ?_
  refine v_aload_n hz.1 dL_law_512 rfl 3 rfl ?_
  refine v_iload_n hz.1 dL_law_513 rfl 0 rfl ?_
  refine v_iconst hz.1 5 dL_law_514 rfl ?_
  refine v_iadd hz.1 dL_law_515 ?_
  refine l_sld hz hX hbl h5 dL_law_516 ?_
  refine l_callX hz mv_L_45 rfl (kX9_asks (n := 96) (xs (nI i + 1).toNatClampNeg) (xs (nI i + 2).toNatClampNeg) (xs (nI i + 3).toNatClampNeg) (xs (nI i + 4).toNatClampNeg) (xs (nI i + 5).toNatClampNeg) X (v, X') e1) rfl (av := [.int (xs (nI i + 1).toNatClampNeg), .int (xs (nI i + 2).toNatClampNeg), .int (xs (nI i + 3).toNatClampNeg), .int (xs (nI i + 4).toNatClampNeg), .int (xs (nI i + 5).toNatClampNeg)]) (rest := []) rfl rfl (Nat.le_of_ble_eq_true rfl) dL_law_517 hcs hss ?_
  refine v_aload_n hz.1 dL_law_520 rfl 1 rfl ?_
  refine v_aload_n hz.1 dL_law_521 rfl 3 rfl ?_
  refine v_iload_n hz.1 dL_law_522 rfl 0 rfl ?_
  refine v_iconst hz.1 1 dL_law_523 rfl ?_
  refine v_iadd hz.1 dL_law_524 ?_
  refine l_sld hz hX hbl h1 dL_law_525 ?_
  refine v_aload_n hz.1 dL_law_526 rfl 3 rfl ?_
  refine v_iload_n hz.1 dL_law_527 rfl 0 rfl ?_
  refine v_iconst hz.1 2 dL_law_528 rfl ?_
  refine v_iadd hz.1 dL_law_529 ?_
  refine l_sld hz hX hbl h2 dL_law_530 ?_
  refine v_aload_n hz.1 dL_law_531 rfl 3 rfl ?_
  refine v_iload_n hz.1 dL_law_532 rfl 0 rfl ?_
  refine v_iconst hz.1 3 dL_law_533 rfl ?_
  refine v_iadd hz.1 dL_law_534 ?_
  refine l_sld hz hX hbl h3 dL_law_535 ?_
  refine v_aload_n hz.1 dL_law_536 rfl 3 rfl ?_
  refine v_iload_n hz.1 dL_law_537 rfl 0 rfl ?_
  refine v_iconst hz.1 4 dL_law_538 rfl ?_
  refine v_iadd hz.1 dL_law_539 ?_
  refine l_sld hz hX hbl h4 dL_law_540 ?_
  refine v_aload_n hz.1 dL_law_541 rfl 3 rfl ?_
  refine v_iload_n hz.1 dL_law_542 rfl 0 rfl ?_
  refine v_iconst hz.1 5 dL_law_543 rfl ?_
  refine v_iadd hz.1 dL_law_544 ?_
  refine l_sld hz hX hbl h5 dL_law_545 ?_
  refine l_callM hz mv_L_49 rfl (kX10_asks (n := 96) (xs (nI i + 1).toNatClampNeg) (xs (nI i + 2).toNatClampNeg) (xs (nI i + 3).toNatClampNeg) (xs (nI i + 4).toNatClampNeg) (xs (nI i + 5).toNatClampNeg) M (v, M') e2) rfl (av := [.int (xs (nI i + 1).toNatClampNeg), .int (xs (nI i + 2).toNatClampNeg), .int (xs (nI i + 3).toNatClampNeg), .int (xs (nI i + 4).toNatClampNeg), .int (xs (nI i + 5).toNatClampNeg)]) (rest := [.int v]) rfl rfl (Nat.le_of_ble_eq_true rfl) dL_law_546 hcs hss ?_
  exact v_icmp_eq hz.1 dL_law_549 (fun _ => kk X' M' R') (fun h => absurd rfl h)
set_option maxRecDepth 20000 in
set_option maxHeartbeats 4000000 in
theorem l_8 {Z : hZ} {Q : State → Prop} {cs ss L0 sb i : Nat} {xs : Nat → Int32} {X M : hMem} (hz : cOK Z cL_law RL 4 100 600000 7302250 0 ret) (hX : va_X sb L0 xs (h_s Z) (h_s Z).heap) (hbl : sb < (h_s Z).heap.size) (hL : L0 ≤ 3584) (hi : i + 7 ≤ L0) (hcs : cs ≤ 600000) (hss : ss ≤ 7302250) (R : RR X M) (kk : ∀ X' M' : hMem, RR X' M' → hB Z Q (cW Z X' M') cs ss 2111 [(3, .int (nI i)), (2, .ref (h_b Z + 88 + 0)), (1, .ref (h_b Z + 0)), (0, .ref sb)] []) : hB Z Q (cW Z X M) cs ss 554 [(3, .int (nI i)), (2, .ref (h_b Z + 88 + 0)), (1, .ref (h_b Z + 0)), (0, .ref sb)] [] := by
  have h1 : vp_in (nI i + 1) L0 := l_in hi hL (k := 1) (by decide)
  have h2 : vp_in (nI i + 2) L0 := l_in hi hL (k := 2) (by decide)
  have h3 : vp_in (nI i + 3) L0 := l_in hi hL (k := 3) (by decide)
  obtain ⟨v, X', M', e1, e2, R'⟩ := eq_hat R (xs (nI i + 1).toNatClampNeg) (xs (nI i + 2).toNatClampNeg) (xs (nI i + 3).toNatClampNeg)
  refine v_aload_n hz.1 dL_law_554 rfl 2 rfl ?_
  refine v_aload_n hz.1 dL_law_555 rfl 3 rfl ?_
  refine v_iload_n hz.1 dL_law_556 rfl 0 rfl ?_
  refine v_iconst hz.1 1 dL_law_557 rfl ?_
  refine v_iadd hz.1 dL_law_558 ?_
  refine l_sld hz hX hbl h1 dL_law_559 ?_
  refine v_aload_n hz.1 dL_law_560 rfl 3 rfl ?_
  refine v_iload_n hz.1 dL_law_561 rfl 0 rfl ?_
  refine v_iconst hz.1 2 dL_law_562 rfl ?_
  refine v_iadd hz.1 dL_law_563 ?_
  refine l_sld hz hX hbl h2 dL_law_564 ?_
  refine v_aload_n hz.1 dL_law_565 rfl 3 rfl ?_
  refine v_iload_n hz.1 dL_law_566 rfl 0 rfl ?_
  refine v_iconst hz.1 3 dL_law_567 rfl ?_
  refine v_iadd hz.1 dL_law_568 ?_
  refine l_sld hz hX hbl h3 dL_law_569 ?_
  refine l_callX hz mv_L_50 rfl (kX9_hat (n := 97) (xs (nI i + 1).toNatClampNeg) (xs (nI i + 2).toNatClampNeg) (xs (nI i + 3).toNatClampNeg) X (v, X') e1) rfl (av := [.int (xs (nI i + 1).toNatClampNeg), .int (xs (nI i + 2).toNatClampNeg), .int (xs (nI i + 3).toNatClampNeg)]) (rest := []) rfl rfl (Nat.le_of_ble_eq_true rfl) dL_law_570 hcs hss ?_
  refine v_aload_n hz.1 dL_law_573 rfl 1 rfl ?_
  refine v_aload_n hz.1 dL_law_574 rfl 3 rfl ?_
  refine v_iload_n hz.1 dL_law_575 rfl 0 rfl ?_
  refine v_iconst hz.1 1 dL_law_576 rfl ?_
  refine v_iadd hz.1 dL_law_577 ?_
  refine l_sld hz hX hbl h1 dL_law_578 ?_
  refine v_aload_n hz.1 dL_law_579 rfl 3 rfl ?_
  refine v_iload_n hz.1 dL_law_580 rfl 0 rfl ?_
  refine v_iconst hz.1 2 dL_law_581 rfl ?_
  refine v_iadd hz.1 dL_law_582 ?_
  refine l_sld hz hX hbl h2 dL_law_583 ?_
  refine v_aload_n hz.1 dL_law_584 rfl 3 rfl ?_
  refine v_iload_n hz.1 dL_law_585 rfl 0 rfl ?_
  refine v_iconst hz.1 3 dL_law_586 rfl ?_
  refine v_iadd hz.1 dL_law_587 ?_
  refine l_sld hz hX hbl h3 dL_law_588 ?_
  refine l_callM hz mv_L_53 rfl (kX10_hat (n := 96) (xs (nI i + 1).toNatClampNeg) (xs (nI i + 2).toNatClampNeg) (xs (nI i + 3).toNatClampNeg) M (v, M') e2) rfl (av := [.int (xs (nI i + 1).toNatClampNeg), .int (xs (nI i + 2).toNatClampNeg), .int (xs (nI i + 3).toNatClampNeg)]) (rest := [.int v]) rfl rfl (Nat.le_of_ble_eq_true rfl) dL_law_589 hcs hss ?_
  exact v_icmp_eq hz.1 dL_law_592 (fun _ => kk X' M' R') (fun h => absurd rfl h)
set_option maxRecDepth 20000 in
set_option maxHeartbeats 4000000 in
theorem l_9 {Z : hZ} {Q : State → Prop} {cs ss L0 sb i : Nat} {xs : Nat → Int32} {X M : hMem} (hz : cOK Z cL_law RL 4 100 600000 7302250 0 ret) (hX : va_X sb L0 xs (h_s Z) (h_s Z).heap) (hbl : sb < (h_s Z).heap.size) (hL : L0 ≤ 3584) (hi : i + 7 ≤ L0) (hcs : cs ≤ 600000) (hss : ss ≤ 7302250) (R : RR X M) (kk : ∀ X' M' : hMem, RR X' M' → hB Z Q (cW Z X' M') cs ss 2111 [(3, .int (nI i)), (2, .ref (h_b Z + 88 + 0)), (1, .ref (h_b Z + 0)), (0, .ref sb)] []) : hB Z Q (cW Z X M) cs ss 597 [(3, .int (nI i)), (2, .ref (h_b Z + 88 + 0)), (1, .ref (h_b Z + 0)), (0, .ref sb)] [] := by
  have h1 : vp_in (nI i + 1) L0 := l_in hi hL (k := 1) (by decide)
  have h2 : vp_in (nI i + 2) L0 := l_in hi hL (k := 2) (by decide)
  have h3 : vp_in (nI i + 3) L0 := l_in hi hL (k := 3) (by decide)
  obtain ⟨v, X', M', e1, e2, R'⟩ := eq_set R (xs (nI i + 1).toNatClampNeg) (xs (nI i + 2).toNatClampNeg) (xs (nI i + 3).toNatClampNeg)
  refine v_aload_n hz.1 dL_law_597 rfl 2 rfl ?_
  refine v_aload_n hz.1 dL_law_598 rfl 3 rfl ?_
  refine v_iload_n hz.1 dL_law_599 rfl 0 rfl ?_
  refine v_iconst hz.1 1 dL_law_600 rfl ?_
  refine v_iadd hz.1 dL_law_601 ?_
  refine l_sld hz hX hbl h1 dL_law_602 ?_
  refine v_aload_n hz.1 dL_law_603 rfl 3 rfl ?_
  refine v_iload_n hz.1 dL_law_604 rfl 0 rfl ?_
  refine v_iconst hz.1 2 dL_law_605 rfl ?_
  refine v_iadd hz.1 dL_law_606 ?_
  refine l_sld hz hX hbl h2 dL_law_607 ?_
  refine v_aload_n hz.1 dL_law_608 rfl 3 rfl ?_
  refine v_iload_n hz.1 dL_law_609 rfl 0 rfl ?_
  refine v_iconst hz.1 3 dL_law_610 rfl ?_
  refine v_iadd hz.1 dL_law_611 ?_
  refine l_sld hz hX hbl h3 dL_law_612 ?_
  refine l_callX hz mv_L_54 rfl (kX9_set (n := 97) (xs (nI i + 1).toNatClampNeg) (xs (nI i + 2).toNatClampNeg) (xs (nI i + 3).toNatClampNeg) X (v, X') e1) rfl (av := [.int (xs (nI i + 1).toNatClampNeg), .int (xs (nI i + 2).toNatClampNeg), .int (xs (nI i + 3).toNatClampNeg)]) (rest := []) rfl rfl (Nat.le_of_ble_eq_true rfl) dL_law_613 hcs hss ?_
  refine v_aload_n hz.1 dL_law_616 rfl 1 rfl ?_
  refine v_aload_n hz.1 dL_law_617 rfl 3 rfl ?_
  refine v_iload_n hz.1 dL_law_618 rfl 0 rfl ?_
  refine v_iconst hz.1 1 dL_law_619 rfl ?_
  refine v_iadd hz.1 dL_law_620 ?_
  refine l_sld hz hX hbl h1 dL_law_621 ?_
  refine v_aload_n hz.1 dL_law_622 rfl 3 rfl ?_
  refine v_iload_n hz.1 dL_law_623 rfl 0 rfl ?_
  refine v_iconst hz.1 2 dL_law_624 rfl ?_
  refine v_iadd hz.1 dL_law_625 ?_
  refine l_sld hz hX hbl h2 dL_law_626 ?_
  refine v_aload_n hz.1 dL_law_627 rfl 3 rfl ?_
  refine v_iload_n hz.1 dL_law_628 rfl 0 rfl ?_
  refine v_iconst hz.1 3 dL_law_629 rfl ?_
  refine v_iadd hz.1 dL_law_630 ?_
  refine l_sld hz hX hbl h3 dL_law_631 ?_
  refine l_callM hz mv_L_57 rfl (kX10_set (n := 96) (xs (nI i + 1).toNatClampNeg) (xs (nI i + 2).toNatClampNeg) (xs (nI i + 3).toNatClampNeg) M (v, M') e2) rfl (av := [.int (xs (nI i + 1).toNatClampNeg), .int (xs (nI i + 2).toNatClampNeg), .int (xs (nI i + 3).toNatClampNeg)]) (rest := [.int v]) rfl rfl (Nat.le_of_ble_eq_true rfl) dL_law_632 hcs hss ?_
  exact v_icmp_eq hz.1 dL_law_635 (fun _ => kk X' M' R') (fun h => absurd rfl h)
set_option maxRecDepth 20000 in
set_option maxHeartbeats 4000000 in
theorem l_10 {Z : hZ} {Q : State → Prop} {cs ss L0 sb i : Nat} {xs : Nat → Int32} {X M : hMem} (hz : cOK Z cL_law RL 4 100 600000 7302250 0 ret) (hX : va_X sb L0 xs (h_s Z) (h_s Z).heap) (hbl : sb < (h_s Z).heap.size) (hL : L0 ≤ 3584) (hi : i + 7 ≤ L0) (hcs : cs ≤ 600000) (hss : ss ≤ 7302250) (R : RR X M) (kk : ∀ X' M' : hMem, RR X' M' → hB Z Q (cW Z X' M') cs ss 2111 [(3, .int (nI i)), (2, .ref (h_b Z + 88 + 0)), (1, .ref (h_b Z + 0)), (0, .ref sb)] []) : hB Z Q (cW Z X M) cs ss 640 [(3, .int (nI i)), (2, .ref (h_b Z + 88 + 0)), (1, .ref (h_b Z + 0)), (0, .ref sb)] [] := by
  have h1 : vp_in (nI i + 1) L0 := l_in hi hL (k := 1) (by decide)
  have h2 : vp_in (nI i + 2) L0 := l_in hi hL (k := 2) (by decide)
  obtain ⟨v, e1, e2⟩ := eq_told R (xs (nI i + 1).toNatClampNeg) (xs (nI i + 2).toNatClampNeg)
  refine v_aload_n hz.1 dL_law_640 rfl 2 rfl ?_
  refine v_aload_n hz.1 dL_law_641 rfl 3 rfl ?_
  refine v_iload_n hz.1 dL_law_642 rfl 0 rfl ?_
  refine v_iconst hz.1 1 dL_law_643 rfl ?_
  refine v_iadd hz.1 dL_law_644 ?_
  refine l_sld hz hX hbl h1 dL_law_645 ?_
  refine v_aload_n hz.1 dL_law_646 rfl 3 rfl ?_
  refine v_iload_n hz.1 dL_law_647 rfl 0 rfl ?_
  refine v_iconst hz.1 2 dL_law_648 rfl ?_
  refine v_iadd hz.1 dL_law_649 ?_
  refine l_sld hz hX hbl h2 dL_law_650 ?_
  refine l_callX hz mv_L_58 rfl (kX9_told (n := 98) (xs (nI i + 1).toNatClampNeg) (xs (nI i + 2).toNatClampNeg) X v e1) rfl (av := [.int (xs (nI i + 1).toNatClampNeg), .int (xs (nI i + 2).toNatClampNeg)]) (rest := []) rfl rfl (Nat.le_of_ble_eq_true rfl) dL_law_651 hcs hss ?_
  refine v_aload_n hz.1 dL_law_654 rfl 1 rfl ?_
  refine v_aload_n hz.1 dL_law_655 rfl 3 rfl ?_
  refine v_iload_n hz.1 dL_law_656 rfl 0 rfl ?_
  refine v_iconst hz.1 1 dL_law_657 rfl ?_
  refine v_iadd hz.1 dL_law_658 ?_
  refine l_sld hz hX hbl h1 dL_law_659 ?_
  refine v_aload_n hz.1 dL_law_660 rfl 3 rfl ?_
  refine v_iload_n hz.1 dL_law_661 rfl 0 rfl ?_
  refine v_iconst hz.1 2 dL_law_662 rfl ?_
  refine v_iadd hz.1 dL_law_663 ?_
  refine l_sld hz hX hbl h2 dL_law_664 ?_
  refine l_callM hz mv_L_62 rfl (kX10_told (n := 97) (xs (nI i + 1).toNatClampNeg) (xs (nI i + 2).toNatClampNeg) M v e2) rfl (av := [.int (xs (nI i + 1).toNatClampNeg), .int (xs (nI i + 2).toNatClampNeg)]) (rest := [.int v]) rfl rfl (Nat.le_of_ble_eq_true rfl) dL_law_665 hcs hss ?_
  exact v_icmp_eq hz.1 dL_law_668 (fun _ => kk X M R) (fun h => absurd rfl h)
set_option maxRecDepth 20000 in
set_option maxHeartbeats 4000000 in
theorem l_11 {Z : hZ} {Q : State → Prop} {cs ss L0 sb i : Nat} {xs : Nat → Int32} {X M : hMem} (hz : cOK Z cL_law RL 4 100 600000 7302250 0 ret) (hX : va_X sb L0 xs (h_s Z) (h_s Z).heap) (hbl : sb < (h_s Z).heap.size) (hL : L0 ≤ 3584) (hi : i + 7 ≤ L0) (hcs : cs ≤ 600000) (hss : ss ≤ 7302250) (R : RR X M) (kk : ∀ X' M' : hMem, RR X' M' → hB Z Q (cW Z X' M') cs ss 2111 [(3, .int (nI i)), (2, .ref (h_b Z + 88 + 0)), (1, .ref (h_b Z + 0)), (0, .ref sb)] []) : hB Z Q (cW Z X M) cs ss 673 [(3, .int (nI i)), (2, .ref (h_b Z + 88 + 0)), (1, .ref (h_b Z + 0)), (0, .ref sb)] [] := by
  have h1 : vp_in (nI i + 1) L0 := l_in hi hL (k := 1) (by decide)
  have h2 : vp_in (nI i + 2) L0 := l_in hi hL (k := 2) (by decide)
  have h3 : vp_in (nI i + 3) L0 := l_in hi hL (k := 3) (by decide)
  obtain ⟨v, X', M', e1, e2, R'⟩ := eq_come R (xs (nI i + 1).toNatClampNeg) (xs (nI i + 2).toNatClampNeg) (xs (nI i + 3).toNatClampNeg)
  refine v_aload_n hz.1 dL_law_673 rfl 2 rfl ?_
  refine v_aload_n hz.1 dL_law_674 rfl 3 rfl ?_
  refine v_iload_n hz.1 dL_law_675 rfl 0 rfl ?_
  refine v_iconst hz.1 1 dL_law_676 rfl ?_
  refine v_iadd hz.1 dL_law_677 ?_
  refine l_sld hz hX hbl h1 dL_law_678 ?_
  refine v_aload_n hz.1 dL_law_679 rfl 3 rfl ?_
  refine v_iload_n hz.1 dL_law_680 rfl 0 rfl ?_
  refine v_iconst hz.1 2 dL_law_681 rfl ?_
  refine v_iadd hz.1 dL_law_682 ?_
  refine l_sld hz hX hbl h2 dL_law_683 ?_
  refine v_aload_n hz.1 dL_law_684 rfl 3 rfl ?_
  refine v_iload_n hz.1 dL_law_685 rfl 0 rfl ?_
  refine v_iconst hz.1 3 dL_law_686 rfl ?_
  refine v_iadd hz.1 dL_law_687 ?_
  refine l_sld hz hX hbl h3 dL_law_688 ?_
  refine l_callX hz mv_L_63 rfl (kX9_come (n := 97) (xs (nI i + 1).toNatClampNeg) (xs (nI i + 2).toNatClampNeg) (xs (nI i + 3).toNatClampNeg) X (v, X') e1) rfl (av := [.int (xs (nI i + 1).toNatClampNeg), .int (xs (nI i + 2).toNatClampNeg), .int (xs (nI i + 3).toNatClampNeg)]) (rest := []) rfl rfl (Nat.le_of_ble_eq_true rfl) dL_law_689 hcs hss ?_
  refine v_aload_n hz.1 dL_law_692 rfl 1 rfl ?_
  refine v_aload_n hz.1 dL_law_693 rfl 3 rfl ?_
  refine v_iload_n hz.1 dL_law_694 rfl 0 rfl ?_
  refine v_iconst hz.1 1 dL_law_695 rfl ?_
  refine v_iadd hz.1 dL_law_696 ?_
  refine l_sld hz hX hbl h1 dL_law_697 ?_
  refine v_aload_n hz.1 dL_law_698 rfl 3 rfl ?_
  refine v_iload_n hz.1 dL_law_699 rfl 0 rfl ?_
  refine v_iconst hz.1 2 dL_law_700 rfl ?_
  refine v_iadd hz.1 dL_law_701 ?_
  refine l_sld hz hX hbl h2 dL_law_702 ?_
  refine v_aload_n hz.1 dL_law_703 rfl 3 rfl ?_
  refine v_iload_n hz.1 dL_law_704 rfl 0 rfl ?_
  refine v_iconst hz.1 3 dL_law_705 rfl ?_
  refine v_iadd hz.1 dL_law_706 ?_
  refine l_sld hz hX hbl h3 dL_law_707 ?_
  refine l_callM hz mv_L_66 rfl (kX10_come (n := 96) (xs (nI i + 1).toNatClampNeg) (xs (nI i + 2).toNatClampNeg) (xs (nI i + 3).toNatClampNeg) M (v, M') e2) rfl (av := [.int (xs (nI i + 1).toNatClampNeg), .int (xs (nI i + 2).toNatClampNeg), .int (xs (nI i + 3).toNatClampNeg)]) (rest := [.int v]) rfl rfl (Nat.le_of_ble_eq_true rfl) dL_law_708 hcs hss ?_
  exact v_icmp_eq hz.1 dL_law_711 (fun _ => kk X' M' R') (fun h => absurd rfl h)
set_option maxRecDepth 20000 in
set_option maxHeartbeats 4000000 in
theorem l_12 {Z : hZ} {Q : State → Prop} {cs ss L0 sb i : Nat} {xs : Nat → Int32} {X M : hMem} (hz : cOK Z cL_law RL 4 100 600000 7302250 0 ret) (hX : va_X sb L0 xs (h_s Z) (h_s Z).heap) (hbl : sb < (h_s Z).heap.size) (hL : L0 ≤ 3584) (hi : i + 7 ≤ L0) (hcs : cs ≤ 600000) (hss : ss ≤ 7302250) (R : RR X M) (kk : ∀ X' M' : hMem, RR X' M' → hB Z Q (cW Z X' M') cs ss 2111 [(3, .int (nI i)), (2, .ref (h_b Z + 88 + 0)), (1, .ref (h_b Z + 0)), (0, .ref sb)] []) : hB Z Q (cW Z X M) cs ss 716 [(3, .int (nI i)), (2, .ref (h_b Z + 88 + 0)), (1, .ref (h_b Z + 0)), (0, .ref sb)] [] := by
  have h1 : vp_in (nI i + 1) L0 := l_in hi hL (k := 1) (by decide)
  have h2 : vp_in (nI i + 2) L0 := l_in hi hL (k := 2) (by decide)
  have h3 : vp_in (nI i + 3) L0 := l_in hi hL (k := 3) (by decide)
  obtain ⟨v, X', M', e1, e2, R'⟩ := eq_does R (xs (nI i + 1).toNatClampNeg) (xs (nI i + 2).toNatClampNeg) (xs (nI i + 3).toNatClampNeg)
  refine v_aload_n hz.1 dL_law_716 rfl 2 rfl ?_
  refine v_aload_n hz.1 dL_law_717 rfl 3 rfl ?_
  refine v_iload_n hz.1 dL_law_718 rfl 0 rfl ?_
  refine v_iconst hz.1 1 dL_law_719 rfl ?_
  refine v_iadd hz.1 dL_law_720 ?_
  refine l_sld hz hX hbl h1 dL_law_721 ?_
  refine v_aload_n hz.1 dL_law_722 rfl 3 rfl ?_
  refine v_iload_n hz.1 dL_law_723 rfl 0 rfl ?_
  refine v_iconst hz.1 2 dL_law_724 rfl ?_
  refine v_iadd hz.1 dL_law_725 ?_
  refine l_sld hz hX hbl h2 dL_law_726 ?_
  refine v_aload_n hz.1 dL_law_727 rfl 3 rfl ?_
  refine v_iload_n hz.1 dL_law_728 rfl 0 rfl ?_
  refine v_iconst hz.1 3 dL_law_729 rfl ?_
  refine v_iadd hz.1 dL_law_730 ?_
  refine l_sld hz hX hbl h3 dL_law_731 ?_
  refine l_callX hz mv_L_67 rfl (kX9_does (n := 97) (xs (nI i + 1).toNatClampNeg) (xs (nI i + 2).toNatClampNeg) (xs (nI i + 3).toNatClampNeg) X (v, X') e1) rfl (av := [.int (xs (nI i + 1).toNatClampNeg), .int (xs (nI i + 2).toNatClampNeg), .int (xs (nI i + 3).toNatClampNeg)]) (rest := []) rfl rfl (Nat.le_of_ble_eq_true rfl) dL_law_732 hcs hss ?_
  refine v_aload_n hz.1 dL_law_735 rfl 1 rfl ?_
  refine v_aload_n hz.1 dL_law_736 rfl 3 rfl ?_
  refine v_iload_n hz.1 dL_law_737 rfl 0 rfl ?_
  refine v_iconst hz.1 1 dL_law_738 rfl ?_
  refine v_iadd hz.1 dL_law_739 ?_
  refine l_sld hz hX hbl h1 dL_law_740 ?_
  refine v_aload_n hz.1 dL_law_741 rfl 3 rfl ?_
  refine v_iload_n hz.1 dL_law_742 rfl 0 rfl ?_
  refine v_iconst hz.1 2 dL_law_743 rfl ?_
  refine v_iadd hz.1 dL_law_744 ?_
  refine l_sld hz hX hbl h2 dL_law_745 ?_
  refine v_aload_n hz.1 dL_law_746 rfl 3 rfl ?_
  refine v_iload_n hz.1 dL_law_747 rfl 0 rfl ?_
  refine v_iconst hz.1 3 dL_law_748 rfl ?_
  refine v_iadd hz.1 dL_law_749 ?_
  refine l_sld hz hX hbl h3 dL_law_750 ?_
  refine l_callM hz mv_L_70 rfl (kX10_does (n := 96) (xs (nI i + 1).toNatClampNeg) (xs (nI i + 2).toNatClampNeg) (xs (nI i + 3).toNatClampNeg) M (v, M') e2) rfl (av := [.int (xs (nI i + 1).toNatClampNeg), .int (xs (nI i + 2).toNatClampNeg), .int (xs (nI i + 3).toNatClampNeg)]) (rest := [.int v]) rfl rfl (Nat.le_of_ble_eq_true rfl) dL_law_751 hcs hss ?_
  exact v_icmp_eq hz.1 dL_law_754 (fun _ => kk X' M' R') (fun h => absurd rfl h)
set_option maxRecDepth 20000 in
set_option maxHeartbeats 4000000 in
theorem l_13 {Z : hZ} {Q : State → Prop} {cs ss L0 sb i : Nat} {xs : Nat → Int32} {X M : hMem} (hz : cOK Z cL_law RL 4 100 600000 7302250 0 ret) (hX : va_X sb L0 xs (h_s Z) (h_s Z).heap) (hbl : sb < (h_s Z).heap.size) (hL : L0 ≤ 3584) (hi : i + 7 ≤ L0) (hcs : cs ≤ 600000) (hss : ss ≤ 7302250) (R : RR X M) (kk : ∀ X' M' : hMem, RR X' M' → hB Z Q (cW Z X' M') cs ss 2111 [(3, .int (nI i)), (2, .ref (h_b Z + 88 + 0)), (1, .ref (h_b Z + 0)), (0, .ref sb)] []) : hB Z Q (cW Z X M) cs ss 759 [(3, .int (nI i)), (2, .ref (h_b Z + 88 + 0)), (1, .ref (h_b Z + 0)), (0, .ref sb)] [] := by
  have h1 : vp_in (nI i + 1) L0 := l_in hi hL (k := 1) (by decide)
  have h2 : vp_in (nI i + 2) L0 := l_in hi hL (k := 2) (by decide)
  have h3 : vp_in (nI i + 3) L0 := l_in hi hL (k := 3) (by decide)
  obtain ⟨v, X', M', e1, e2, R'⟩ := eq_at R (xs (nI i + 1).toNatClampNeg) (xs (nI i + 2).toNatClampNeg) (xs (nI i + 3).toNatClampNeg)
  refine v_aload_n hz.1 dL_law_759 rfl 2 rfl ?_
  refine v_aload_n hz.1 dL_law_760 rfl 3 rfl ?_
  refine v_iload_n hz.1 dL_law_761 rfl 0 rfl ?_
  refine v_iconst hz.1 1 dL_law_762 rfl ?_
  refine v_iadd hz.1 dL_law_763 ?_
  refine l_sld hz hX hbl h1 dL_law_764 ?_
  refine v_aload_n hz.1 dL_law_765 rfl 3 rfl ?_
  refine v_iload_n hz.1 dL_law_766 rfl 0 rfl ?_
  refine v_iconst hz.1 2 dL_law_767 rfl ?_
  refine v_iadd hz.1 dL_law_768 ?_
  refine l_sld hz hX hbl h2 dL_law_769 ?_
  refine v_aload_n hz.1 dL_law_770 rfl 3 rfl ?_
  refine v_iload_n hz.1 dL_law_771 rfl 0 rfl ?_
  refine v_iconst hz.1 3 dL_law_772 rfl ?_
  refine v_iadd hz.1 dL_law_773 ?_
  refine l_sld hz hX hbl h3 dL_law_774 ?_
  refine l_callX hz mv_L_71 rfl (kX9_at (n := 94) (xs (nI i + 1).toNatClampNeg) (xs (nI i + 2).toNatClampNeg) (xs (nI i + 3).toNatClampNeg) X (v, X') e1) rfl (av := [.int (xs (nI i + 1).toNatClampNeg), .int (xs (nI i + 2).toNatClampNeg), .int (xs (nI i + 3).toNatClampNeg)]) (rest := []) rfl rfl (Nat.le_of_ble_eq_true rfl) dL_law_775 hcs hss ?_
  refine v_aload_n hz.1 dL_law_778 rfl 1 rfl ?_
  refine v_aload_n hz.1 dL_law_779 rfl 3 rfl ?_
  refine v_iload_n hz.1 dL_law_780 rfl 0 rfl ?_
  refine v_iconst hz.1 1 dL_law_781 rfl ?_
  refine v_iadd hz.1 dL_law_782 ?_
  refine l_sld hz hX hbl h1 dL_law_783 ?_
  refine v_aload_n hz.1 dL_law_784 rfl 3 rfl ?_
  refine v_iload_n hz.1 dL_law_785 rfl 0 rfl ?_
  refine v_iconst hz.1 2 dL_law_786 rfl ?_
  refine v_iadd hz.1 dL_law_787 ?_
  refine l_sld hz hX hbl h2 dL_law_788 ?_
  refine v_aload_n hz.1 dL_law_789 rfl 3 rfl ?_
  refine v_iload_n hz.1 dL_law_790 rfl 0 rfl ?_
  refine v_iconst hz.1 3 dL_law_791 rfl ?_
  refine v_iadd hz.1 dL_law_792 ?_
  refine l_sld hz hX hbl h3 dL_law_793 ?_
  refine l_callM hz mv_L_74 rfl (kX10_at (n := 93) (xs (nI i + 1).toNatClampNeg) (xs (nI i + 2).toNatClampNeg) (xs (nI i + 3).toNatClampNeg) M (v, M') e2) rfl (av := [.int (xs (nI i + 1).toNatClampNeg), .int (xs (nI i + 2).toNatClampNeg), .int (xs (nI i + 3).toNatClampNeg)]) (rest := [.int v]) rfl rfl (Nat.le_of_ble_eq_true rfl) dL_law_794 hcs hss ?_
  exact v_icmp_eq hz.1 dL_law_797 (fun _ => kk X' M' R') (fun h => absurd rfl h)
set_option maxRecDepth 20000 in
set_option maxHeartbeats 4000000 in
theorem l_14 {Z : hZ} {Q : State → Prop} {cs ss L0 sb i : Nat} {xs : Nat → Int32} {X M : hMem} (hz : cOK Z cL_law RL 4 100 600000 7302250 0 ret) (hX : va_X sb L0 xs (h_s Z) (h_s Z).heap) (hbl : sb < (h_s Z).heap.size) (hL : L0 ≤ 3584) (hi : i + 7 ≤ L0) (hcs : cs ≤ 600000) (hss : ss ≤ 7302250) (R : RR X M) (kk : ∀ X' M' : hMem, RR X' M' → hB Z Q (cW Z X' M') cs ss 2111 [(3, .int (nI i)), (2, .ref (h_b Z + 88 + 0)), (1, .ref (h_b Z + 0)), (0, .ref sb)] []) : hB Z Q (cW Z X M) cs ss 802 [(3, .int (nI i)), (2, .ref (h_b Z + 88 + 0)), (1, .ref (h_b Z + 0)), (0, .ref sb)] [] := by
  have h1 : vp_in (nI i + 1) L0 := l_in hi hL (k := 1) (by decide)
  obtain ⟨v, X', M', e1, e2, R'⟩ := eq_pass R (xs (nI i + 1).toNatClampNeg)
  refine v_aload_n hz.1 dL_law_802 rfl 2 rfl ?_
  refine v_aload_n hz.1 dL_law_803 rfl 3 rfl ?_
  refine v_iload_n hz.1 dL_law_804 rfl 0 rfl ?_
  refine v_iconst hz.1 1 dL_law_805 rfl ?_
  refine v_iadd hz.1 dL_law_806 ?_
  refine l_sld hz hX hbl h1 dL_law_807 ?_
  refine l_callX hz mv_L_75 rfl (kX9_pass (n := 93) (xs (nI i + 1).toNatClampNeg) X (v, X') e1) rfl (av := [.int (xs (nI i + 1).toNatClampNeg)]) (rest := []) rfl rfl (Nat.le_of_ble_eq_true rfl) dL_law_808 hcs hss ?_
  refine v_aload_n hz.1 dL_law_811 rfl 1 rfl ?_
  refine v_aload_n hz.1 dL_law_812 rfl 3 rfl ?_
  refine v_iload_n hz.1 dL_law_813 rfl 0 rfl ?_
  refine v_iconst hz.1 1 dL_law_814 rfl ?_
  refine v_iadd hz.1 dL_law_815 ?_
  refine l_sld hz hX hbl h1 dL_law_816 ?_
  refine l_callM hz mv_L_78 rfl (kX10_pass (n := 92) (xs (nI i + 1).toNatClampNeg) M (v, M') e2) rfl (av := [.int (xs (nI i + 1).toNatClampNeg)]) (rest := [.int v]) rfl rfl (Nat.le_of_ble_eq_true rfl) dL_law_817 hcs hss ?_
  exact v_icmp_eq hz.1 dL_law_820 (fun _ => kk X' M' R') (fun h => absurd rfl h)
set_option maxRecDepth 20000 in
set_option maxHeartbeats 4000000 in
theorem l_15 {Z : hZ} {Q : State → Prop} {cs ss L0 sb i : Nat} {xs : Nat → Int32} {X M : hMem} (hz : cOK Z cL_law RL 4 100 600000 7302250 0 ret) (hX : va_X sb L0 xs (h_s Z) (h_s Z).heap) (hbl : sb < (h_s Z).heap.size) (hL : L0 ≤ 3584) (hi : i + 7 ≤ L0) (hcs : cs ≤ 600000) (hss : ss ≤ 7302250) (R : RR X M) (kk : ∀ X' M' : hMem, RR X' M' → hB Z Q (cW Z X' M') cs ss 2111 [(3, .int (nI i)), (2, .ref (h_b Z + 88 + 0)), (1, .ref (h_b Z + 0)), (0, .ref sb)] []) : hB Z Q (cW Z X M) cs ss 825 [(3, .int (nI i)), (2, .ref (h_b Z + 88 + 0)), (1, .ref (h_b Z + 0)), (0, .ref sb)] [] := by
  have h1 : vp_in (nI i + 1) L0 := l_in hi hL (k := 1) (by decide)
  have h2 : vp_in (nI i + 2) L0 := l_in hi hL (k := 2) (by decide)
  obtain ⟨v, X', M', e1, e2, R'⟩ := eq_when R (xs (nI i + 1).toNatClampNeg) (xs (nI i + 2).toNatClampNeg)
  refine v_aload_n hz.1 dL_law_825 rfl 2 rfl ?_
  refine v_aload_n hz.1 dL_law_826 rfl 3 rfl ?_
  refine v_iload_n hz.1 dL_law_827 rfl 0 rfl ?_
  refine v_iconst hz.1 1 dL_law_828 rfl ?_
  refine v_iadd hz.1 dL_law_829 ?_
  refine l_sld hz hX hbl h1 dL_law_830 ?_
  refine v_aload_n hz.1 dL_law_831 rfl 3 rfl ?_
  refine v_iload_n hz.1 dL_law_832 rfl 0 rfl ?_
  refine v_iconst hz.1 2 dL_law_833 rfl ?_
  refine v_iadd hz.1 dL_law_834 ?_
  refine l_sld hz hX hbl h2 dL_law_835 ?_
  refine l_callX hz mv_L_79 rfl (kX9_when (n := 93) (xs (nI i + 1).toNatClampNeg) (xs (nI i + 2).toNatClampNeg) X (v, X') e1) rfl (av := [.int (xs (nI i + 1).toNatClampNeg), .int (xs (nI i + 2).toNatClampNeg)]) (rest := []) rfl rfl (Nat.le_of_ble_eq_true rfl) dL_law_836 hcs hss ?_
  refine v_aload_n hz.1 dL_law_839 rfl 1 rfl ?_
  refine v_aload_n hz.1 dL_law_840 rfl 3 rfl ?_
  refine v_iload_n hz.1 dL_law_841 rfl 0 rfl ?_
  refine v_iconst hz.1 1 dL_law_842 rfl ?_
  refine v_iadd hz.1 dL_law_843 ?_
  refine l_sld hz hX hbl h1 dL_law_844 ?_
  refine v_aload_n hz.1 dL_law_845 rfl 3 rfl ?_
  refine v_iload_n hz.1 dL_law_846 rfl 0 rfl ?_
  refine v_iconst hz.1 2 dL_law_847 rfl ?_
  refine v_iadd hz.1 dL_law_848 ?_
  refine l_sld hz hX hbl h2 dL_law_849 ?_
  refine l_callM hz mv_L_82 rfl (kX10_when (n := 95) (xs (nI i + 1).toNatClampNeg) (xs (nI i + 2).toNatClampNeg) M (v, M') e2) rfl (av := [.int (xs (nI i + 1).toNatClampNeg), .int (xs (nI i + 2).toNatClampNeg)]) (rest := [.int v]) rfl rfl (Nat.le_of_ble_eq_true rfl) dL_law_850 hcs hss ?_
  exact v_icmp_eq hz.1 dL_law_853 (fun _ => kk X' M' R') (fun h => absurd rfl h)
set_option maxRecDepth 20000 in
set_option maxHeartbeats 4000000 in
theorem l_16 {Z : hZ} {Q : State → Prop} {cs ss L0 sb i : Nat} {xs : Nat → Int32} {X M : hMem} (hz : cOK Z cL_law RL 4 100 600000 7302250 0 ret) (hX : va_X sb L0 xs (h_s Z) (h_s Z).heap) (hbl : sb < (h_s Z).heap.size) (hL : L0 ≤ 3584) (hi : i + 7 ≤ L0) (hcs : cs ≤ 600000) (hss : ss ≤ 7302250) (R : RR X M) (kk : ∀ X' M' : hMem, RR X' M' → hB Z Q (cW Z X' M') cs ss 2111 [(3, .int (nI i)), (2, .ref (h_b Z + 88 + 0)), (1, .ref (h_b Z + 0)), (0, .ref sb)] []) : hB Z Q (cW Z X M) cs ss 858 [(3, .int (nI i)), (2, .ref (h_b Z + 88 + 0)), (1, .ref (h_b Z + 0)), (0, .ref sb)] [] := by
  have h1 : vp_in (nI i + 1) L0 := l_in hi hL (k := 1) (by decide)
  have h2 : vp_in (nI i + 2) L0 := l_in hi hL (k := 2) (by decide)
  obtain ⟨v, X', M', e1, e2, R'⟩ := eq_track R (xs (nI i + 1).toNatClampNeg) (xs (nI i + 2).toNatClampNeg)
  refine v_aload_n hz.1 dL_law_858 rfl 2 rfl ?_
  refine v_aload_n hz.1 dL_law_859 rfl 3 rfl ?_
  refine v_iload_n hz.1 dL_law_860 rfl 0 rfl ?_
  refine v_iconst hz.1 1 dL_law_861 rfl ?_
  refine v_iadd hz.1 dL_law_862 ?_
  refine l_sld hz hX hbl h1 dL_law_863 ?_
  refine v_aload_n hz.1 dL_law_864 rfl 3 rfl ?_
  refine v_iload_n hz.1 dL_law_865 rfl 0 rfl ?_
  refine v_iconst hz.1 2 dL_law_866 rfl ?_
  refine v_iadd hz.1 dL_law_867 ?_
  refine l_sld hz hX hbl h2 dL_law_868 ?_
  refine l_callX hz mv_L_83 rfl (kX9_track (n := 94) (xs (nI i + 1).toNatClampNeg) (xs (nI i + 2).toNatClampNeg) X (v, X') e1) rfl (av := [.int (xs (nI i + 1).toNatClampNeg), .int (xs (nI i + 2).toNatClampNeg)]) (rest := []) rfl rfl (Nat.le_of_ble_eq_true rfl) dL_law_869 hcs hss ?_
  refine v_aload_n hz.1 dL_law_872 rfl 1 rfl ?_
  refine v_aload_n hz.1 dL_law_873 rfl 3 rfl ?_
  refine v_iload_n hz.1 dL_law_874 rfl 0 rfl ?_
  refine v_iconst hz.1 1 dL_law_875 rfl ?_
  refine v_iadd hz.1 dL_law_876 ?_
  refine l_sld hz hX hbl h1 dL_law_877 ?_
  refine v_aload_n hz.1 dL_law_878 rfl 3 rfl ?_
  refine v_iload_n hz.1 dL_law_879 rfl 0 rfl ?_
  refine v_iconst hz.1 2 dL_law_880 rfl ?_
  refine v_iadd hz.1 dL_law_881 ?_
  refine l_sld hz hX hbl h2 dL_law_882 ?_
  refine l_callM hz mv_L_86 rfl (kX10_track (n := 95) (xs (nI i + 1).toNatClampNeg) (xs (nI i + 2).toNatClampNeg) M (v, M') e2) rfl (av := [.int (xs (nI i + 1).toNatClampNeg), .int (xs (nI i + 2).toNatClampNeg)]) (rest := [.int v]) rfl rfl (Nat.le_of_ble_eq_true rfl) dL_law_883 hcs hss ?_
  exact v_icmp_eq hz.1 dL_law_886 (fun _ => kk X' M' R') (fun h => absurd rfl h)
