/-! what the law asks of a relation R between the two states: every call answers alike and keeps R -/
section LAWC
variable {hX hM : Nat → Nat} {Y : Cy} {l0 : Launch} {D0 : va_G} {K0 K1 : Nat → ClassId} {b L : Nat} {xs : Nat → Int32} {i : Int32} {σ τ : pS}
set_option maxHeartbeats 4000000 in
set_option maxRecDepth 100000 in
theorem law_row {r : Int32} {ux : pS} {um : pS} (C : C2 hX hM Y l0 D0 K0 K1 b L xs) (hi1 : vp_in (i + 1) L) (hi2 : vp_in (i + 2) L) (hx : fX4_row σ (xs (i + 1).toNatClampNeg) (xs (i + 2).toNatClampNeg) = some (r, ux)) (hm : fX5_row τ (xs (i + 1).toNatClampNeg) (xs (i + 2).toNatClampNeg) = some (r, um)) (kk : G2 hX hM Y 1349 [(0, .ref b), (1, .ref (hX 0)), (2, .ref (hM 0)), (3, .int i)] [] ux um) : G2 hX hM Y 224 [(0, .ref b), (1, .ref (hX 0)), (2, .ref (hM 0)), (3, .int i)] [] σ τ := by
  refine k_aload_n C 1 dL_law_224 rfl rfl ?_
  refine k_aload_n C 0 dL_law_225 rfl rfl ?_
  refine k_iload_n C 3 dL_law_226 rfl rfl ?_
  refine k_iconst C dL_law_227 ic_1 ?_
  refine k_iadd C dL_law_228 ?_
  refine k_sld C hi1 dL_law_229 ?_
  refine k_aload_n C 0 dL_law_230 rfl rfl ?_
  refine k_iload_n C 3 dL_law_231 rfl rfl ?_
  refine k_iconst C dL_law_232 ic_2 ?_
  refine k_iadd C dL_law_233 ?_
  refine k_sld C hi2 dL_law_234 ?_
  refine k_callXi C (mX4_row l0 D0 K0 hX σ (xs (i + 1).toNatClampNeg) (xs (i + 2).toNatClampNeg) hx) gL_law_X4_row rfl rfl rfl ddX4_row ⟨(Nat.le_of_ble_eq_true rfl), (Nat.le_of_ble_eq_true rfl)⟩ rfl rfl rfl rfl (Nat.le_of_ble_eq_true rfl) dL_law_235 ?_
  refine k_aload_n C 2 dL_law_238 rfl rfl ?_
  refine k_aload_n C 0 dL_law_239 rfl rfl ?_
  refine k_iload_n C 3 dL_law_240 rfl rfl ?_
  refine k_iconst C dL_law_241 ic_1 ?_
  refine k_iadd C dL_law_242 ?_
  refine k_sld C hi1 dL_law_243 ?_
  refine k_aload_n C 0 dL_law_244 rfl rfl ?_
  refine k_iload_n C 3 dL_law_245 rfl rfl ?_
  refine k_iconst C dL_law_246 ic_2 ?_
  refine k_iadd C dL_law_247 ?_
  refine k_sld C hi2 dL_law_248 ?_
  refine k_callMi C (mX5_row l0 D0 K1 hM τ (xs (i + 1).toNatClampNeg) (xs (i + 2).toNatClampNeg) hm) gL_law_X5_row rfl rfl rfl ddX5_row ⟨(Nat.le_of_ble_eq_true rfl), (Nat.le_of_ble_eq_true rfl)⟩ rfl rfl rfl rfl (Nat.le_of_ble_eq_true rfl) dL_law_249 ?_
  exact k_icmp_eqT (tgt := 1349) C rfl dL_law_252 (by decide) kk
set_option maxHeartbeats 4000000 in
set_option maxRecDepth 100000 in
theorem law_lay {r : Int32} {ux : pS} {um : pS} (C : C2 hX hM Y l0 D0 K0 K1 b L xs) (hi1 : vp_in (i + 1) L) (hi2 : vp_in (i + 2) L) (hi3 : vp_in (i + 3) L) (hx : fX4_lay σ (xs (i + 1).toNatClampNeg) (xs (i + 2).toNatClampNeg) (xs (i + 3).toNatClampNeg) = some (r, ux)) (hm : fX5_lay τ (xs (i + 1).toNatClampNeg) (xs (i + 2).toNatClampNeg) (xs (i + 3).toNatClampNeg) = some (r, um)) (kk : G2 hX hM Y 1349 [(0, .ref b), (1, .ref (hX 0)), (2, .ref (hM 0)), (3, .int i)] [] ux um) : G2 hX hM Y 257 [(0, .ref b), (1, .ref (hX 0)), (2, .ref (hM 0)), (3, .int i)] [] σ τ := by
  refine k_aload_n C 1 dL_law_257 rfl rfl ?_
  refine k_aload_n C 0 dL_law_258 rfl rfl ?_
  refine k_iload_n C 3 dL_law_259 rfl rfl ?_
  refine k_iconst C dL_law_260 ic_1 ?_
  refine k_iadd C dL_law_261 ?_
  refine k_sld C hi1 dL_law_262 ?_
  refine k_aload_n C 0 dL_law_263 rfl rfl ?_
  refine k_iload_n C 3 dL_law_264 rfl rfl ?_
  refine k_iconst C dL_law_265 ic_2 ?_
  refine k_iadd C dL_law_266 ?_
  refine k_sld C hi2 dL_law_267 ?_
  refine k_aload_n C 0 dL_law_268 rfl rfl ?_
  refine k_iload_n C 3 dL_law_269 rfl rfl ?_
  refine k_iconst C dL_law_270 ic_3 ?_
  refine k_iadd C dL_law_271 ?_
  refine k_sld C hi3 dL_law_272 ?_
  refine k_callXi C (mX4_lay l0 D0 K0 hX σ (xs (i + 1).toNatClampNeg) (xs (i + 2).toNatClampNeg) (xs (i + 3).toNatClampNeg) hx) gL_law_X4_lay rfl rfl rfl ddX4_lay ⟨(Nat.le_of_ble_eq_true rfl), (Nat.le_of_ble_eq_true rfl)⟩ rfl rfl rfl rfl (Nat.le_of_ble_eq_true rfl) dL_law_273 ?_
  refine k_aload_n C 2 dL_law_276 rfl rfl ?_
  refine k_aload_n C 0 dL_law_277 rfl rfl ?_
  refine k_iload_n C 3 dL_law_278 rfl rfl ?_
  refine k_iconst C dL_law_279 ic_1 ?_
  refine k_iadd C dL_law_280 ?_
  refine k_sld C hi1 dL_law_281 ?_
  refine k_aload_n C 0 dL_law_282 rfl rfl ?_
  refine k_iload_n C 3 dL_law_283 rfl rfl ?_
  refine k_iconst C dL_law_284 ic_2 ?_
  refine k_iadd C dL_law_285 ?_
  refine k_sld C hi2 dL_law_286 ?_
  refine k_aload_n C 0 dL_law_287 rfl rfl ?_
  refine k_iload_n C 3 dL_law_288 rfl rfl ?_
  refine k_iconst C dL_law_289 ic_3 ?_
  refine k_iadd C dL_law_290 ?_
  refine k_sld C hi3 dL_law_291 ?_
  refine k_callMi C (mX5_lay l0 D0 K1 hM τ (xs (i + 1).toNatClampNeg) (xs (i + 2).toNatClampNeg) (xs (i + 3).toNatClampNeg) hm) gL_law_X5_lay rfl rfl rfl ddX5_lay ⟨(Nat.le_of_ble_eq_true rfl), (Nat.le_of_ble_eq_true rfl)⟩ rfl rfl rfl rfl (Nat.le_of_ble_eq_true rfl) dL_law_292 ?_
  exact k_icmp_eqT (tgt := 1349) C rfl dL_law_295 (by decide) kk
set_option maxHeartbeats 4000000 in
set_option maxRecDepth 100000 in
theorem law_at {r : Int32} {ux : pS} {um : pS} (C : C2 hX hM Y l0 D0 K0 K1 b L xs) (hi1 : vp_in (i + 1) L) (hi2 : vp_in (i + 2) L) (hx : fX4_at σ (xs (i + 1).toNatClampNeg) (xs (i + 2).toNatClampNeg) = some (r, ux)) (hm : fX5_at τ (xs (i + 1).toNatClampNeg) (xs (i + 2).toNatClampNeg) = some (r, um)) (kk : G2 hX hM Y 1349 [(0, .ref b), (1, .ref (hX 0)), (2, .ref (hM 0)), (3, .int i)] [] ux um) : G2 hX hM Y 300 [(0, .ref b), (1, .ref (hX 0)), (2, .ref (hM 0)), (3, .int i)] [] σ τ := by
  refine k_aload_n C 1 dL_law_300 rfl rfl ?_
  refine k_aload_n C 0 dL_law_301 rfl rfl ?_
  refine k_iload_n C 3 dL_law_302 rfl rfl ?_
  refine k_iconst C dL_law_303 ic_1 ?_
  refine k_iadd C dL_law_304 ?_
  refine k_sld C hi1 dL_law_305 ?_
  refine k_aload_n C 0 dL_law_306 rfl rfl ?_
  refine k_iload_n C 3 dL_law_307 rfl rfl ?_
  refine k_iconst C dL_law_308 ic_2 ?_
  refine k_iadd C dL_law_309 ?_
  refine k_sld C hi2 dL_law_310 ?_
  refine k_callXi C (mX4_at l0 D0 K0 hX σ (xs (i + 1).toNatClampNeg) (xs (i + 2).toNatClampNeg) hx) gL_law_X4_at rfl rfl rfl ddX4_at ⟨(Nat.le_of_ble_eq_true rfl), (Nat.le_of_ble_eq_true rfl)⟩ rfl rfl rfl rfl (Nat.le_of_ble_eq_true rfl) dL_law_311 ?_
  refine k_aload_n C 2 dL_law_314 rfl rfl ?_
  refine k_aload_n C 0 dL_law_315 rfl rfl ?_
  refine k_iload_n C 3 dL_law_316 rfl rfl ?_
  refine k_iconst C dL_law_317 ic_1 ?_
  refine k_iadd C dL_law_318 ?_
  refine k_sld C hi1 dL_law_319 ?_
  refine k_aload_n C 0 dL_law_320 rfl rfl ?_
  refine k_iload_n C 3 dL_law_321 rfl rfl ?_
  refine k_iconst C dL_law_322 ic_2 ?_
  refine k_iadd C dL_law_323 ?_
  refine k_sld C hi2 dL_law_324 ?_
  refine k_callMi C (mX5_at l0 D0 K1 hM τ (xs (i + 1).toNatClampNeg) (xs (i + 2).toNatClampNeg) hm) gL_law_X5_at rfl rfl rfl ddX5_at ⟨(Nat.le_of_ble_eq_true rfl), (Nat.le_of_ble_eq_true rfl)⟩ rfl rfl rfl rfl (Nat.le_of_ble_eq_true rfl) dL_law_325 ?_
  exact k_icmp_eqT (tgt := 1349) C rfl dL_law_328 (by decide) kk
set_option maxHeartbeats 4000000 in
set_option maxRecDepth 100000 in
theorem law_tear {r : Int32} {ux : pS} {um : pS} (C : C2 hX hM Y l0 D0 K0 K1 b L xs) (hi1 : vp_in (i + 1) L) (hx : fX4_tear σ (xs (i + 1).toNatClampNeg) = some (r, ux)) (hm : fX5_tear τ (xs (i + 1).toNatClampNeg) = some (r, um)) (kk : G2 hX hM Y 1349 [(0, .ref b), (1, .ref (hX 0)), (2, .ref (hM 0)), (3, .int i)] [] ux um) : G2 hX hM Y 333 [(0, .ref b), (1, .ref (hX 0)), (2, .ref (hM 0)), (3, .int i)] [] σ τ := by
  refine k_aload_n C 1 dL_law_333 rfl rfl ?_
  refine k_aload_n C 0 dL_law_334 rfl rfl ?_
  refine k_iload_n C 3 dL_law_335 rfl rfl ?_
  refine k_iconst C dL_law_336 ic_1 ?_
  refine k_iadd C dL_law_337 ?_
  refine k_sld C hi1 dL_law_338 ?_
  refine k_callXi C (mX4_tear l0 D0 K0 hX σ (xs (i + 1).toNatClampNeg) hx) gL_law_X4_tear rfl rfl rfl ddX4_tear ⟨(Nat.le_of_ble_eq_true rfl), (Nat.le_of_ble_eq_true rfl)⟩ rfl rfl rfl rfl (Nat.le_of_ble_eq_true rfl) dL_law_339 ?_
  refine k_aload_n C 2 dL_law_342 rfl rfl ?_
  refine k_aload_n C 0 dL_law_343 rfl rfl ?_
  refine k_iload_n C 3 dL_law_344 rfl rfl ?_
  refine k_iconst C dL_law_345 ic_1 ?_
  refine k_iadd C dL_law_346 ?_
  refine k_sld C hi1 dL_law_347 ?_
  refine k_callMi C (mX5_tear l0 D0 K1 hM τ (xs (i + 1).toNatClampNeg) hm) gL_law_X5_tear rfl rfl rfl ddX5_tear ⟨(Nat.le_of_ble_eq_true rfl), (Nat.le_of_ble_eq_true rfl)⟩ rfl rfl rfl rfl (Nat.le_of_ble_eq_true rfl) dL_law_348 ?_
  exact k_icmp_eqT (tgt := 1349) C rfl dL_law_351 (by decide) kk
set_option maxHeartbeats 4000000 in
set_option maxRecDepth 100000 in
theorem law_copy {r : Int32} {ux : pS} {um : pS} (C : C2 hX hM Y l0 D0 K0 K1 b L xs) (hi1 : vp_in (i + 1) L) (hi2 : vp_in (i + 2) L) (hi3 : vp_in (i + 3) L) (hi4 : vp_in (i + 4) L) (hi5 : vp_in (i + 5) L) (hx : fX4_copy σ (xs (i + 1).toNatClampNeg) (xs (i + 2).toNatClampNeg) (xs (i + 3).toNatClampNeg) (xs (i + 4).toNatClampNeg) (xs (i + 5).toNatClampNeg) = some (r, ux)) (hm : fX5_copy τ (xs (i + 1).toNatClampNeg) (xs (i + 2).toNatClampNeg) (xs (i + 3).toNatClampNeg) (xs (i + 4).toNatClampNeg) (xs (i + 5).toNatClampNeg) = some (r, um)) (kk : G2 hX hM Y 1349 [(0, .ref b), (1, .ref (hX 0)), (2, .ref (hM 0)), (3, .int i)] [] ux um) : G2 hX hM Y 356 [(0, .ref b), (1, .ref (hX 0)), (2, .ref (hM 0)), (3, .int i)] [] σ τ := by
  refine k_aload_n C 1 dL_law_356 rfl rfl ?_
  refine k_aload_n C 0 dL_law_357 rfl rfl ?_
  refine k_iload_n C 3 dL_law_358 rfl rfl ?_
  refine k_iconst C dL_law_359 ic_1 ?_
  refine k_iadd C dL_law_360 ?_
  refine k_sld C hi1 dL_law_361 ?_
  refine k_aload_n C 0 dL_law_362 rfl rfl ?_
  refine k_iload_n C 3 dL_law_363 rfl rfl ?_
  refine k_iconst C dL_law_364 ic_2 ?_
  refine k_iadd C dL_law_365 ?_
  refine k_sld C hi2 dL_law_366 ?_
  refine k_aload_n C 0 dL_law_367 rfl rfl ?_
  refine k_iload_n C 3 dL_law_368 rfl rfl ?_
  refine k_iconst C dL_law_369 ic_3 ?_
  refine k_iadd C dL_law_370 ?_
  refine k_sld C hi3 dL_law_371 ?_
  refine k_aload_n C 0 dL_law_372 rfl rfl ?_
  refine k_iload_n C 3 dL_law_373 rfl rfl ?_
  refine k_iconst C dL_law_374 ic_4 ?_
  refine k_iadd C dL_law_375 ?_
  refine k_sld C hi4 dL_law_376 ?_
  refine k_aload_n C 0 dL_law_377 rfl rfl ?_
  refine k_iload_n C 3 dL_law_378 rfl rfl ?_
  refine k_iconst C dL_law_379 ic_5 ?_
  refine k_iadd C dL_law_380 ?_
  refine k_sld C hi5 dL_law_381 ?_
  refine k_callXi C (mX4_copy l0 D0 K0 hX σ (xs (i + 1).toNatClampNeg) (xs (i + 2).toNatClampNeg) (xs (i + 3).toNatClampNeg) (xs (i + 4).toNatClampNeg) (xs (i + 5).toNatClampNeg) hx) gL_law_X4_copy rfl rfl rfl ddX4_copy ⟨(Nat.le_of_ble_eq_true rfl), (Nat.le_of_ble_eq_true rfl)⟩ rfl rfl rfl rfl (Nat.le_of_ble_eq_true rfl) dL_law_382 ?_
  refine k_aload_n C 2 dL_law_385 rfl rfl ?_
  refine k_aload_n C 0 dL_law_386 rfl rfl ?_
  refine k_iload_n C 3 dL_law_387 rfl rfl ?_
  refine k_iconst C dL_law_388 ic_1 ?_
  refine k_iadd C dL_law_389 ?_
  refine k_sld C hi1 dL_law_390 ?_
  refine k_aload_n C 0 dL_law_391 rfl rfl ?_
  refine k_iload_n C 3 dL_law_392 rfl rfl ?_
  refine k_iconst C dL_law_393 ic_2 ?_
  refine k_iadd C dL_law_394 ?_
  refine k_sld C hi2 dL_law_395 ?_
  refine k_aload_n C 0 dL_law_396 rfl rfl ?_
  refine k_iload_n C 3 dL_law_397 rfl rfl ?_
  refine k_iconst C dL_law_398 ic_3 ?_
  refine k_iadd C dL_law_399 ?_
  refine k_sld C hi3 dL_law_400 ?_
  refine k_aload_n C 0 dL_law_401 rfl rfl ?_
  refine k_iload_n C 3 dL_law_402 rfl rfl ?_
  refine k_iconst C dL_law_403 ic_4 ?_
  refine k_iadd C dL_law_404 ?_
  refine k_sld C hi4 dL_law_405 ?_
  refine k_aload_n C 0 dL_law_406 rfl rfl ?_
  refine k_iload_n C 3 dL_law_407 rfl rfl ?_
  refine k_iconst C dL_law_408 ic_5 ?_
  refine k_iadd C dL_law_409 ?_
  refine k_sld C hi5 dL_law_410 ?_
  refine k_callMi C (mX5_copy l0 D0 K1 hM τ (xs (i + 1).toNatClampNeg) (xs (i + 2).toNatClampNeg) (xs (i + 3).toNatClampNeg) (xs (i + 4).toNatClampNeg) (xs (i + 5).toNatClampNeg) hm) gL_law_X5_copy rfl rfl rfl ddX5_copy ⟨(Nat.le_of_ble_eq_true rfl), (Nat.le_of_ble_eq_true rfl)⟩ rfl rfl rfl rfl (Nat.le_of_ble_eq_true rfl) dL_law_411 ?_
  exact k_icmp_eqT (tgt := 1349) C rfl dL_law_414 (by decide) kk
set_option maxHeartbeats 4000000 in
set_option maxRecDepth 100000 in
theorem law_mean {r : Int32} {ux : pS} {um : pS} (C : C2 hX hM Y l0 D0 K0 K1 b L xs) (hi1 : vp_in (i + 1) L) (hx : fX4_mean σ (xs (i + 1).toNatClampNeg) = some (r, ux)) (hm : fX5_mean τ (xs (i + 1).toNatClampNeg) = some (r, um)) (kk : G2 hX hM Y 1349 [(0, .ref b), (1, .ref (hX 0)), (2, .ref (hM 0)), (3, .int i)] [] ux um) : G2 hX hM Y 419 [(0, .ref b), (1, .ref (hX 0)), (2, .ref (hM 0)), (3, .int i)] [] σ τ := by
  refine k_aload_n C 1 dL_law_419 rfl rfl ?_
  refine k_aload_n C 0 dL_law_420 rfl rfl ?_
  refine k_iload_n C 3 dL_law_421 rfl rfl ?_
  refine k_iconst C dL_law_422 ic_1 ?_
  refine k_iadd C dL_law_423 ?_
  refine k_sld C hi1 dL_law_424 ?_
  refine k_callXi C (mX4_mean l0 D0 K0 hX σ (xs (i + 1).toNatClampNeg) hx) gL_law_X4_mean rfl rfl rfl ddX4_mean ⟨(Nat.le_of_ble_eq_true rfl), (Nat.le_of_ble_eq_true rfl)⟩ rfl rfl rfl rfl (Nat.le_of_ble_eq_true rfl) dL_law_425 ?_
  refine k_aload_n C 2 dL_law_428 rfl rfl ?_
  refine k_aload_n C 0 dL_law_429 rfl rfl ?_
  refine k_iload_n C 3 dL_law_430 rfl rfl ?_
  refine k_iconst C dL_law_431 ic_1 ?_
  refine k_iadd C dL_law_432 ?_
  refine k_sld C hi1 dL_law_433 ?_
  refine k_callMi C (mX5_mean l0 D0 K1 hM τ (xs (i + 1).toNatClampNeg) hm) gL_law_X5_mean rfl rfl rfl ddX5_mean ⟨(Nat.le_of_ble_eq_true rfl), (Nat.le_of_ble_eq_true rfl)⟩ rfl rfl rfl rfl (Nat.le_of_ble_eq_true rfl) dL_law_434 ?_
  exact k_icmp_eqT (tgt := 1349) C rfl dL_law_437 (by decide) kk
set_option maxHeartbeats 4000000 in
set_option maxRecDepth 100000 in
theorem law_text {r : Int32} {ux : pS} {um : pS} (C : C2 hX hM Y l0 D0 K0 K1 b L xs) (hi1 : vp_in (i + 1) L) (hi2 : vp_in (i + 2) L) (hx : fX4_text σ (xs (i + 1).toNatClampNeg) (xs (i + 2).toNatClampNeg) = some (r, ux)) (hm : fX5_text τ (xs (i + 1).toNatClampNeg) (xs (i + 2).toNatClampNeg) = some (r, um)) (kk : G2 hX hM Y 1349 [(0, .ref b), (1, .ref (hX 0)), (2, .ref (hM 0)), (3, .int i)] [] ux um) : G2 hX hM Y 442 [(0, .ref b), (1, .ref (hX 0)), (2, .ref (hM 0)), (3, .int i)] [] σ τ := by
  refine k_aload_n C 1 dL_law_442 rfl rfl ?_
  refine k_aload_n C 0 dL_law_443 rfl rfl ?_
  refine k_iload_n C 3 dL_law_444 rfl rfl ?_
  refine k_iconst C dL_law_445 ic_1 ?_
  refine k_iadd C dL_law_446 ?_
  refine k_sld C hi1 dL_law_447 ?_
  refine k_aload_n C 0 dL_law_448 rfl rfl ?_
  refine k_iload_n C 3 dL_law_449 rfl rfl ?_
  refine k_iconst C dL_law_450 ic_2 ?_
  refine k_iadd C dL_law_451 ?_
  refine k_sld C hi2 dL_law_452 ?_
  refine k_callXi C (mX4_text l0 D0 K0 hX σ (xs (i + 1).toNatClampNeg) (xs (i + 2).toNatClampNeg) hx) gL_law_X4_text rfl rfl rfl ddX4_text ⟨(Nat.le_of_ble_eq_true rfl), (Nat.le_of_ble_eq_true rfl)⟩ rfl rfl rfl rfl (Nat.le_of_ble_eq_true rfl) dL_law_453 ?_
  refine k_aload_n C 2 dL_law_456 rfl rfl ?_
  refine k_aload_n C 0 dL_law_457 rfl rfl ?_
  refine k_iload_n C 3 dL_law_458 rfl rfl ?_
  refine k_iconst C dL_law_459 ic_1 ?_
  refine k_iadd C dL_law_460 ?_
  refine k_sld C hi1 dL_law_461 ?_
  refine k_aload_n C 0 dL_law_462 rfl rfl ?_
  refine k_iload_n C 3 dL_law_463 rfl rfl ?_
  refine k_iconst C dL_law_464 ic_2 ?_
  refine k_iadd C dL_law_465 ?_
  refine k_sld C hi2 dL_law_466 ?_
  refine k_callMi C (mX5_text l0 D0 K1 hM τ (xs (i + 1).toNatClampNeg) (xs (i + 2).toNatClampNeg) hm) gL_law_X5_text rfl rfl rfl ddX5_text ⟨(Nat.le_of_ble_eq_true rfl), (Nat.le_of_ble_eq_true rfl)⟩ rfl rfl rfl rfl (Nat.le_of_ble_eq_true rfl) dL_law_467 ?_
  exact k_icmp_eqT (tgt := 1349) C rfl dL_law_470 (by decide) kk
set_option maxHeartbeats 4000000 in
set_option maxRecDepth 100000 in
theorem law_put {r : Int32} {ux : pS} {um : pS} (C : C2 hX hM Y l0 D0 K0 K1 b L xs) (hi1 : vp_in (i + 1) L) (hi2 : vp_in (i + 2) L) (hi3 : vp_in (i + 3) L) (hx : fX4_put σ (xs (i + 1).toNatClampNeg) (xs (i + 2).toNatClampNeg) (xs (i + 3).toNatClampNeg) = some (r, ux)) (hm : fX5_put τ (xs (i + 1).toNatClampNeg) (xs (i + 2).toNatClampNeg) (xs (i + 3).toNatClampNeg) = some (r, um)) (kk : G2 hX hM Y 1349 [(0, .ref b), (1, .ref (hX 0)), (2, .ref (hM 0)), (3, .int i)] [] ux um) : G2 hX hM Y 475 [(0, .ref b), (1, .ref (hX 0)), (2, .ref (hM 0)), (3, .int i)] [] σ τ := by
  refine k_aload_n C 1 dL_law_475 rfl rfl ?_
  refine k_aload_n C 0 dL_law_476 rfl rfl ?_
  refine k_iload_n C 3 dL_law_477 rfl rfl ?_
  refine k_iconst C dL_law_478 ic_1 ?_
  refine k_iadd C dL_law_479 ?_
  refine k_sld C hi1 dL_law_480 ?_
  refine k_aload_n C 0 dL_law_481 rfl rfl ?_
  refine k_iload_n C 3 dL_law_482 rfl rfl ?_
  refine k_iconst C dL_law_483 ic_2 ?_
  refine k_iadd C dL_law_484 ?_
  refine k_sld C hi2 dL_law_485 ?_
  refine k_aload_n C 0 dL_law_486 rfl rfl ?_
  refine k_iload_n C 3 dL_law_487 rfl rfl ?_
  refine k_iconst C dL_law_488 ic_3 ?_
  refine k_iadd C dL_law_489 ?_
  refine k_sld C hi3 dL_law_490 ?_
  refine k_callXi C (mX4_put l0 D0 K0 hX σ (xs (i + 1).toNatClampNeg) (xs (i + 2).toNatClampNeg) (xs (i + 3).toNatClampNeg) hx) gL_law_X4_put rfl rfl rfl ddX4_put ⟨(Nat.le_of_ble_eq_true rfl), (Nat.le_of_ble_eq_true rfl)⟩ rfl rfl rfl rfl (Nat.le_of_ble_eq_true rfl) dL_law_491 ?_
  refine k_aload_n C 2 dL_law_494 rfl rfl ?_
  refine k_aload_n C 0 dL_law_495 rfl rfl ?_
  refine k_iload_n C 3 dL_law_496 rfl rfl ?_
  refine k_iconst C dL_law_497 ic_1 ?_
  refine k_iadd C dL_law_498 ?_
  refine k_sld C hi1 dL_law_499 ?_
  refine k_aload_n C 0 dL_law_500 rfl rfl ?_
  refine k_iload_n C 3 dL_law_501 rfl rfl ?_
  refine k_iconst C dL_law_502 ic_2 ?_
  refine k_iadd C dL_law_503 ?_
  refine k_sld C hi2 dL_law_504 ?_
  refine k_aload_n C 0 dL_law_505 rfl rfl ?_
  refine k_iload_n C 3 dL_law_506 rfl rfl ?_
  refine k_iconst C dL_law_507 ic_3 ?_
  refine k_iadd C dL_law_508 ?_
  refine k_sld C hi3 dL_law_509 ?_
  refine k_callMi C (mX5_put l0 D0 K1 hM τ (xs (i + 1).toNatClampNeg) (xs (i + 2).toNatClampNeg) (xs (i + 3).toNatClampNeg) hm) gL_law_X5_put rfl rfl rfl ddX5_put ⟨(Nat.le_of_ble_eq_true rfl), (Nat.le_of_ble_eq_true rfl)⟩ rfl rfl rfl rfl (Nat.le_of_ble_eq_true rfl) dL_law_510 ?_
  exact k_icmp_eqT (tgt := 1349) C rfl dL_law_513 (by decide) kk
set_option maxHeartbeats 4000000 in
set_option maxRecDepth 100000 in
theorem law_fault {r : Int32} {ux : pS} {um : pS} (C : C2 hX hM Y l0 D0 K0 K1 b L xs) (hi1 : vp_in (i + 1) L) (hx : fX4_fault σ (xs (i + 1).toNatClampNeg) = some (r, ux)) (hm : fX5_fault τ (xs (i + 1).toNatClampNeg) = some (r, um)) (kk : G2 hX hM Y 1349 [(0, .ref b), (1, .ref (hX 0)), (2, .ref (hM 0)), (3, .int i)] [] ux um) : G2 hX hM Y 518 [(0, .ref b), (1, .ref (hX 0)), (2, .ref (hM 0)), (3, .int i)] [] σ τ := by
  refine k_aload_n C 1 dL_law_518 rfl rfl ?_
  refine k_aload_n C 0 dL_law_519 rfl rfl ?_
  refine k_iload_n C 3 dL_law_520 rfl rfl ?_
  refine k_iconst C dL_law_521 ic_1 ?_
  refine k_iadd C dL_law_522 ?_
  refine k_sld C hi1 dL_law_523 ?_
  refine k_callXi C (mX4_fault l0 D0 K0 hX σ (xs (i + 1).toNatClampNeg) hx) gL_law_X4_fault rfl rfl rfl ddX4_fault ⟨(Nat.le_of_ble_eq_true rfl), (Nat.le_of_ble_eq_true rfl)⟩ rfl rfl rfl rfl (Nat.le_of_ble_eq_true rfl) dL_law_524 ?_
  refine k_aload_n C 2 dL_law_527 rfl rfl ?_
  refine k_aload_n C 0 dL_law_528 rfl rfl ?_
  refine k_iload_n C 3 dL_law_529 rfl rfl ?_
  refine k_iconst C dL_law_530 ic_1 ?_
  refine k_iadd C dL_law_531 ?_
  refine k_sld C hi1 dL_law_532 ?_
  refine k_callMi C (mX5_fault l0 D0 K1 hM τ (xs (i + 1).toNatClampNeg) hm) gL_law_X5_fault rfl rfl rfl ddX5_fault ⟨(Nat.le_of_ble_eq_true rfl), (Nat.le_of_ble_eq_true rfl)⟩ rfl rfl rfl rfl (Nat.le_of_ble_eq_true rfl) dL_law_533 ?_
  exact k_icmp_eqT (tgt := 1349) C rfl dL_law_536 (by decide) kk
set_option maxHeartbeats 4000000 in
set_option maxRecDepth 100000 in
theorem law_village {r : Int32} {ux : pS} {um : pS} (C : C2 hX hM Y l0 D0 K0 K1 b L xs) (hi1 : vp_in (i + 1) L) (hx : fX4_village σ (xs (i + 1).toNatClampNeg) = some (r, ux)) (hm : fX5_village τ (xs (i + 1).toNatClampNeg) = some (r, um)) (kk : G2 hX hM Y 1349 [(0, .ref b), (1, .ref (hX 0)), (2, .ref (hM 0)), (3, .int i)] [] ux um) : G2 hX hM Y 541 [(0, .ref b), (1, .ref (hX 0)), (2, .ref (hM 0)), (3, .int i)] [] σ τ := by
  refine k_aload_n C 1 dL_law_541 rfl rfl ?_
  refine k_aload_n C 0 dL_law_542 rfl rfl ?_
  refine k_iload_n C 3 dL_law_543 rfl rfl ?_
  refine k_iconst C dL_law_544 ic_1 ?_
  refine k_iadd C dL_law_545 ?_
  refine k_sld C hi1 dL_law_546 ?_
  refine k_callXi C (mX4_village l0 D0 K0 hX σ (xs (i + 1).toNatClampNeg) hx) gL_law_X4_village rfl rfl rfl ddX4_village ⟨(Nat.le_of_ble_eq_true rfl), (Nat.le_of_ble_eq_true rfl)⟩ rfl rfl rfl rfl (Nat.le_of_ble_eq_true rfl) dL_law_547 ?_
  refine k_aload_n C 2 dL_law_550 rfl rfl ?_
  refine k_aload_n C 0 dL_law_551 rfl rfl ?_
  refine k_iload_n C 3 dL_law_552 rfl rfl ?_
  refine k_iconst C dL_law_553 ic_1 ?_
  refine k_iadd C dL_law_554 ?_
  refine k_sld C hi1 dL_law_555 ?_
  refine k_callMi C (mX5_village l0 D0 K1 hM τ (xs (i + 1).toNatClampNeg) hm) gL_law_X5_village rfl rfl rfl ddX5_village ⟨(Nat.le_of_ble_eq_true rfl), (Nat.le_of_ble_eq_true rfl)⟩ rfl rfl rfl rfl (Nat.le_of_ble_eq_true rfl) dL_law_556 ?_
  exact k_icmp_eqT (tgt := 1349) C rfl dL_law_559 (by decide) kk
set_option maxHeartbeats 4000000 in
set_option maxRecDepth 100000 in
theorem law_one {r : Int32} {ux : pS} {um : pS} (C : C2 hX hM Y l0 D0 K0 K1 b L xs) (hi1 : vp_in (i + 1) L) (hi2 : vp_in (i + 2) L) (hx : fX4_one σ (xs (i + 1).toNatClampNeg) (xs (i + 2).toNatClampNeg) = some (r, ux)) (hm : fX5_one τ (xs (i + 1).toNatClampNeg) (xs (i + 2).toNatClampNeg) = some (r, um)) (kk : G2 hX hM Y 1349 [(0, .ref b), (1, .ref (hX 0)), (2, .ref (hM 0)), (3, .int i)] [] ux um) : G2 hX hM Y 564 [(0, .ref b), (1, .ref (hX 0)), (2, .ref (hM 0)), (3, .int i)] [] σ τ := by
  refine k_aload_n C 1 dL_law_564 rfl rfl ?_
  refine k_aload_n C 0 dL_law_565 rfl rfl ?_
  refine k_iload_n C 3 dL_law_566 rfl rfl ?_
  refine k_iconst C dL_law_567 ic_1 ?_
  refine k_iadd C dL_law_568 ?_
  refine k_sld C hi1 dL_law_569 ?_
  refine k_aload_n C 0 dL_law_570 rfl rfl ?_
  refine k_iload_n C 3 dL_law_571 rfl rfl ?_
  refine k_iconst C dL_law_572 ic_2 ?_
  refine k_iadd C dL_law_573 ?_
  refine k_sld C hi2 dL_law_574 ?_
  refine k_callXi C (mX4_one l0 D0 K0 hX σ (xs (i + 1).toNatClampNeg) (xs (i + 2).toNatClampNeg) hx) gL_law_X4_one rfl rfl rfl ddX4_one ⟨(Nat.le_of_ble_eq_true rfl), (Nat.le_of_ble_eq_true rfl)⟩ rfl rfl rfl rfl (Nat.le_of_ble_eq_true rfl) dL_law_575 ?_
  refine k_aload_n C 2 dL_law_578 rfl rfl ?_
  refine k_aload_n C 0 dL_law_579 rfl rfl ?_
  refine k_iload_n C 3 dL_law_580 rfl rfl ?_
  refine k_iconst C dL_law_581 ic_1 ?_
  refine k_iadd C dL_law_582 ?_
  refine k_sld C hi1 dL_law_583 ?_
  refine k_aload_n C 0 dL_law_584 rfl rfl ?_
  refine k_iload_n C 3 dL_law_585 rfl rfl ?_
  refine k_iconst C dL_law_586 ic_2 ?_
  refine k_iadd C dL_law_587 ?_
  refine k_sld C hi2 dL_law_588 ?_
  refine k_callMi C (mX5_one l0 D0 K1 hM τ (xs (i + 1).toNatClampNeg) (xs (i + 2).toNatClampNeg) hm) gL_law_X5_one rfl rfl rfl ddX5_one ⟨(Nat.le_of_ble_eq_true rfl), (Nat.le_of_ble_eq_true rfl)⟩ rfl rfl rfl rfl (Nat.le_of_ble_eq_true rfl) dL_law_589 ?_
  exact k_icmp_eqT (tgt := 1349) C rfl dL_law_592 (by decide) kk
set_option maxHeartbeats 4000000 in
set_option maxRecDepth 100000 in
theorem law_mark {r : Int32} {ux : pS} {um : pS} (C : C2 hX hM Y l0 D0 K0 K1 b L xs) (hi1 : vp_in (i + 1) L) (hi2 : vp_in (i + 2) L) (hx : fX4_mark σ (xs (i + 1).toNatClampNeg) (xs (i + 2).toNatClampNeg) = some (r, ux)) (hm : fX5_mark τ (xs (i + 1).toNatClampNeg) (xs (i + 2).toNatClampNeg) = some (r, um)) (kk : G2 hX hM Y 1349 [(0, .ref b), (1, .ref (hX 0)), (2, .ref (hM 0)), (3, .int i)] [] ux um) : G2 hX hM Y 597 [(0, .ref b), (1, .ref (hX 0)), (2, .ref (hM 0)), (3, .int i)] [] σ τ := by
  refine k_aload_n C 1 dL_law_597 rfl rfl ?_
  refine k_aload_n C 0 dL_law_598 rfl rfl ?_
  refine k_iload_n C 3 dL_law_599 rfl rfl ?_
  refine k_iconst C dL_law_600 ic_1 ?_
  refine k_iadd C dL_law_601 ?_
  refine k_sld C hi1 dL_law_602 ?_
  refine k_aload_n C 0 dL_law_603 rfl rfl ?_
  refine k_iload_n C 3 dL_law_604 rfl rfl ?_
  refine k_iconst C dL_law_605 ic_2 ?_
  refine k_iadd C dL_law_606 ?_
  refine k_sld C hi2 dL_law_607 ?_
  refine k_callXi C (mX4_mark l0 D0 K0 hX σ (xs (i + 1).toNatClampNeg) (xs (i + 2).toNatClampNeg) hx) gL_law_X4_mark rfl rfl rfl ddX4_mark ⟨(Nat.le_of_ble_eq_true rfl), (Nat.le_of_ble_eq_true rfl)⟩ rfl rfl rfl rfl (Nat.le_of_ble_eq_true rfl) dL_law_608 ?_
  refine k_aload_n C 2 dL_law_611 rfl rfl ?_
  refine k_aload_n C 0 dL_law_612 rfl rfl ?_
  refine k_iload_n C 3 dL_law_613 rfl rfl ?_
  refine k_iconst C dL_law_614 ic_1 ?_
  refine k_iadd C dL_law_615 ?_
  refine k_sld C hi1 dL_law_616 ?_
  refine k_aload_n C 0 dL_law_617 rfl rfl ?_
  refine k_iload_n C 3 dL_law_618 rfl rfl ?_
  refine k_iconst C dL_law_619 ic_2 ?_
  refine k_iadd C dL_law_620 ?_
  refine k_sld C hi2 dL_law_621 ?_
  refine k_callMi C (mX5_mark l0 D0 K1 hM τ (xs (i + 1).toNatClampNeg) (xs (i + 2).toNatClampNeg) hm) gL_law_X5_mark rfl rfl rfl ddX5_mark ⟨(Nat.le_of_ble_eq_true rfl), (Nat.le_of_ble_eq_true rfl)⟩ rfl rfl rfl rfl (Nat.le_of_ble_eq_true rfl) dL_law_622 ?_
  exact k_icmp_eqT (tgt := 1349) C rfl dL_law_625 (by decide) kk
set_option maxHeartbeats 4000000 in
set_option maxRecDepth 100000 in
theorem law_debt {r : Int32} {ux : pS} {um : pS} (C : C2 hX hM Y l0 D0 K0 K1 b L xs) (hi1 : vp_in (i + 1) L) (hi2 : vp_in (i + 2) L) (hx : fX4_debt σ (xs (i + 1).toNatClampNeg) (xs (i + 2).toNatClampNeg) = some (r, ux)) (hm : fX5_debt τ (xs (i + 1).toNatClampNeg) (xs (i + 2).toNatClampNeg) = some (r, um)) (kk : G2 hX hM Y 1349 [(0, .ref b), (1, .ref (hX 0)), (2, .ref (hM 0)), (3, .int i)] [] ux um) : G2 hX hM Y 630 [(0, .ref b), (1, .ref (hX 0)), (2, .ref (hM 0)), (3, .int i)] [] σ τ := by
  refine k_aload_n C 1 dL_law_630 rfl rfl ?_
  refine k_aload_n C 0 dL_law_631 rfl rfl ?_
  refine k_iload_n C 3 dL_law_632 rfl rfl ?_
  refine k_iconst C dL_law_633 ic_1 ?_
  refine k_iadd C dL_law_634 ?_
  refine k_sld C hi1 dL_law_635 ?_
  refine k_aload_n C 0 dL_law_636 rfl rfl ?_
  refine k_iload_n C 3 dL_law_637 rfl rfl ?_
  refine k_iconst C dL_law_638 ic_2 ?_
  refine k_iadd C dL_law_639 ?_
  refine k_sld C hi2 dL_law_640 ?_
  refine k_callXi C (mX4_debt l0 D0 K0 hX σ (xs (i + 1).toNatClampNeg) (xs (i + 2).toNatClampNeg) hx) gL_law_X4_debt rfl rfl rfl ddX4_debt ⟨(Nat.le_of_ble_eq_true rfl), (Nat.le_of_ble_eq_true rfl)⟩ rfl rfl rfl rfl (Nat.le_of_ble_eq_true rfl) dL_law_641 ?_
  refine k_aload_n C 2 dL_law_644 rfl rfl ?_
  refine k_aload_n C 0 dL_law_645 rfl rfl ?_
  refine k_iload_n C 3 dL_law_646 rfl rfl ?_
  refine k_iconst C dL_law_647 ic_1 ?_
  refine k_iadd C dL_law_648 ?_
  refine k_sld C hi1 dL_law_649 ?_
  refine k_aload_n C 0 dL_law_650 rfl rfl ?_
  refine k_iload_n C 3 dL_law_651 rfl rfl ?_
  refine k_iconst C dL_law_652 ic_2 ?_
  refine k_iadd C dL_law_653 ?_
  refine k_sld C hi2 dL_law_654 ?_
  refine k_callMi C (mX5_debt l0 D0 K1 hM τ (xs (i + 1).toNatClampNeg) (xs (i + 2).toNatClampNeg) hm) gL_law_X5_debt rfl rfl rfl ddX5_debt ⟨(Nat.le_of_ble_eq_true rfl), (Nat.le_of_ble_eq_true rfl)⟩ rfl rfl rfl rfl (Nat.le_of_ble_eq_true rfl) dL_law_655 ?_
  exact k_icmp_eqT (tgt := 1349) C rfl dL_law_658 (by decide) kk
set_option maxHeartbeats 4000000 in
set_option maxRecDepth 100000 in
theorem law_law {r : Int32} {ux : pS} {um : pS} (C : C2 hX hM Y l0 D0 K0 K1 b L xs) (hi1 : vp_in (i + 1) L) (hx : fX4_law σ (xs (i + 1).toNatClampNeg) = some (r, ux)) (hm : fX5_law τ (xs (i + 1).toNatClampNeg) = some (r, um)) (kk : G2 hX hM Y 1349 [(0, .ref b), (1, .ref (hX 0)), (2, .ref (hM 0)), (3, .int i)] [] ux um) : G2 hX hM Y 663 [(0, .ref b), (1, .ref (hX 0)), (2, .ref (hM 0)), (3, .int i)] [] σ τ := by
  refine k_aload_n C 1 dL_law_663 rfl rfl ?_
  refine k_aload_n C 0 dL_law_664 rfl rfl ?_
  refine k_iload_n C 3 dL_law_665 rfl rfl ?_
  refine k_iconst C dL_law_666 ic_1 ?_
  refine k_iadd C dL_law_667 ?_
  refine k_sld C hi1 dL_law_668 ?_
  refine k_callXi C (mX4_law l0 D0 K0 hX σ (xs (i + 1).toNatClampNeg) hx) gL_law_X4_law rfl rfl rfl ddX4_law ⟨(Nat.le_of_ble_eq_true rfl), (Nat.le_of_ble_eq_true rfl)⟩ rfl rfl rfl rfl (Nat.le_of_ble_eq_true rfl) dL_law_669 ?_
  refine k_aload_n C 2 dL_law_672 rfl rfl ?_
  refine k_aload_n C 0 dL_law_673 rfl rfl ?_
  refine k_iload_n C 3 dL_law_674 rfl rfl ?_
  refine k_iconst C dL_law_675 ic_1 ?_
  refine k_iadd C dL_law_676 ?_
  refine k_sld C hi1 dL_law_677 ?_
  refine k_callMi C (mX5_law l0 D0 K1 hM τ (xs (i + 1).toNatClampNeg) hm) gL_law_X5_law rfl rfl rfl ddX5_law ⟨(Nat.le_of_ble_eq_true rfl), (Nat.le_of_ble_eq_true rfl)⟩ rfl rfl rfl rfl (Nat.le_of_ble_eq_true rfl) dL_law_678 ?_
  exact k_icmp_eqT (tgt := 1349) C rfl dL_law_681 (by decide) kk
set_option maxHeartbeats 4000000 in
set_option maxRecDepth 100000 in
theorem law_cards {r : Int32} {ux : pS} {um : pS} (C : C2 hX hM Y l0 D0 K0 K1 b L xs) (hi1 : vp_in (i + 1) L) (hi2 : vp_in (i + 2) L) (hx : fX4_cards σ (xs (i + 1).toNatClampNeg) (xs (i + 2).toNatClampNeg) = some (r, ux)) (hm : fX5_cards τ (xs (i + 1).toNatClampNeg) (xs (i + 2).toNatClampNeg) = some (r, um)) (kk : G2 hX hM Y 1349 [(0, .ref b), (1, .ref (hX 0)), (2, .ref (hM 0)), (3, .int i)] [] ux um) : G2 hX hM Y 686 [(0, .ref b), (1, .ref (hX 0)), (2, .ref (hM 0)), (3, .int i)] [] σ τ := by
  refine k_aload_n C 1 dL_law_686 rfl rfl ?_
  refine k_aload_n C 0 dL_law_687 rfl rfl ?_
  refine k_iload_n C 3 dL_law_688 rfl rfl ?_
  refine k_iconst C dL_law_689 ic_1 ?_
  refine k_iadd C dL_law_690 ?_
  refine k_sld C hi1 dL_law_691 ?_
  refine k_aload_n C 0 dL_law_692 rfl rfl ?_
  refine k_iload_n C 3 dL_law_693 rfl rfl ?_
  refine k_iconst C dL_law_694 ic_2 ?_
  refine k_iadd C dL_law_695 ?_
  refine k_sld C hi2 dL_law_696 ?_
  refine k_callXi C (mX4_cards l0 D0 K0 hX σ (xs (i + 1).toNatClampNeg) (xs (i + 2).toNatClampNeg) hx) gL_law_X4_cards rfl rfl rfl ddX4_cards ⟨(Nat.le_of_ble_eq_true rfl), (Nat.le_of_ble_eq_true rfl)⟩ rfl rfl rfl rfl (Nat.le_of_ble_eq_true rfl) dL_law_697 ?_
  refine k_aload_n C 2 dL_law_700 rfl rfl ?_
  refine k_aload_n C 0 dL_law_701 rfl rfl ?_
  refine k_iload_n C 3 dL_law_702 rfl rfl ?_
  refine k_iconst C dL_law_703 ic_1 ?_
  refine k_iadd C dL_law_704 ?_
  refine k_sld C hi1 dL_law_705 ?_
  refine k_aload_n C 0 dL_law_706 rfl rfl ?_
  refine k_iload_n C 3 dL_law_707 rfl rfl ?_
  refine k_iconst C dL_law_708 ic_2 ?_
  refine k_iadd C dL_law_709 ?_
  refine k_sld C hi2 dL_law_710 ?_
  refine k_callMi C (mX5_cards l0 D0 K1 hM τ (xs (i + 1).toNatClampNeg) (xs (i + 2).toNatClampNeg) hm) gL_law_X5_cards rfl rfl rfl ddX5_cards ⟨(Nat.le_of_ble_eq_true rfl), (Nat.le_of_ble_eq_true rfl)⟩ rfl rfl rfl rfl (Nat.le_of_ble_eq_true rfl) dL_law_711 ?_
  exact k_icmp_eqT (tgt := 1349) C rfl dL_law_714 (by decide) kk
set_option maxHeartbeats 4000000 in
set_option maxRecDepth 100000 in
theorem law_habit {r : Int32} {ux : pS} {um : pS} (C : C2 hX hM Y l0 D0 K0 K1 b L xs) (hi1 : vp_in (i + 1) L) (hi2 : vp_in (i + 2) L) (hi3 : vp_in (i + 3) L) (hx : fX4_habit σ (xs (i + 1).toNatClampNeg) (xs (i + 2).toNatClampNeg) (xs (i + 3).toNatClampNeg) = some (r, ux)) (hm : fX5_habit τ (xs (i + 1).toNatClampNeg) (xs (i + 2).toNatClampNeg) (xs (i + 3).toNatClampNeg) = some (r, um)) (kk : G2 hX hM Y 1349 [(0, .ref b), (1, .ref (hX 0)), (2, .ref (hM 0)), (3, .int i)] [] ux um) : G2 hX hM Y 719 [(0, .ref b), (1, .ref (hX 0)), (2, .ref (hM 0)), (3, .int i)] [] σ τ := by
  refine k_aload_n C 1 dL_law_719 rfl rfl ?_
  refine k_aload_n C 0 dL_law_720 rfl rfl ?_
  refine k_iload_n C 3 dL_law_721 rfl rfl ?_
  refine k_iconst C dL_law_722 ic_1 ?_
  refine k_iadd C dL_law_723 ?_
  refine k_sld C hi1 dL_law_724 ?_
  refine k_aload_n C 0 dL_law_725 rfl rfl ?_
  refine k_iload_n C 3 dL_law_726 rfl rfl ?_
  refine k_iconst C dL_law_727 ic_2 ?_
  refine k_iadd C dL_law_728 ?_
  refine k_sld C hi2 dL_law_729 ?_
  refine k_aload_n C 0 dL_law_730 rfl rfl ?_
  refine k_iload_n C 3 dL_law_731 rfl rfl ?_
  refine k_iconst C dL_law_732 ic_3 ?_
  refine k_iadd C dL_law_733 ?_
  refine k_sld C hi3 dL_law_734 ?_
  refine k_callXi C (mX4_habit l0 D0 K0 hX σ (xs (i + 1).toNatClampNeg) (xs (i + 2).toNatClampNeg) (xs (i + 3).toNatClampNeg) hx) gL_law_X4_habit rfl rfl rfl ddX4_habit ⟨(Nat.le_of_ble_eq_true rfl), (Nat.le_of_ble_eq_true rfl)⟩ rfl rfl rfl rfl (Nat.le_of_ble_eq_true rfl) dL_law_735 ?_
  refine k_aload_n C 2 dL_law_738 rfl rfl ?_
  refine k_aload_n C 0 dL_law_739 rfl rfl ?_
  refine k_iload_n C 3 dL_law_740 rfl rfl ?_
  refine k_iconst C dL_law_741 ic_1 ?_
  refine k_iadd C dL_law_742 ?_
  refine k_sld C hi1 dL_law_743 ?_
  refine k_aload_n C 0 dL_law_744 rfl rfl ?_
  refine k_iload_n C 3 dL_law_745 rfl rfl ?_
  refine k_iconst C dL_law_746 ic_2 ?_
  refine k_iadd C dL_law_747 ?_
  refine k_sld C hi2 dL_law_748 ?_
  refine k_aload_n C 0 dL_law_749 rfl rfl ?_
  refine k_iload_n C 3 dL_law_750 rfl rfl ?_
  refine k_iconst C dL_law_751 ic_3 ?_
  refine k_iadd C dL_law_752 ?_
  refine k_sld C hi3 dL_law_753 ?_
  refine k_callMi C (mX5_habit l0 D0 K1 hM τ (xs (i + 1).toNatClampNeg) (xs (i + 2).toNatClampNeg) (xs (i + 3).toNatClampNeg) hm) gL_law_X5_habit rfl rfl rfl ddX5_habit ⟨(Nat.le_of_ble_eq_true rfl), (Nat.le_of_ble_eq_true rfl)⟩ rfl rfl rfl rfl (Nat.le_of_ble_eq_true rfl) dL_law_754 ?_
  exact k_icmp_eqT (tgt := 1349) C rfl dL_law_757 (by decide) kk
set_option maxHeartbeats 4000000 in
set_option maxRecDepth 100000 in
theorem law_empty {r : Int32} (C : C2 hX hM Y l0 D0 K0 K1 b L xs) (hi1 : vp_in (i + 1) L) (hx : fX4_empty σ (xs (i + 1).toNatClampNeg) = some r) (hm : fX5_empty τ (xs (i + 1).toNatClampNeg) = some r) (kk : G2 hX hM Y 1349 [(0, .ref b), (1, .ref (hX 0)), (2, .ref (hM 0)), (3, .int i)] [] σ τ) : G2 hX hM Y 762 [(0, .ref b), (1, .ref (hX 0)), (2, .ref (hM 0)), (3, .int i)] [] σ τ := by
  refine k_aload_n C 1 dL_law_762 rfl rfl ?_
  refine k_aload_n C 0 dL_law_763 rfl rfl ?_
  refine k_iload_n C 3 dL_law_764 rfl rfl ?_
  refine k_iconst C dL_law_765 ic_1 ?_
  refine k_iadd C dL_law_766 ?_
  refine k_sld C hi1 dL_law_767 ?_
  refine k_callXi C (mX4_empty l0 D0 K0 hX σ (xs (i + 1).toNatClampNeg) hx) gL_law_X4_empty rfl rfl rfl ddX4_empty ⟨(Nat.le_of_ble_eq_true rfl), (Nat.le_of_ble_eq_true rfl)⟩ rfl rfl rfl rfl (Nat.le_of_ble_eq_true rfl) dL_law_768 ?_
  refine k_aload_n C 2 dL_law_771 rfl rfl ?_
  refine k_aload_n C 0 dL_law_772 rfl rfl ?_
  refine k_iload_n C 3 dL_law_773 rfl rfl ?_
  refine k_iconst C dL_law_774 ic_1 ?_
  refine k_iadd C dL_law_775 ?_
  refine k_sld C hi1 dL_law_776 ?_
  refine k_callMi C (mX5_empty l0 D0 K1 hM τ (xs (i + 1).toNatClampNeg) hm) gL_law_X5_empty rfl rfl rfl ddX5_empty ⟨(Nat.le_of_ble_eq_true rfl), (Nat.le_of_ble_eq_true rfl)⟩ rfl rfl rfl rfl (Nat.le_of_ble_eq_true rfl) dL_law_777 ?_
  exact k_icmp_eqT (tgt := 1349) C rfl dL_law_780 (by decide) kk
set_option maxHeartbeats 4000000 in
set_option maxRecDepth 100000 in
theorem law_when {r : Int32} (C : C2 hX hM Y l0 D0 K0 K1 b L xs) (hi1 : vp_in (i + 1) L) (hx : fX4_when σ (xs (i + 1).toNatClampNeg) = some r) (hm : fX5_when τ (xs (i + 1).toNatClampNeg) = some r) (kk : G2 hX hM Y 1349 [(0, .ref b), (1, .ref (hX 0)), (2, .ref (hM 0)), (3, .int i)] [] σ τ) : G2 hX hM Y 785 [(0, .ref b), (1, .ref (hX 0)), (2, .ref (hM 0)), (3, .int i)] [] σ τ := by
  refine k_aload_n C 1 dL_law_785 rfl rfl ?_
  refine k_aload_n C 0 dL_law_786 rfl rfl ?_
  refine k_iload_n C 3 dL_law_787 rfl rfl ?_
  refine k_iconst C dL_law_788 ic_1 ?_
  refine k_iadd C dL_law_789 ?_
  refine k_sld C hi1 dL_law_790 ?_
  refine k_callXi C (mX4_when l0 D0 K0 hX σ (xs (i + 1).toNatClampNeg) hx) gL_law_X4_when rfl rfl rfl ddX4_when ⟨(Nat.le_of_ble_eq_true rfl), (Nat.le_of_ble_eq_true rfl)⟩ rfl rfl rfl rfl (Nat.le_of_ble_eq_true rfl) dL_law_791 ?_
  refine k_aload_n C 2 dL_law_794 rfl rfl ?_
  refine k_aload_n C 0 dL_law_795 rfl rfl ?_
  refine k_iload_n C 3 dL_law_796 rfl rfl ?_
  refine k_iconst C dL_law_797 ic_1 ?_
  refine k_iadd C dL_law_798 ?_
  refine k_sld C hi1 dL_law_799 ?_
  refine k_callMi C (mX5_when l0 D0 K1 hM τ (xs (i + 1).toNatClampNeg) hm) gL_law_X5_when rfl rfl rfl ddX5_when ⟨(Nat.le_of_ble_eq_true rfl), (Nat.le_of_ble_eq_true rfl)⟩ rfl rfl rfl rfl (Nat.le_of_ble_eq_true rfl) dL_law_800 ?_
  exact k_icmp_eqT (tgt := 1349) C rfl dL_law_803 (by decide) kk
set_option maxHeartbeats 4000000 in
set_option maxRecDepth 100000 in
theorem law_hour {r : Int32} {ux : pS} {um : pS} (C : C2 hX hM Y l0 D0 K0 K1 b L xs) (hi1 : vp_in (i + 1) L) (hx : fX4_hour σ (xs (i + 1).toNatClampNeg) = some (r, ux)) (hm : fX5_hour τ (xs (i + 1).toNatClampNeg) = some (r, um)) (kk : G2 hX hM Y 1349 [(0, .ref b), (1, .ref (hX 0)), (2, .ref (hM 0)), (3, .int i)] [] ux um) : G2 hX hM Y 808 [(0, .ref b), (1, .ref (hX 0)), (2, .ref (hM 0)), (3, .int i)] [] σ τ := by
  refine k_aload_n C 1 dL_law_808 rfl rfl ?_
  refine k_aload_n C 0 dL_law_809 rfl rfl ?_
  refine k_iload_n C 3 dL_law_810 rfl rfl ?_
  refine k_iconst C dL_law_811 ic_1 ?_
  refine k_iadd C dL_law_812 ?_
  refine k_sld C hi1 dL_law_813 ?_
  refine k_callXi C (mX4_hour l0 D0 K0 hX σ (xs (i + 1).toNatClampNeg) hx) gL_law_X4_hour rfl rfl rfl ddX4_hour ⟨(Nat.le_of_ble_eq_true rfl), (Nat.le_of_ble_eq_true rfl)⟩ rfl rfl rfl rfl (Nat.le_of_ble_eq_true rfl) dL_law_814 ?_
  refine k_aload_n C 2 dL_law_817 rfl rfl ?_
  refine k_aload_n C 0 dL_law_818 rfl rfl ?_
  refine k_iload_n C 3 dL_law_819 rfl rfl ?_
  refine k_iconst C dL_law_820 ic_1 ?_
  refine k_iadd C dL_law_821 ?_
  refine k_sld C hi1 dL_law_822 ?_
  refine k_callMi C (mX5_hour l0 D0 K1 hM τ (xs (i + 1).toNatClampNeg) hm) gL_law_X5_hour rfl rfl rfl ddX5_hour ⟨(Nat.le_of_ble_eq_true rfl), (Nat.le_of_ble_eq_true rfl)⟩ rfl rfl rfl rfl (Nat.le_of_ble_eq_true rfl) dL_law_823 ?_
  exact k_icmp_eqT (tgt := 1349) C rfl dL_law_826 (by decide) kk
set_option maxHeartbeats 4000000 in
set_option maxRecDepth 100000 in
theorem law_judge {r : Int32} {ux : pS} {um : pS} (C : C2 hX hM Y l0 D0 K0 K1 b L xs) (hi1 : vp_in (i + 1) L) (hx : fX4_judge σ (xs (i + 1).toNatClampNeg) = some (r, ux)) (hm : fX5_judge τ (xs (i + 1).toNatClampNeg) = some (r, um)) (kk : G2 hX hM Y 1349 [(0, .ref b), (1, .ref (hX 0)), (2, .ref (hM 0)), (3, .int i)] [] ux um) : G2 hX hM Y 831 [(0, .ref b), (1, .ref (hX 0)), (2, .ref (hM 0)), (3, .int i)] [] σ τ := by
  refine k_aload_n C 1 dL_law_831 rfl rfl ?_
  refine k_aload_n C 0 dL_law_832 rfl rfl ?_
  refine k_iload_n C 3 dL_law_833 rfl rfl ?_
  refine k_iconst C dL_law_834 ic_1 ?_
  refine k_iadd C dL_law_835 ?_
  refine k_sld C hi1 dL_law_836 ?_
  refine k_callXi C (mX4_judge l0 D0 K0 hX σ (xs (i + 1).toNatClampNeg) hx) gL_law_X4_judge rfl rfl rfl ddX4_judge ⟨(Nat.le_of_ble_eq_true rfl), (Nat.le_of_ble_eq_true rfl)⟩ rfl rfl rfl rfl (Nat.le_of_ble_eq_true rfl) dL_law_837 ?_
  refine k_aload_n C 2 dL_law_840 rfl rfl ?_
  refine k_aload_n C 0 dL_law_841 rfl rfl ?_
  refine k_iload_n C 3 dL_law_842 rfl rfl ?_
  refine k_iconst C dL_law_843 ic_1 ?_
  refine k_iadd C dL_law_844 ?_
  refine k_sld C hi1 dL_law_845 ?_
  refine k_callMi C (mX5_judge l0 D0 K1 hM τ (xs (i + 1).toNatClampNeg) hm) gL_law_X5_judge rfl rfl rfl ddX5_judge ⟨(Nat.le_of_ble_eq_true rfl), (Nat.le_of_ble_eq_true rfl)⟩ rfl rfl rfl rfl (Nat.le_of_ble_eq_true rfl) dL_law_846 ?_
  exact k_icmp_eqT (tgt := 1349) C rfl dL_law_849 (by decide) kk
set_option maxHeartbeats 4000000 in
set_option maxRecDepth 100000 in
theorem law_worth {r : Int32} {ux : pS} {um : pS} (C : C2 hX hM Y l0 D0 K0 K1 b L xs) (hi1 : vp_in (i + 1) L) (hx : fX4_worth σ (xs (i + 1).toNatClampNeg) = some (r, ux)) (hm : fX5_worth τ (xs (i + 1).toNatClampNeg) = some (r, um)) (kk : G2 hX hM Y 1349 [(0, .ref b), (1, .ref (hX 0)), (2, .ref (hM 0)), (3, .int i)] [] ux um) : G2 hX hM Y 854 [(0, .ref b), (1, .ref (hX 0)), (2, .ref (hM 0)), (3, .int i)] [] σ τ := by
  refine k_aload_n C 1 dL_law_854 rfl rfl ?_
  refine k_aload_n C 0 dL_law_855 rfl rfl ?_
  refine k_iload_n C 3 dL_law_856 rfl rfl ?_
  refine k_iconst C dL_law_857 ic_1 ?_
  refine k_iadd C dL_law_858 ?_
  refine k_sld C hi1 dL_law_859 ?_
  refine k_callXi C (mX4_worth l0 D0 K0 hX σ (xs (i + 1).toNatClampNeg) hx) gL_law_X4_worth rfl rfl rfl ddX4_worth ⟨(Nat.le_of_ble_eq_true rfl), (Nat.le_of_ble_eq_true rfl)⟩ rfl rfl rfl rfl (Nat.le_of_ble_eq_true rfl) dL_law_860 ?_
  refine k_aload_n C 2 dL_law_863 rfl rfl ?_
  refine k_aload_n C 0 dL_law_864 rfl rfl ?_
  refine k_iload_n C 3 dL_law_865 rfl rfl ?_
  refine k_iconst C dL_law_866 ic_1 ?_
  refine k_iadd C dL_law_867 ?_
  refine k_sld C hi1 dL_law_868 ?_
  refine k_callMi C (mX5_worth l0 D0 K1 hM τ (xs (i + 1).toNatClampNeg) hm) gL_law_X5_worth rfl rfl rfl ddX5_worth ⟨(Nat.le_of_ble_eq_true rfl), (Nat.le_of_ble_eq_true rfl)⟩ rfl rfl rfl rfl (Nat.le_of_ble_eq_true rfl) dL_law_869 ?_
  exact k_icmp_eqT (tgt := 1349) C rfl dL_law_872 (by decide) kk
set_option maxHeartbeats 4000000 in
set_option maxRecDepth 100000 in
theorem law_best {r : Int32} {ux : pS} {um : pS} (C : C2 hX hM Y l0 D0 K0 K1 b L xs) (hi1 : vp_in (i + 1) L) (hx : fX4_best σ (xs (i + 1).toNatClampNeg) = some (r, ux)) (hm : fX5_best τ (xs (i + 1).toNatClampNeg) = some (r, um)) (kk : G2 hX hM Y 1349 [(0, .ref b), (1, .ref (hX 0)), (2, .ref (hM 0)), (3, .int i)] [] ux um) : G2 hX hM Y 877 [(0, .ref b), (1, .ref (hX 0)), (2, .ref (hM 0)), (3, .int i)] [] σ τ := by
  refine k_aload_n C 1 dL_law_877 rfl rfl ?_
  refine k_aload_n C 0 dL_law_878 rfl rfl ?_
  refine k_iload_n C 3 dL_law_879 rfl rfl ?_
  refine k_iconst C dL_law_880 ic_1 ?_
  refine k_iadd C dL_law_881 ?_
  refine k_sld C hi1 dL_law_882 ?_
  refine k_callXi C (mX4_best l0 D0 K0 hX σ (xs (i + 1).toNatClampNeg) hx) gL_law_X4_best rfl rfl rfl ddX4_best ⟨(Nat.le_of_ble_eq_true rfl), (Nat.le_of_ble_eq_true rfl)⟩ rfl rfl rfl rfl (Nat.le_of_ble_eq_true rfl) dL_law_883 ?_
  refine k_aload_n C 2 dL_law_886 rfl rfl ?_
  refine k_aload_n C 0 dL_law_887 rfl rfl ?_
  refine k_iload_n C 3 dL_law_888 rfl rfl ?_
  refine k_iconst C dL_law_889 ic_1 ?_
  refine k_iadd C dL_law_890 ?_
  refine k_sld C hi1 dL_law_891 ?_
  refine k_callMi C (mX5_best l0 D0 K1 hM τ (xs (i + 1).toNatClampNeg) hm) gL_law_X5_best rfl rfl rfl ddX5_best ⟨(Nat.le_of_ble_eq_true rfl), (Nat.le_of_ble_eq_true rfl)⟩ rfl rfl rfl rfl (Nat.le_of_ble_eq_true rfl) dL_law_892 ?_
  exact k_icmp_eqT (tgt := 1349) C rfl dL_law_895 (by decide) kk
set_option maxHeartbeats 4000000 in
set_option maxRecDepth 100000 in
theorem law_ways {r : Int32} {ux : pS} {um : pS} (C : C2 hX hM Y l0 D0 K0 K1 b L xs) (hx : fX4_ways σ = some (r, ux)) (hm : fX5_ways τ = some (r, um)) (kk : G2 hX hM Y 1349 [(0, .ref b), (1, .ref (hX 0)), (2, .ref (hM 0)), (3, .int i)] [] ux um) : G2 hX hM Y 900 [(0, .ref b), (1, .ref (hX 0)), (2, .ref (hM 0)), (3, .int i)] [] σ τ := by
  refine k_aload_n C 1 dL_law_900 rfl rfl ?_
  refine k_callXi C (mX4_ways l0 D0 K0 hX σ hx) gL_law_X4_ways rfl rfl rfl ddX4_ways ⟨(Nat.le_of_ble_eq_true rfl), (Nat.le_of_ble_eq_true rfl)⟩ rfl rfl rfl rfl (Nat.le_of_ble_eq_true rfl) dL_law_901 ?_
  refine k_aload_n C 2 dL_law_904 rfl rfl ?_
  refine k_callMi C (mX5_ways l0 D0 K1 hM τ hm) gL_law_X5_ways rfl rfl rfl ddX5_ways ⟨(Nat.le_of_ble_eq_true rfl), (Nat.le_of_ble_eq_true rfl)⟩ rfl rfl rfl rfl (Nat.le_of_ble_eq_true rfl) dL_law_905 ?_
  exact k_icmp_eqT (tgt := 1349) C rfl dL_law_908 (by decide) kk
set_option maxHeartbeats 4000000 in
set_option maxRecDepth 100000 in
theorem law_soonest {r : Int32} {ux : pS} {um : pS} (C : C2 hX hM Y l0 D0 K0 K1 b L xs) (hx : fX4_soonest σ = some (r, ux)) (hm : fX5_soonest τ = some (r, um)) (kk : G2 hX hM Y 1349 [(0, .ref b), (1, .ref (hX 0)), (2, .ref (hM 0)), (3, .int i)] [] ux um) : G2 hX hM Y 913 [(0, .ref b), (1, .ref (hX 0)), (2, .ref (hM 0)), (3, .int i)] [] σ τ := by
  refine k_aload_n C 1 dL_law_913 rfl rfl ?_
  refine k_callXi C (mX4_soonest l0 D0 K0 hX σ hx) gL_law_X4_soonest rfl rfl rfl ddX4_soonest ⟨(Nat.le_of_ble_eq_true rfl), (Nat.le_of_ble_eq_true rfl)⟩ rfl rfl rfl rfl (Nat.le_of_ble_eq_true rfl) dL_law_914 ?_
  refine k_aload_n C 2 dL_law_917 rfl rfl ?_
  refine k_callMi C (mX5_soonest l0 D0 K1 hM τ hm) gL_law_X5_soonest rfl rfl rfl ddX5_soonest ⟨(Nat.le_of_ble_eq_true rfl), (Nat.le_of_ble_eq_true rfl)⟩ rfl rfl rfl rfl (Nat.le_of_ble_eq_true rfl) dL_law_918 ?_
  exact k_icmp_eqT (tgt := 1349) C rfl dL_law_921 (by decide) kk
set_option maxHeartbeats 4000000 in
set_option maxRecDepth 100000 in
theorem law_rings {r : Int32} {ux : pS} {um : pS} (C : C2 hX hM Y l0 D0 K0 K1 b L xs) (hx : fX4_rings σ = some (r, ux)) (hm : fX5_rings τ = some (r, um)) (kk : G2 hX hM Y 1349 [(0, .ref b), (1, .ref (hX 0)), (2, .ref (hM 0)), (3, .int i)] [] ux um) : G2 hX hM Y 926 [(0, .ref b), (1, .ref (hX 0)), (2, .ref (hM 0)), (3, .int i)] [] σ τ := by
  refine k_aload_n C 1 dL_law_926 rfl rfl ?_
  refine k_callXi C (mX4_rings l0 D0 K0 hX σ hx) gL_law_X4_rings rfl rfl rfl ddX4_rings ⟨(Nat.le_of_ble_eq_true rfl), (Nat.le_of_ble_eq_true rfl)⟩ rfl rfl rfl rfl (Nat.le_of_ble_eq_true rfl) dL_law_927 ?_
  refine k_aload_n C 2 dL_law_930 rfl rfl ?_
  refine k_callMi C (mX5_rings l0 D0 K1 hM τ hm) gL_law_X5_rings rfl rfl rfl ddX5_rings ⟨(Nat.le_of_ble_eq_true rfl), (Nat.le_of_ble_eq_true rfl)⟩ rfl rfl rfl rfl (Nat.le_of_ble_eq_true rfl) dL_law_931 ?_
  exact k_icmp_eqT (tgt := 1349) C rfl dL_law_934 (by decide) kk
set_option maxHeartbeats 4000000 in
set_option maxRecDepth 100000 in
theorem law_few {r : Int32} {ux : pS} {um : pS} (C : C2 hX hM Y l0 D0 K0 K1 b L xs) (hi1 : vp_in (i + 1) L) (hi2 : vp_in (i + 2) L) (hx : fX4_few σ (xs (i + 1).toNatClampNeg) (xs (i + 2).toNatClampNeg) = some (r, ux)) (hm : fX5_few τ (xs (i + 1).toNatClampNeg) (xs (i + 2).toNatClampNeg) = some (r, um)) (kk : G2 hX hM Y 1349 [(0, .ref b), (1, .ref (hX 0)), (2, .ref (hM 0)), (3, .int i)] [] ux um) : G2 hX hM Y 939 [(0, .ref b), (1, .ref (hX 0)), (2, .ref (hM 0)), (3, .int i)] [] σ τ := by
  refine k_aload_n C 1 dL_law_939 rfl rfl ?_
  refine k_aload_n C 0 dL_law_940 rfl rfl ?_
  refine k_iload_n C 3 dL_law_941 rfl rfl ?_
  refine k_iconst C dL_law_942 ic_1 ?_
  refine k_iadd C dL_law_943 ?_
  refine k_sld C hi1 dL_law_944 ?_
  refine k_aload_n C 0 dL_law_945 rfl rfl ?_
  refine k_iload_n C 3 dL_law_946 rfl rfl ?_
  refine k_iconst C dL_law_947 ic_2 ?_
  refine k_iadd C dL_law_948 ?_
  refine k_sld C hi2 dL_law_949 ?_
  refine k_callXi C (mX4_few l0 D0 K0 hX σ (xs (i + 1).toNatClampNeg) (xs (i + 2).toNatClampNeg) hx) gL_law_X4_few rfl rfl rfl ddX4_few ⟨(Nat.le_of_ble_eq_true rfl), (Nat.le_of_ble_eq_true rfl)⟩ rfl rfl rfl rfl (Nat.le_of_ble_eq_true rfl) dL_law_950 ?_
  refine k_aload_n C 2 dL_law_953 rfl rfl ?_
  refine k_aload_n C 0 dL_law_954 rfl rfl ?_
  refine k_iload_n C 3 dL_law_955 rfl rfl ?_
  refine k_iconst C dL_law_956 ic_1 ?_
  refine k_iadd C dL_law_957 ?_
  refine k_sld C hi1 dL_law_958 ?_
  refine k_aload_n C 0 dL_law_959 rfl rfl ?_
  refine k_iload_n C 3 dL_law_960 rfl rfl ?_
  refine k_iconst C dL_law_961 ic_2 ?_
  refine k_iadd C dL_law_962 ?_
  refine k_sld C hi2 dL_law_963 ?_
  refine k_callMi C (mX5_few l0 D0 K1 hM τ (xs (i + 1).toNatClampNeg) (xs (i + 2).toNatClampNeg) hm) gL_law_X5_few rfl rfl rfl ddX5_few ⟨(Nat.le_of_ble_eq_true rfl), (Nat.le_of_ble_eq_true rfl)⟩ rfl rfl rfl rfl (Nat.le_of_ble_eq_true rfl) dL_law_964 ?_
  exact k_icmp_eqT (tgt := 1349) C rfl dL_law_967 (by decide) kk
set_option maxHeartbeats 4000000 in
set_option maxRecDepth 100000 in
theorem law_call {r : Int32} {ux : pS} {um : pS} (C : C2 hX hM Y l0 D0 K0 K1 b L xs) (hx : fX4_call σ = some (r, ux)) (hm : fX5_call τ = some (r, um)) (kk : G2 hX hM Y 1349 [(0, .ref b), (1, .ref (hX 0)), (2, .ref (hM 0)), (3, .int i)] [] ux um) : G2 hX hM Y 972 [(0, .ref b), (1, .ref (hX 0)), (2, .ref (hM 0)), (3, .int i)] [] σ τ := by
  refine k_aload_n C 1 dL_law_972 rfl rfl ?_
  refine k_callXi C (mX4_call l0 D0 K0 hX σ hx) gL_law_X4_call rfl rfl rfl ddX4_call ⟨(Nat.le_of_ble_eq_true rfl), (Nat.le_of_ble_eq_true rfl)⟩ rfl rfl rfl rfl (Nat.le_of_ble_eq_true rfl) dL_law_973 ?_
  refine k_aload_n C 2 dL_law_976 rfl rfl ?_
  refine k_callMi C (mX5_call l0 D0 K1 hM τ hm) gL_law_X5_call rfl rfl rfl ddX5_call ⟨(Nat.le_of_ble_eq_true rfl), (Nat.le_of_ble_eq_true rfl)⟩ rfl rfl rfl rfl (Nat.le_of_ble_eq_true rfl) dL_law_977 ?_
  exact k_icmp_eqT (tgt := 1349) C rfl dL_law_980 (by decide) kk
set_option maxHeartbeats 4000000 in
set_option maxRecDepth 100000 in
theorem law_stay {r : Int32} {ux : pS} {um : pS} (C : C2 hX hM Y l0 D0 K0 K1 b L xs) (hi1 : vp_in (i + 1) L) (hx : fX4_stay σ (xs (i + 1).toNatClampNeg) = some (r, ux)) (hm : fX5_stay τ (xs (i + 1).toNatClampNeg) = some (r, um)) (kk : G2 hX hM Y 1349 [(0, .ref b), (1, .ref (hX 0)), (2, .ref (hM 0)), (3, .int i)] [] ux um) : G2 hX hM Y 985 [(0, .ref b), (1, .ref (hX 0)), (2, .ref (hM 0)), (3, .int i)] [] σ τ := by
  refine k_aload_n C 1 dL_law_985 rfl rfl ?_
  refine k_aload_n C 0 dL_law_986 rfl rfl ?_
  refine k_iload_n C 3 dL_law_987 rfl rfl ?_
  refine k_iconst C dL_law_988 ic_1 ?_
  refine k_iadd C dL_law_989 ?_
  refine k_sld C hi1 dL_law_990 ?_
  refine k_callXi C (mX4_stay l0 D0 K0 hX σ (xs (i + 1).toNatClampNeg) hx) gL_law_X4_stay rfl rfl rfl ddX4_stay ⟨(Nat.le_of_ble_eq_true rfl), (Nat.le_of_ble_eq_true rfl)⟩ rfl rfl rfl rfl (Nat.le_of_ble_eq_true rfl) dL_law_991 ?_
  refine k_aload_n C 2 dL_law_994 rfl rfl ?_
  refine k_aload_n C 0 dL_law_995 rfl rfl ?_
  refine k_iload_n C 3 dL_law_996 rfl rfl ?_
  refine k_iconst C dL_law_997 ic_1 ?_
  refine k_iadd C dL_law_998 ?_
  refine k_sld C hi1 dL_law_999 ?_
  refine k_callMi C (mX5_stay l0 D0 K1 hM τ (xs (i + 1).toNatClampNeg) hm) gL_law_X5_stay rfl rfl rfl ddX5_stay ⟨(Nat.le_of_ble_eq_true rfl), (Nat.le_of_ble_eq_true rfl)⟩ rfl rfl rfl rfl (Nat.le_of_ble_eq_true rfl) dL_law_1000 ?_
  exact k_icmp_eqT (tgt := 1349) C rfl dL_law_1003 (by decide) kk
set_option maxHeartbeats 4000000 in
set_option maxRecDepth 100000 in
theorem law_against {r : Int32} {ux : pS} {um : pS} (C : C2 hX hM Y l0 D0 K0 K1 b L xs) (hi1 : vp_in (i + 1) L) (hi2 : vp_in (i + 2) L) (hx : fX4_against σ (xs (i + 1).toNatClampNeg) (xs (i + 2).toNatClampNeg) = some (r, ux)) (hm : fX5_against τ (xs (i + 1).toNatClampNeg) (xs (i + 2).toNatClampNeg) = some (r, um)) (kk : G2 hX hM Y 1349 [(0, .ref b), (1, .ref (hX 0)), (2, .ref (hM 0)), (3, .int i)] [] ux um) : G2 hX hM Y 1008 [(0, .ref b), (1, .ref (hX 0)), (2, .ref (hM 0)), (3, .int i)] [] σ τ := by
  refine k_aload_n C 1 dL_law_1008 rfl rfl ?_
  refine k_aload_n C 0 dL_law_1009 rfl rfl ?_
  refine k_iload_n C 3 dL_law_1010 rfl rfl ?_
  refine k_iconst C dL_law_1011 ic_1 ?_
  refine k_iadd C dL_law_1012 ?_
  refine k_sld C hi1 dL_law_1013 ?_
  refine k_aload_n C 0 dL_law_1014 rfl rfl ?_
  refine k_iload_n C 3 dL_law_1015 rfl rfl ?_
  refine k_iconst C dL_law_1016 ic_2 ?_
  refine k_iadd C dL_law_1017 ?_
  refine k_sld C hi2 dL_law_1018 ?_
  refine k_callXi C (mX4_against l0 D0 K0 hX σ (xs (i + 1).toNatClampNeg) (xs (i + 2).toNatClampNeg) hx) gL_law_X4_against rfl rfl rfl ddX4_against ⟨(Nat.le_of_ble_eq_true rfl), (Nat.le_of_ble_eq_true rfl)⟩ rfl rfl rfl rfl (Nat.le_of_ble_eq_true rfl) dL_law_1019 ?_
  refine k_aload_n C 2 dL_law_1022 rfl rfl ?_
  refine k_aload_n C 0 dL_law_1023 rfl rfl ?_
  refine k_iload_n C 3 dL_law_1024 rfl rfl ?_
  refine k_iconst C dL_law_1025 ic_1 ?_
  refine k_iadd C dL_law_1026 ?_
  refine k_sld C hi1 dL_law_1027 ?_
  refine k_aload_n C 0 dL_law_1028 rfl rfl ?_
  refine k_iload_n C 3 dL_law_1029 rfl rfl ?_
  refine k_iconst C dL_law_1030 ic_2 ?_
  refine k_iadd C dL_law_1031 ?_
  refine k_sld C hi2 dL_law_1032 ?_
  refine k_callMi C (mX5_against l0 D0 K1 hM τ (xs (i + 1).toNatClampNeg) (xs (i + 2).toNatClampNeg) hm) gL_law_X5_against rfl rfl rfl ddX5_against ⟨(Nat.le_of_ble_eq_true rfl), (Nat.le_of_ble_eq_true rfl)⟩ rfl rfl rfl rfl (Nat.le_of_ble_eq_true rfl) dL_law_1033 ?_
  exact k_icmp_eqT (tgt := 1349) C rfl dL_law_1036 (by decide) kk
set_option maxHeartbeats 4000000 in
set_option maxRecDepth 100000 in
theorem law_family {r : Int32} {ux : pS} {um : pS} (C : C2 hX hM Y l0 D0 K0 K1 b L xs) (hi1 : vp_in (i + 1) L) (hx : fX4_family σ (xs (i + 1).toNatClampNeg) = some (r, ux)) (hm : fX5_family τ (xs (i + 1).toNatClampNeg) = some (r, um)) (kk : G2 hX hM Y 1349 [(0, .ref b), (1, .ref (hX 0)), (2, .ref (hM 0)), (3, .int i)] [] ux um) : G2 hX hM Y 1041 [(0, .ref b), (1, .ref (hX 0)), (2, .ref (hM 0)), (3, .int i)] [] σ τ := by
  refine k_aload_n C 1 dL_law_1041 rfl rfl ?_
  refine k_aload_n C 0 dL_law_1042 rfl rfl ?_
  refine k_iload_n C 3 dL_law_1043 rfl rfl ?_
  refine k_iconst C dL_law_1044 ic_1 ?_
  refine k_iadd C dL_law_1045 ?_
  refine k_sld C hi1 dL_law_1046 ?_
  refine k_callXi C (mX4_family l0 D0 K0 hX σ (xs (i + 1).toNatClampNeg) hx) gL_law_X4_family rfl rfl rfl ddX4_family ⟨(Nat.le_of_ble_eq_true rfl), (Nat.le_of_ble_eq_true rfl)⟩ rfl rfl rfl rfl (Nat.le_of_ble_eq_true rfl) dL_law_1047 ?_
  refine k_aload_n C 2 dL_law_1050 rfl rfl ?_
  refine k_aload_n C 0 dL_law_1051 rfl rfl ?_
  refine k_iload_n C 3 dL_law_1052 rfl rfl ?_
  refine k_iconst C dL_law_1053 ic_1 ?_
  refine k_iadd C dL_law_1054 ?_
  refine k_sld C hi1 dL_law_1055 ?_
  refine k_callMi C (mX5_family l0 D0 K1 hM τ (xs (i + 1).toNatClampNeg) hm) gL_law_X5_family rfl rfl rfl ddX5_family ⟨(Nat.le_of_ble_eq_true rfl), (Nat.le_of_ble_eq_true rfl)⟩ rfl rfl rfl rfl (Nat.le_of_ble_eq_true rfl) dL_law_1056 ?_
  exact k_icmp_eqT (tgt := 1349) C rfl dL_law_1059 (by decide) kk
set_option maxHeartbeats 4000000 in
set_option maxRecDepth 100000 in
theorem law_pay {r : Int32} {ux : pS} {um : pS} (C : C2 hX hM Y l0 D0 K0 K1 b L xs) (hi1 : vp_in (i + 1) L) (hi2 : vp_in (i + 2) L) (hx : fX4_pay σ (xs (i + 1).toNatClampNeg) (xs (i + 2).toNatClampNeg) = some (r, ux)) (hm : fX5_pay τ (xs (i + 1).toNatClampNeg) (xs (i + 2).toNatClampNeg) = some (r, um)) (kk : G2 hX hM Y 1349 [(0, .ref b), (1, .ref (hX 0)), (2, .ref (hM 0)), (3, .int i)] [] ux um) : G2 hX hM Y 1064 [(0, .ref b), (1, .ref (hX 0)), (2, .ref (hM 0)), (3, .int i)] [] σ τ := by
  refine k_aload_n C 1 dL_law_1064 rfl rfl ?_
  refine k_aload_n C 0 dL_law_1065 rfl rfl ?_
  refine k_iload_n C 3 dL_law_1066 rfl rfl ?_
  refine k_iconst C dL_law_1067 ic_1 ?_
  refine k_iadd C dL_law_1068 ?_
  refine k_sld C hi1 dL_law_1069 ?_
  refine k_aload_n C 0 dL_law_1070 rfl rfl ?_
  refine k_iload_n C 3 dL_law_1071 rfl rfl ?_
  refine k_iconst C dL_law_1072 ic_2 ?_
  refine k_iadd C dL_law_1073 ?_
  refine k_sld C hi2 dL_law_1074 ?_
  refine k_callXi C (mX4_pay l0 D0 K0 hX σ (xs (i + 1).toNatClampNeg) (xs (i + 2).toNatClampNeg) hx) gL_law_X4_pay rfl rfl rfl ddX4_pay ⟨(Nat.le_of_ble_eq_true rfl), (Nat.le_of_ble_eq_true rfl)⟩ rfl rfl rfl rfl (Nat.le_of_ble_eq_true rfl) dL_law_1075 ?_
  refine k_aload_n C 2 dL_law_1078 rfl rfl ?_
  refine k_aload_n C 0 dL_law_1079 rfl rfl ?_
  refine k_iload_n C 3 dL_law_1080 rfl rfl ?_
  refine k_iconst C dL_law_1081 ic_1 ?_
  refine k_iadd C dL_law_1082 ?_
  refine k_sld C hi1 dL_law_1083 ?_
  refine k_aload_n C 0 dL_law_1084 rfl rfl ?_
  refine k_iload_n C 3 dL_law_1085 rfl rfl ?_
  refine k_iconst C dL_law_1086 ic_2 ?_
  refine k_iadd C dL_law_1087 ?_
  refine k_sld C hi2 dL_law_1088 ?_
  refine k_callMi C (mX5_pay l0 D0 K1 hM τ (xs (i + 1).toNatClampNeg) (xs (i + 2).toNatClampNeg) hm) gL_law_X5_pay rfl rfl rfl ddX5_pay ⟨(Nat.le_of_ble_eq_true rfl), (Nat.le_of_ble_eq_true rfl)⟩ rfl rfl rfl rfl (Nat.le_of_ble_eq_true rfl) dL_law_1089 ?_
  exact k_icmp_eqT (tgt := 1349) C rfl dL_law_1092 (by decide) kk
set_option maxHeartbeats 4000000 in
set_option maxRecDepth 100000 in
theorem law_unpay {r : Int32} {ux : pS} {um : pS} (C : C2 hX hM Y l0 D0 K0 K1 b L xs) (hi1 : vp_in (i + 1) L) (hx : fX4_unpay σ (xs (i + 1).toNatClampNeg) = some (r, ux)) (hm : fX5_unpay τ (xs (i + 1).toNatClampNeg) = some (r, um)) (kk : G2 hX hM Y 1349 [(0, .ref b), (1, .ref (hX 0)), (2, .ref (hM 0)), (3, .int i)] [] ux um) : G2 hX hM Y 1097 [(0, .ref b), (1, .ref (hX 0)), (2, .ref (hM 0)), (3, .int i)] [] σ τ := by
  refine k_aload_n C 1 dL_law_1097 rfl rfl ?_
  refine k_aload_n C 0 dL_law_1098 rfl rfl ?_
  refine k_iload_n C 3 dL_law_1099 rfl rfl ?_
  refine k_iconst C dL_law_1100 ic_1 ?_
  refine k_iadd C dL_law_1101 ?_
  refine k_sld C hi1 dL_law_1102 ?_
  refine k_callXi C (mX4_unpay l0 D0 K0 hX σ (xs (i + 1).toNatClampNeg) hx) gL_law_X4_unpay rfl rfl rfl ddX4_unpay ⟨(Nat.le_of_ble_eq_true rfl), (Nat.le_of_ble_eq_true rfl)⟩ rfl rfl rfl rfl (Nat.le_of_ble_eq_true rfl) dL_law_1103 ?_
  refine k_aload_n C 2 dL_law_1106 rfl rfl ?_
  refine k_aload_n C 0 dL_law_1107 rfl rfl ?_
  refine k_iload_n C 3 dL_law_1108 rfl rfl ?_
  refine k_iconst C dL_law_1109 ic_1 ?_
  refine k_iadd C dL_law_1110 ?_
  refine k_sld C hi1 dL_law_1111 ?_
  refine k_callMi C (mX5_unpay l0 D0 K1 hM τ (xs (i + 1).toNatClampNeg) hm) gL_law_X5_unpay rfl rfl rfl ddX5_unpay ⟨(Nat.le_of_ble_eq_true rfl), (Nat.le_of_ble_eq_true rfl)⟩ rfl rfl rfl rfl (Nat.le_of_ble_eq_true rfl) dL_law_1112 ?_
  exact k_icmp_eqT (tgt := 1349) C rfl dL_law_1115 (by decide) kk
set_option maxHeartbeats 4000000 in
set_option maxRecDepth 100000 in
theorem law_paid {r : Int32} {ux : pS} {um : pS} (C : C2 hX hM Y l0 D0 K0 K1 b L xs) (hx : fX4_paid σ = some (r, ux)) (hm : fX5_paid τ = some (r, um)) (kk : G2 hX hM Y 1349 [(0, .ref b), (1, .ref (hX 0)), (2, .ref (hM 0)), (3, .int i)] [] ux um) : G2 hX hM Y 1120 [(0, .ref b), (1, .ref (hX 0)), (2, .ref (hM 0)), (3, .int i)] [] σ τ := by
  refine k_aload_n C 1 dL_law_1120 rfl rfl ?_
  refine k_callXi C (mX4_paid l0 D0 K0 hX σ hx) gL_law_X4_paid rfl rfl rfl ddX4_paid ⟨(Nat.le_of_ble_eq_true rfl), (Nat.le_of_ble_eq_true rfl)⟩ rfl rfl rfl rfl (Nat.le_of_ble_eq_true rfl) dL_law_1121 ?_
  refine k_aload_n C 2 dL_law_1124 rfl rfl ?_
  refine k_callMi C (mX5_paid l0 D0 K1 hM τ hm) gL_law_X5_paid rfl rfl rfl ddX5_paid ⟨(Nat.le_of_ble_eq_true rfl), (Nat.le_of_ble_eq_true rfl)⟩ rfl rfl rfl rfl (Nat.le_of_ble_eq_true rfl) dL_law_1125 ?_
  exact k_icmp_eqT (tgt := 1349) C rfl dL_law_1128 (by decide) kk
set_option maxHeartbeats 4000000 in
set_option maxRecDepth 100000 in
theorem law_keep {r : Int32} {ux : pS} {um : pS} (C : C2 hX hM Y l0 D0 K0 K1 b L xs) (hi1 : vp_in (i + 1) L) (hx : fX4_keep σ (xs (i + 1).toNatClampNeg) = some (r, ux)) (hm : fX5_keep τ (xs (i + 1).toNatClampNeg) = some (r, um)) (kk : G2 hX hM Y 1349 [(0, .ref b), (1, .ref (hX 0)), (2, .ref (hM 0)), (3, .int i)] [] ux um) : G2 hX hM Y 1133 [(0, .ref b), (1, .ref (hX 0)), (2, .ref (hM 0)), (3, .int i)] [] σ τ := by
  refine k_aload_n C 1 dL_law_1133 rfl rfl ?_
  refine k_aload_n C 0 dL_law_1134 rfl rfl ?_
  refine k_iload_n C 3 dL_law_1135 rfl rfl ?_
  refine k_iconst C dL_law_1136 ic_1 ?_
  refine k_iadd C dL_law_1137 ?_
  refine k_sld C hi1 dL_law_1138 ?_
  refine k_callXi C (mX4_keep l0 D0 K0 hX σ (xs (i + 1).toNatClampNeg) hx) gL_law_X4_keep rfl rfl rfl ddX4_keep ⟨(Nat.le_of_ble_eq_true rfl), (Nat.le_of_ble_eq_true rfl)⟩ rfl rfl rfl rfl (Nat.le_of_ble_eq_true rfl) dL_law_1139 ?_
  refine k_aload_n C 2 dL_law_1142 rfl rfl ?_
  refine k_aload_n C 0 dL_law_1143 rfl rfl ?_
  refine k_iload_n C 3 dL_law_1144 rfl rfl ?_
  refine k_iconst C dL_law_1145 ic_1 ?_
  refine k_iadd C dL_law_1146 ?_
  refine k_sld C hi1 dL_law_1147 ?_
  refine k_callMi C (mX5_keep l0 D0 K1 hM τ (xs (i + 1).toNatClampNeg) hm) gL_law_X5_keep rfl rfl rfl ddX5_keep ⟨(Nat.le_of_ble_eq_true rfl), (Nat.le_of_ble_eq_true rfl)⟩ rfl rfl rfl rfl (Nat.le_of_ble_eq_true rfl) dL_law_1148 ?_
  exact k_icmp_eqT (tgt := 1349) C rfl dL_law_1151 (by decide) kk
set_option maxHeartbeats 4000000 in
set_option maxRecDepth 100000 in
theorem law_on {r : Int32} {ux : pS} {um : pS} (C : C2 hX hM Y l0 D0 K0 K1 b L xs) (hi1 : vp_in (i + 1) L) (hx : fX4_on σ (xs (i + 1).toNatClampNeg) = some (r, ux)) (hm : fX5_on τ (xs (i + 1).toNatClampNeg) = some (r, um)) (kk : G2 hX hM Y 1349 [(0, .ref b), (1, .ref (hX 0)), (2, .ref (hM 0)), (3, .int i)] [] ux um) : G2 hX hM Y 1156 [(0, .ref b), (1, .ref (hX 0)), (2, .ref (hM 0)), (3, .int i)] [] σ τ := by
  refine k_aload_n C 1 dL_law_1156 rfl rfl ?_
  refine k_aload_n C 0 dL_law_1157 rfl rfl ?_
  refine k_iload_n C 3 dL_law_1158 rfl rfl ?_
  refine k_iconst C dL_law_1159 ic_1 ?_
  refine k_iadd C dL_law_1160 ?_
  refine k_sld C hi1 dL_law_1161 ?_
  refine k_callXi C (mX4_on l0 D0 K0 hX σ (xs (i + 1).toNatClampNeg) hx) gL_law_X4_on rfl rfl rfl ddX4_on ⟨(Nat.le_of_ble_eq_true rfl), (Nat.le_of_ble_eq_true rfl)⟩ rfl rfl rfl rfl (Nat.le_of_ble_eq_true rfl) dL_law_1162 ?_
  refine k_aload_n C 2 dL_law_1165 rfl rfl ?_
  refine k_aload_n C 0 dL_law_1166 rfl rfl ?_
  refine k_iload_n C 3 dL_law_1167 rfl rfl ?_
  refine k_iconst C dL_law_1168 ic_1 ?_
  refine k_iadd C dL_law_1169 ?_
  refine k_sld C hi1 dL_law_1170 ?_
  refine k_callMi C (mX5_on l0 D0 K1 hM τ (xs (i + 1).toNatClampNeg) hm) gL_law_X5_on rfl rfl rfl ddX5_on ⟨(Nat.le_of_ble_eq_true rfl), (Nat.le_of_ble_eq_true rfl)⟩ rfl rfl rfl rfl (Nat.le_of_ble_eq_true rfl) dL_law_1171 ?_
  exact k_icmp_eqT (tgt := 1349) C rfl dL_law_1174 (by decide) kk
set_option maxHeartbeats 4000000 in
set_option maxRecDepth 100000 in
theorem law_must {r : Int32} {ux : pS} {um : pS} (C : C2 hX hM Y l0 D0 K0 K1 b L xs) (hi1 : vp_in (i + 1) L) (hi2 : vp_in (i + 2) L) (hx : fX4_must σ (xs (i + 1).toNatClampNeg) (xs (i + 2).toNatClampNeg) = some (r, ux)) (hm : fX5_must τ (xs (i + 1).toNatClampNeg) (xs (i + 2).toNatClampNeg) = some (r, um)) (kk : G2 hX hM Y 1349 [(0, .ref b), (1, .ref (hX 0)), (2, .ref (hM 0)), (3, .int i)] [] ux um) : G2 hX hM Y 1179 [(0, .ref b), (1, .ref (hX 0)), (2, .ref (hM 0)), (3, .int i)] [] σ τ := by
  refine k_aload_n C 1 dL_law_1179 rfl rfl ?_
  refine k_aload_n C 0 dL_law_1180 rfl rfl ?_
  refine k_iload_n C 3 dL_law_1181 rfl rfl ?_
  refine k_iconst C dL_law_1182 ic_1 ?_
  refine k_iadd C dL_law_1183 ?_
  refine k_sld C hi1 dL_law_1184 ?_
  refine k_aload_n C 0 dL_law_1185 rfl rfl ?_
  refine k_iload_n C 3 dL_law_1186 rfl rfl ?_
  refine k_iconst C dL_law_1187 ic_2 ?_
  refine k_iadd C dL_law_1188 ?_
  refine k_sld C hi2 dL_law_1189 ?_
  refine k_callXi C (mX4_must l0 D0 K0 hX σ (xs (i + 1).toNatClampNeg) (xs (i + 2).toNatClampNeg) hx) gL_law_X4_must rfl rfl rfl ddX4_must ⟨(Nat.le_of_ble_eq_true rfl), (Nat.le_of_ble_eq_true rfl)⟩ rfl rfl rfl rfl (Nat.le_of_ble_eq_true rfl) dL_law_1190 ?_
  refine k_aload_n C 2 dL_law_1193 rfl rfl ?_
  refine k_aload_n C 0 dL_law_1194 rfl rfl ?_
  refine k_iload_n C 3 dL_law_1195 rfl rfl ?_
  refine k_iconst C dL_law_1196 ic_1 ?_
  refine k_iadd C dL_law_1197 ?_
  refine k_sld C hi1 dL_law_1198 ?_
  refine k_aload_n C 0 dL_law_1199 rfl rfl ?_
  refine k_iload_n C 3 dL_law_1200 rfl rfl ?_
  refine k_iconst C dL_law_1201 ic_2 ?_
  refine k_iadd C dL_law_1202 ?_
  refine k_sld C hi2 dL_law_1203 ?_
  refine k_callMi C (mX5_must l0 D0 K1 hM τ (xs (i + 1).toNatClampNeg) (xs (i + 2).toNatClampNeg) hm) gL_law_X5_must rfl rfl rfl ddX5_must ⟨(Nat.le_of_ble_eq_true rfl), (Nat.le_of_ble_eq_true rfl)⟩ rfl rfl rfl rfl (Nat.le_of_ble_eq_true rfl) dL_law_1204 ?_
  exact k_icmp_eqT (tgt := 1349) C rfl dL_law_1207 (by decide) kk
set_option maxHeartbeats 4000000 in
set_option maxRecDepth 100000 in
theorem law_liars {r : Int32} {ux : pS} {um : pS} (C : C2 hX hM Y l0 D0 K0 K1 b L xs) (hi1 : vp_in (i + 1) L) (hx : fX4_liars σ (xs (i + 1).toNatClampNeg) = some (r, ux)) (hm : fX5_liars τ (xs (i + 1).toNatClampNeg) = some (r, um)) (kk : G2 hX hM Y 1349 [(0, .ref b), (1, .ref (hX 0)), (2, .ref (hM 0)), (3, .int i)] [] ux um) : G2 hX hM Y 1212 [(0, .ref b), (1, .ref (hX 0)), (2, .ref (hM 0)), (3, .int i)] [] σ τ := by
  refine k_aload_n C 1 dL_law_1212 rfl rfl ?_
  refine k_aload_n C 0 dL_law_1213 rfl rfl ?_
  refine k_iload_n C 3 dL_law_1214 rfl rfl ?_
  refine k_iconst C dL_law_1215 ic_1 ?_
  refine k_iadd C dL_law_1216 ?_
  refine k_sld C hi1 dL_law_1217 ?_
  refine k_callXi C (mX4_liars l0 D0 K0 hX σ (xs (i + 1).toNatClampNeg) hx) gL_law_X4_liars rfl rfl rfl ddX4_liars ⟨(Nat.le_of_ble_eq_true rfl), (Nat.le_of_ble_eq_true rfl)⟩ rfl rfl rfl rfl (Nat.le_of_ble_eq_true rfl) dL_law_1218 ?_
  refine k_aload_n C 2 dL_law_1221 rfl rfl ?_
  refine k_aload_n C 0 dL_law_1222 rfl rfl ?_
  refine k_iload_n C 3 dL_law_1223 rfl rfl ?_
  refine k_iconst C dL_law_1224 ic_1 ?_
  refine k_iadd C dL_law_1225 ?_
  refine k_sld C hi1 dL_law_1226 ?_
  refine k_callMi C (mX5_liars l0 D0 K1 hM τ (xs (i + 1).toNatClampNeg) hm) gL_law_X5_liars rfl rfl rfl ddX5_liars ⟨(Nat.le_of_ble_eq_true rfl), (Nat.le_of_ble_eq_true rfl)⟩ rfl rfl rfl rfl (Nat.le_of_ble_eq_true rfl) dL_law_1227 ?_
  exact k_icmp_eqT (tgt := 1349) C rfl dL_law_1230 (by decide) kk
set_option maxHeartbeats 4000000 in
set_option maxRecDepth 100000 in
theorem law_asked {r : Int32} (C : C2 hX hM Y l0 D0 K0 K1 b L xs) (hx : fX4_asked σ = some r) (hm : fX5_asked τ = some r) (kk : G2 hX hM Y 1349 [(0, .ref b), (1, .ref (hX 0)), (2, .ref (hM 0)), (3, .int i)] [] σ τ) : G2 hX hM Y 1235 [(0, .ref b), (1, .ref (hX 0)), (2, .ref (hM 0)), (3, .int i)] [] σ τ := by
  refine k_aload_n C 1 dL_law_1235 rfl rfl ?_
  refine k_callXi C (mX4_asked l0 D0 K0 hX σ hx) gL_law_X4_asked rfl rfl rfl ddX4_asked ⟨(Nat.le_of_ble_eq_true rfl), (Nat.le_of_ble_eq_true rfl)⟩ rfl rfl rfl rfl (Nat.le_of_ble_eq_true rfl) dL_law_1236 ?_
  refine k_aload_n C 2 dL_law_1239 rfl rfl ?_
  refine k_callMi C (mX5_asked l0 D0 K1 hM τ hm) gL_law_X5_asked rfl rfl rfl ddX5_asked ⟨(Nat.le_of_ble_eq_true rfl), (Nat.le_of_ble_eq_true rfl)⟩ rfl rfl rfl rfl (Nat.le_of_ble_eq_true rfl) dL_law_1240 ?_
  exact k_icmp_eqT (tgt := 1349) C rfl dL_law_1243 (by decide) kk
set_option maxHeartbeats 4000000 in
set_option maxRecDepth 100000 in
theorem law_upper {r : Int64} (C : C2 hX hM Y l0 D0 K0 K1 b L xs) (hx : fX4_upper σ = some r) (hm : fX5_upper τ = some r) (kk : G2 hX hM Y 1349 [(0, .ref b), (1, .ref (hX 0)), (2, .ref (hM 0)), (3, .int i)] [] σ τ) : G2 hX hM Y 1248 [(0, .ref b), (1, .ref (hX 0)), (2, .ref (hM 0)), (3, .int i)] [] σ τ := by
  refine k_aload_n C 1 dL_law_1248 rfl rfl ?_
  refine k_callXl C (mX4_upper l0 D0 K0 hX σ hx) gL_law_X4_upper rfl rfl rfl ddX4_upper ⟨(Nat.le_of_ble_eq_true rfl), (Nat.le_of_ble_eq_true rfl)⟩ rfl rfl rfl rfl (Nat.le_of_ble_eq_true rfl) dL_law_1249 ?_
  refine k_aload_n C 2 dL_law_1252 rfl rfl ?_
  refine k_callMl C (mX5_upper l0 D0 K1 hM τ hm) gL_law_X5_upper rfl rfl rfl ddX5_upper ⟨(Nat.le_of_ble_eq_true rfl), (Nat.le_of_ble_eq_true rfl)⟩ rfl rfl rfl rfl (Nat.le_of_ble_eq_true rfl) dL_law_1253 ?_
  refine k_lcmp C dL_law_1256 ?_
  exact k_if_eqT (tgt := 1349) C (by simp [lg_cmp]) dL_law_1257 (by decide) kk
set_option maxHeartbeats 4000000 in
set_option maxRecDepth 100000 in
theorem law_lower {r : Int64} (C : C2 hX hM Y l0 D0 K0 K1 b L xs) (hx : fX4_lower σ = some r) (hm : fX5_lower τ = some r) (kk : G2 hX hM Y 1349 [(0, .ref b), (1, .ref (hX 0)), (2, .ref (hM 0)), (3, .int i)] [] σ τ) : G2 hX hM Y 1262 [(0, .ref b), (1, .ref (hX 0)), (2, .ref (hM 0)), (3, .int i)] [] σ τ := by
  refine k_aload_n C 1 dL_law_1262 rfl rfl ?_
  refine k_callXl C (mX4_lower l0 D0 K0 hX σ hx) gL_law_X4_lower rfl rfl rfl ddX4_lower ⟨(Nat.le_of_ble_eq_true rfl), (Nat.le_of_ble_eq_true rfl)⟩ rfl rfl rfl rfl (Nat.le_of_ble_eq_true rfl) dL_law_1263 ?_
  refine k_aload_n C 2 dL_law_1266 rfl rfl ?_
  refine k_callMl C (mX5_lower l0 D0 K1 hM τ hm) gL_law_X5_lower rfl rfl rfl ddX5_lower ⟨(Nat.le_of_ble_eq_true rfl), (Nat.le_of_ble_eq_true rfl)⟩ rfl rfl rfl rfl (Nat.le_of_ble_eq_true rfl) dL_law_1267 ?_
  refine k_lcmp C dL_law_1270 ?_
  exact k_if_eqT (tgt := 1349) C (by simp [lg_cmp]) dL_law_1271 (by decide) kk
set_option maxHeartbeats 4000000 in
set_option maxRecDepth 100000 in
theorem law_count {r : Int32} (C : C2 hX hM Y l0 D0 K0 K1 b L xs) (hi1 : vp_in (i + 1) L) (hx : fX4_count σ (xs (i + 1).toNatClampNeg) = some r) (hm : fX5_count τ (xs (i + 1).toNatClampNeg) = some r) (kk : G2 hX hM Y 1349 [(0, .ref b), (1, .ref (hX 0)), (2, .ref (hM 0)), (3, .int i)] [] σ τ) : G2 hX hM Y 1276 [(0, .ref b), (1, .ref (hX 0)), (2, .ref (hM 0)), (3, .int i)] [] σ τ := by
  refine k_aload_n C 1 dL_law_1276 rfl rfl ?_
  refine k_aload_n C 0 dL_law_1277 rfl rfl ?_
  refine k_iload_n C 3 dL_law_1278 rfl rfl ?_
  refine k_iconst C dL_law_1279 ic_1 ?_
  refine k_iadd C dL_law_1280 ?_
  refine k_sld C hi1 dL_law_1281 ?_
  refine k_callXi C (mX4_count l0 D0 K0 hX σ (xs (i + 1).toNatClampNeg) hx) gL_law_X4_count rfl rfl rfl ddX4_count ⟨(Nat.le_of_ble_eq_true rfl), (Nat.le_of_ble_eq_true rfl)⟩ rfl rfl rfl rfl (Nat.le_of_ble_eq_true rfl) dL_law_1282 ?_
  refine k_aload_n C 2 dL_law_1285 rfl rfl ?_
  refine k_aload_n C 0 dL_law_1286 rfl rfl ?_
  refine k_iload_n C 3 dL_law_1287 rfl rfl ?_
  refine k_iconst C dL_law_1288 ic_1 ?_
  refine k_iadd C dL_law_1289 ?_
  refine k_sld C hi1 dL_law_1290 ?_
  refine k_callMi C (mX5_count l0 D0 K1 hM τ (xs (i + 1).toNatClampNeg) hm) gL_law_X5_count rfl rfl rfl ddX5_count ⟨(Nat.le_of_ble_eq_true rfl), (Nat.le_of_ble_eq_true rfl)⟩ rfl rfl rfl rfl (Nat.le_of_ble_eq_true rfl) dL_law_1291 ?_
  exact k_icmp_eqT (tgt := 1349) C rfl dL_law_1294 (by decide) kk
set_option maxHeartbeats 4000000 in
set_option maxRecDepth 100000 in
theorem law_finding {r : Int32} (C : C2 hX hM Y l0 D0 K0 K1 b L xs) (hx : fX4_finding σ = some r) (hm : fX5_finding τ = some r) (kk : G2 hX hM Y 1349 [(0, .ref b), (1, .ref (hX 0)), (2, .ref (hM 0)), (3, .int i)] [] σ τ) : G2 hX hM Y 1299 [(0, .ref b), (1, .ref (hX 0)), (2, .ref (hM 0)), (3, .int i)] [] σ τ := by
  refine k_aload_n C 1 dL_law_1299 rfl rfl ?_
  refine k_callXi C (mX4_finding l0 D0 K0 hX σ hx) gL_law_X4_finding rfl rfl rfl ddX4_finding ⟨(Nat.le_of_ble_eq_true rfl), (Nat.le_of_ble_eq_true rfl)⟩ rfl rfl rfl rfl (Nat.le_of_ble_eq_true rfl) dL_law_1300 ?_
  refine k_aload_n C 2 dL_law_1303 rfl rfl ?_
  refine k_callMi C (mX5_finding l0 D0 K1 hM τ hm) gL_law_X5_finding rfl rfl rfl ddX5_finding ⟨(Nat.le_of_ble_eq_true rfl), (Nat.le_of_ble_eq_true rfl)⟩ rfl rfl rfl rfl (Nat.le_of_ble_eq_true rfl) dL_law_1304 ?_
  exact k_icmp_eqT (tgt := 1349) C rfl dL_law_1307 (by decide) kk
set_option maxHeartbeats 4000000 in
set_option maxRecDepth 100000 in
theorem law_findings {r : Int32} (C : C2 hX hM Y l0 D0 K0 K1 b L xs) (hi1 : vp_in (i + 1) L) (hx : fX4_findings σ (xs (i + 1).toNatClampNeg) = some r) (hm : fX5_findings τ (xs (i + 1).toNatClampNeg) = some r) (kk : G2 hX hM Y 1349 [(0, .ref b), (1, .ref (hX 0)), (2, .ref (hM 0)), (3, .int i)] [] σ τ) : G2 hX hM Y 1312 [(0, .ref b), (1, .ref (hX 0)), (2, .ref (hM 0)), (3, .int i)] [] σ τ := by
  refine k_aload_n C 1 dL_law_1312 rfl rfl ?_
  refine k_aload_n C 0 dL_law_1313 rfl rfl ?_
  refine k_iload_n C 3 dL_law_1314 rfl rfl ?_
  refine k_iconst C dL_law_1315 ic_1 ?_
  refine k_iadd C dL_law_1316 ?_
  refine k_sld C hi1 dL_law_1317 ?_
  refine k_callXi C (mX4_findings l0 D0 K0 hX σ (xs (i + 1).toNatClampNeg) hx) gL_law_X4_findings rfl rfl rfl ddX4_findings ⟨(Nat.le_of_ble_eq_true rfl), (Nat.le_of_ble_eq_true rfl)⟩ rfl rfl rfl rfl (Nat.le_of_ble_eq_true rfl) dL_law_1318 ?_
  refine k_aload_n C 2 dL_law_1321 rfl rfl ?_
  refine k_aload_n C 0 dL_law_1322 rfl rfl ?_
  refine k_iload_n C 3 dL_law_1323 rfl rfl ?_
  refine k_iconst C dL_law_1324 ic_1 ?_
  refine k_iadd C dL_law_1325 ?_
  refine k_sld C hi1 dL_law_1326 ?_
  refine k_callMi C (mX5_findings l0 D0 K1 hM τ (xs (i + 1).toNatClampNeg) hm) gL_law_X5_findings rfl rfl rfl ddX5_findings ⟨(Nat.le_of_ble_eq_true rfl), (Nat.le_of_ble_eq_true rfl)⟩ rfl rfl rfl rfl (Nat.le_of_ble_eq_true rfl) dL_law_1327 ?_
  exact k_icmp_eqT (tgt := 1349) C rfl dL_law_1330 (by decide) kk
set_option maxHeartbeats 4000000 in
set_option maxRecDepth 100000 in
theorem law_digest {r : Int64} {um : pS} (C : C2 hX hM Y l0 D0 K0 K1 b L xs) (hx : fX4_digest σ = some r) (hm : fX5_digest τ = some (r, um)) (kk : G2 hX hM Y 1349 [(0, .ref b), (1, .ref (hX 0)), (2, .ref (hM 0)), (3, .int i)] [] σ um) : G2 hX hM Y 1335 [(0, .ref b), (1, .ref (hX 0)), (2, .ref (hM 0)), (3, .int i)] [] σ τ := by
  refine k_aload_n C 1 dL_law_1335 rfl rfl ?_
  refine k_callXl C (mX4_digest l0 D0 K0 hX σ hx) gL_law_X4_digest rfl rfl rfl ddX4_digest ⟨(Nat.le_of_ble_eq_true rfl), (Nat.le_of_ble_eq_true rfl)⟩ rfl rfl rfl rfl (Nat.le_of_ble_eq_true rfl) dL_law_1336 ?_
  refine k_aload_n C 2 dL_law_1339 rfl rfl ?_
  refine k_callMl C (mX5_digest l0 D0 K1 hM τ hm) gL_law_X5_digest rfl rfl rfl ddX5_digest ⟨(Nat.le_of_ble_eq_true rfl), (Nat.le_of_ble_eq_true rfl)⟩ rfl rfl rfl rfl (Nat.le_of_ble_eq_true rfl) dL_law_1340 ?_
  refine k_lcmp C dL_law_1343 ?_
  exact k_if_eqT (tgt := 1349) C (by simp [lg_cmp]) dL_law_1344 (by decide) kk
end LAWC
