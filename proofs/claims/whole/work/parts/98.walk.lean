/-! the law: each of its calls, on both sides -/
section LCS
variable {E : Ev} {b L : Nat} {xs : Nat → Int32} {i : Int32} {σ : Sto}
set_option maxRecDepth 100000 in
theorem cs_0 (hR : Rel σ) (h1 : vp_in (i + 1) L) (h2 : vp_in (i + 2) L) (h3 : vp_in (i + 3) L) (h4 : vp_in (i + 4) L) (h5 : vp_in (i + 5) L) (kk : ∀ τ, Rel τ → VL E b L xs i 1444 [] τ) : VL E b L xs i 208 [] σ := by
  refine VL_x (pc := 208) dL_208 ?_
  refine VL_arg (pc := 209) (v := 1) dL_209 dL_210 dL_211 dL_212 dL_213 (by decide) h1 ?_
  refine VL_callV (pc := 214) (M' := mX10_pass) dL_214 lk_13 kv_X10_pass ko_X10_pass sh_0 (by decide) (by decide) rfl rfl (Nat.le_of_ble_eq_true rfl) (Nat.le_of_ble_eq_true rfl) (vX10_pass E (xs (i + 1).toNatClampNeg) σ _ (comb (X_pass (xs (i + 1).toNatClampNeg)) (M_pass (xs (i + 1).toNatClampNeg)) hR)) (kI (fun r s h => ?_))
  refine VL_m (pc := 217) dL_217 ?_
  refine VL_arg (pc := 218) (v := 1) dL_218 dL_219 dL_220 dL_221 dL_222 (by decide) h1 ?_
  refine VL_callV (pc := 223) (M' := mX11_pass) dL_223 lk_17 kv_X11_pass ko_X11_pass sh_67 (by decide) (by decide) rfl rfl (Nat.le_of_ble_eq_true rfl) (Nat.le_of_ble_eq_true rfl) (vX11_pass E (xs (i + 1).toNatClampNeg) s _ h) (kI (fun r2 s2 h => ?_))
  exact VL_eqI (pc := 226) dL_226 (by decide) h.1 (kk s2 h.2)
set_option maxRecDepth 100000 in
theorem cs_1 (hR : Rel σ) (h1 : vp_in (i + 1) L) (h2 : vp_in (i + 2) L) (h3 : vp_in (i + 3) L) (h4 : vp_in (i + 4) L) (h5 : vp_in (i + 5) L) (kk : ∀ τ, Rel τ → VL E b L xs i 1444 [] τ) : VL E b L xs i 231 [] σ := by
  refine VL_x (pc := 231) dL_231 ?_
  refine VL_arg (pc := 232) (v := 1) dL_232 dL_233 dL_234 dL_235 dL_236 (by decide) h1 ?_
  refine VL_callV (pc := 237) (M' := mX10_house) dL_237 lk_18 kv_X10_house ko_X10_house sh_0 (by decide) (by decide) rfl rfl (Nat.le_of_ble_eq_true rfl) (Nat.le_of_ble_eq_true rfl) (vX10_house E (xs (i + 1).toNatClampNeg) σ _ (comb (X_house (xs (i + 1).toNatClampNeg)) (M_house (xs (i + 1).toNatClampNeg)) hR)) (kI (fun r s h => ?_))
  refine VL_m (pc := 240) dL_240 ?_
  refine VL_arg (pc := 241) (v := 1) dL_241 dL_242 dL_243 dL_244 dL_245 (by decide) h1 ?_
  refine VL_callV (pc := 246) (M' := mX11_house) dL_246 lk_21 kv_X11_house ko_X11_house sh_67 (by decide) (by decide) rfl rfl (Nat.le_of_ble_eq_true rfl) (Nat.le_of_ble_eq_true rfl) (vX11_house E (xs (i + 1).toNatClampNeg) s _ h) (kI (fun r2 s2 h => ?_))
  exact VL_eqI (pc := 249) dL_249 (by decide) h.1 (kk s2 h.2)
set_option maxRecDepth 100000 in
theorem cs_2 (hR : Rel σ) (h1 : vp_in (i + 1) L) (h2 : vp_in (i + 2) L) (h3 : vp_in (i + 3) L) (h4 : vp_in (i + 4) L) (h5 : vp_in (i + 5) L) (kk : ∀ τ, Rel τ → VL E b L xs i 1444 [] τ) : VL E b L xs i 254 [] σ := by
  refine VL_x (pc := 254) dL_254 ?_
  refine VL_arg (pc := 255) (v := 1) dL_255 dL_256 dL_257 dL_258 dL_259 (by decide) h1 ?_
  refine VL_arg (pc := 260) (v := 2) dL_260 dL_261 dL_262 dL_263 dL_264 (by decide) h2 ?_
  refine VL_callV (pc := 265) (M' := mX10_doubt) dL_265 lk_22 kv_X10_doubt ko_X10_doubt sh_0 (by decide) (by decide) rfl rfl (Nat.le_of_ble_eq_true rfl) (Nat.le_of_ble_eq_true rfl) (vX10_doubt E (xs (i + 1).toNatClampNeg) (xs (i + 2).toNatClampNeg) σ _ (comb (X_doubt (xs (i + 1).toNatClampNeg) (xs (i + 2).toNatClampNeg)) (M_doubt (xs (i + 1).toNatClampNeg) (xs (i + 2).toNatClampNeg)) hR)) (kI (fun r s h => ?_))
  refine VL_m (pc := 268) dL_268 ?_
  refine VL_arg (pc := 269) (v := 1) dL_269 dL_270 dL_271 dL_272 dL_273 (by decide) h1 ?_
  refine VL_arg (pc := 274) (v := 2) dL_274 dL_275 dL_276 dL_277 dL_278 (by decide) h2 ?_
  refine VL_callV (pc := 279) (M' := mX11_doubt) dL_279 lk_26 kv_X11_doubt ko_X11_doubt sh_67 (by decide) (by decide) rfl rfl (Nat.le_of_ble_eq_true rfl) (Nat.le_of_ble_eq_true rfl) (vX11_doubt E (xs (i + 1).toNatClampNeg) (xs (i + 2).toNatClampNeg) s _ h) (kI (fun r2 s2 h => ?_))
  exact VL_eqI (pc := 282) dL_282 (by decide) h.1 (kk s2 h.2)
set_option maxRecDepth 100000 in
theorem cs_3 (hR : Rel σ) (h1 : vp_in (i + 1) L) (h2 : vp_in (i + 2) L) (h3 : vp_in (i + 3) L) (h4 : vp_in (i + 4) L) (h5 : vp_in (i + 5) L) (kk : ∀ τ, Rel τ → VL E b L xs i 1444 [] τ) : VL E b L xs i 287 [] σ := by
  refine VL_x (pc := 287) dL_287 ?_
  refine VL_arg (pc := 288) (v := 1) dL_288 dL_289 dL_290 dL_291 dL_292 (by decide) h1 ?_
  refine VL_arg (pc := 293) (v := 2) dL_293 dL_294 dL_295 dL_296 dL_297 (by decide) h2 ?_
  refine VL_arg (pc := 298) (v := 3) dL_298 dL_299 dL_300 dL_301 dL_302 (by decide) h3 ?_
  refine VL_arg (pc := 303) (v := 4) dL_303 dL_304 dL_305 dL_306 dL_307 (by decide) h4 ?_
  refine VL_callV (pc := 308) (M' := mX10_reading) dL_308 lk_27 kv_X10_reading ko_X10_reading sh_0 (by decide) (by decide) rfl rfl (Nat.le_of_ble_eq_true rfl) (Nat.le_of_ble_eq_true rfl) (vX10_reading E (xs (i + 1).toNatClampNeg) (xs (i + 2).toNatClampNeg) (xs (i + 3).toNatClampNeg) (xs (i + 4).toNatClampNeg) σ _ (comb (X_reading_1 X_renew (xs (i + 1).toNatClampNeg) (xs (i + 2).toNatClampNeg) (xs (i + 3).toNatClampNeg) (xs (i + 4).toNatClampNeg)) (M_reading (xs (i + 1).toNatClampNeg) (xs (i + 2).toNatClampNeg) (xs (i + 3).toNatClampNeg) (xs (i + 4).toNatClampNeg)) hR)) (kI (fun r s h => ?_))
  refine VL_m (pc := 311) dL_311 ?_
  refine VL_arg (pc := 312) (v := 1) dL_312 dL_313 dL_314 dL_315 dL_316 (by decide) h1 ?_
  refine VL_arg (pc := 317) (v := 2) dL_317 dL_318 dL_319 dL_320 dL_321 (by decide) h2 ?_
  refine VL_arg (pc := 322) (v := 3) dL_322 dL_323 dL_324 dL_325 dL_326 (by decide) h3 ?_
  refine VL_arg (pc := 327) (v := 4) dL_327 dL_328 dL_329 dL_330 dL_331 (by decide) h4 ?_
  refine VL_callV (pc := 332) (M' := mX11_reading) dL_332 lk_31 kv_X11_reading ko_X11_reading sh_67 (by decide) (by decide) rfl rfl (Nat.le_of_ble_eq_true rfl) (Nat.le_of_ble_eq_true rfl) (vX11_reading E (xs (i + 1).toNatClampNeg) (xs (i + 2).toNatClampNeg) (xs (i + 3).toNatClampNeg) (xs (i + 4).toNatClampNeg) s _ h) (kI (fun r2 s2 h => ?_))
  exact VL_eqI (pc := 335) dL_335 (by decide) h.1 (kk s2 h.2)
set_option maxRecDepth 100000 in
theorem cs_4 (hR : Rel σ) (h1 : vp_in (i + 1) L) (h2 : vp_in (i + 2) L) (h3 : vp_in (i + 3) L) (h4 : vp_in (i + 4) L) (h5 : vp_in (i + 5) L) (kk : ∀ τ, Rel τ → VL E b L xs i 1444 [] τ) : VL E b L xs i 340 [] σ := by
  refine VL_x (pc := 340) dL_340 ?_
  refine VL_arg (pc := 341) (v := 1) dL_341 dL_342 dL_343 dL_344 dL_345 (by decide) h1 ?_
  refine VL_callV (pc := 346) (M' := mX10_read) dL_346 lk_32 kv_X10_read ko_X10_read sh_0 (by decide) (by decide) rfl rfl (Nat.le_of_ble_eq_true rfl) (Nat.le_of_ble_eq_true rfl) (vX10_read E (xs (i + 1).toNatClampNeg) σ _ (comb (X_read_1 X_renew (xs (i + 1).toNatClampNeg)) (M_read (xs (i + 1).toNatClampNeg)) hR)) (kI (fun r s h => ?_))
  refine VL_m (pc := 349) dL_349 ?_
  refine VL_arg (pc := 350) (v := 1) dL_350 dL_351 dL_352 dL_353 dL_354 (by decide) h1 ?_
  refine VL_callV (pc := 355) (M' := mX11_read) dL_355 lk_35 kv_X11_read ko_X11_read sh_67 (by decide) (by decide) rfl rfl (Nat.le_of_ble_eq_true rfl) (Nat.le_of_ble_eq_true rfl) (vX11_read E (xs (i + 1).toNatClampNeg) s _ h) (kI (fun r2 s2 h => ?_))
  exact VL_eqI (pc := 358) dL_358 (by decide) h.1 (kk s2 h.2)
set_option maxRecDepth 100000 in
theorem cs_5 (hR : Rel σ) (h1 : vp_in (i + 1) L) (h2 : vp_in (i + 2) L) (h3 : vp_in (i + 3) L) (h4 : vp_in (i + 4) L) (h5 : vp_in (i + 5) L) (kk : ∀ τ, Rel τ → VL E b L xs i 1444 [] τ) : VL E b L xs i 363 [] σ := by
  refine VL_x (pc := 363) dL_363 ?_
  refine VL_arg (pc := 364) (v := 1) dL_364 dL_365 dL_366 dL_367 dL_368 (by decide) h1 ?_
  refine VL_callV (pc := 369) (M' := mX10_takeBack) dL_369 lk_36 kv_X10_takeBack ko_X10_takeBack sh_0 (by decide) (by decide) rfl rfl (Nat.le_of_ble_eq_true rfl) (Nat.le_of_ble_eq_true rfl) (vX10_takeBack E (xs (i + 1).toNatClampNeg) σ _ (comb (X_takeBack_1 X_renew (xs (i + 1).toNatClampNeg)) (M_takeBack (xs (i + 1).toNatClampNeg)) hR)) (kI (fun r s h => ?_))
  refine VL_m (pc := 372) dL_372 ?_
  refine VL_arg (pc := 373) (v := 1) dL_373 dL_374 dL_375 dL_376 dL_377 (by decide) h1 ?_
  refine VL_callV (pc := 378) (M' := mX11_takeBack) dL_378 lk_39 kv_X11_takeBack ko_X11_takeBack sh_67 (by decide) (by decide) rfl rfl (Nat.le_of_ble_eq_true rfl) (Nat.le_of_ble_eq_true rfl) (vX11_takeBack E (xs (i + 1).toNatClampNeg) s _ h) (kI (fun r2 s2 h => ?_))
  exact VL_eqI (pc := 381) dL_381 (by decide) h.1 (kk s2 h.2)
set_option maxRecDepth 100000 in
theorem cs_6 (hR : Rel σ) (h1 : vp_in (i + 1) L) (h2 : vp_in (i + 2) L) (h3 : vp_in (i + 3) L) (h4 : vp_in (i + 4) L) (h5 : vp_in (i + 5) L) (kk : ∀ τ, Rel τ → VL E b L xs i 1444 [] τ) : VL E b L xs i 386 [] σ := by
  refine VL_x (pc := 386) dL_386 ?_
  refine VL_arg (pc := 387) (v := 1) dL_387 dL_388 dL_389 dL_390 dL_391 (by decide) h1 ?_
  refine VL_arg (pc := 392) (v := 2) dL_392 dL_393 dL_394 dL_395 dL_396 (by decide) h2 ?_
  refine VL_callV (pc := 397) (M' := mX10_about) dL_397 lk_40 kv_X10_about ko_X10_about sh_0 (by decide) (by decide) rfl rfl (Nat.le_of_ble_eq_true rfl) (Nat.le_of_ble_eq_true rfl) (vX10_about E (xs (i + 1).toNatClampNeg) (xs (i + 2).toNatClampNeg) σ _ (comb (X_about (xs (i + 1).toNatClampNeg) (xs (i + 2).toNatClampNeg)) (M_about (xs (i + 1).toNatClampNeg) (xs (i + 2).toNatClampNeg)) hR)) (kI (fun r s h => ?_))
  refine VL_m (pc := 400) dL_400 ?_
  refine VL_arg (pc := 401) (v := 1) dL_401 dL_402 dL_403 dL_404 dL_405 (by decide) h1 ?_
  refine VL_arg (pc := 406) (v := 2) dL_406 dL_407 dL_408 dL_409 dL_410 (by decide) h2 ?_
  refine VL_callV (pc := 411) (M' := mX11_about) dL_411 lk_43 kv_X11_about ko_X11_about sh_67 (by decide) (by decide) rfl rfl (Nat.le_of_ble_eq_true rfl) (Nat.le_of_ble_eq_true rfl) (vX11_about E (xs (i + 1).toNatClampNeg) (xs (i + 2).toNatClampNeg) s _ h) (kI (fun r2 s2 h => ?_))
  exact VL_eqI (pc := 414) dL_414 (by decide) h.1 (kk s2 h.2)
set_option maxRecDepth 100000 in
theorem cs_7 (hR : Rel σ) (h1 : vp_in (i + 1) L) (h2 : vp_in (i + 2) L) (h3 : vp_in (i + 3) L) (h4 : vp_in (i + 4) L) (h5 : vp_in (i + 5) L) (kk : ∀ τ, Rel τ → VL E b L xs i 1444 [] τ) : VL E b L xs i 419 [] σ := by
  refine VL_x (pc := 419) dL_419 ?_
  refine VL_arg (pc := 420) (v := 1) dL_420 dL_421 dL_422 dL_423 dL_424 (by decide) h1 ?_
  refine VL_callV (pc := 425) (M' := mX10_asOf) dL_425 lk_44 kv_X10_asOf ko_X10_asOf sh_0 (by decide) (by decide) rfl rfl (Nat.le_of_ble_eq_true rfl) (Nat.le_of_ble_eq_true rfl) (vX10_asOf E (xs (i + 1).toNatClampNeg) σ _ (comb (X_asOf_1 X_renew (xs (i + 1).toNatClampNeg)) (M_asOf (xs (i + 1).toNatClampNeg)) hR)) (kI (fun r s h => ?_))
  refine VL_m (pc := 428) dL_428 ?_
  refine VL_arg (pc := 429) (v := 1) dL_429 dL_430 dL_431 dL_432 dL_433 (by decide) h1 ?_
  refine VL_callV (pc := 434) (M' := mX11_asOf) dL_434 lk_47 kv_X11_asOf ko_X11_asOf sh_67 (by decide) (by decide) rfl rfl (Nat.le_of_ble_eq_true rfl) (Nat.le_of_ble_eq_true rfl) (vX11_asOf E (xs (i + 1).toNatClampNeg) s _ h) (kI (fun r2 s2 h => ?_))
  exact VL_eqI (pc := 437) dL_437 (by decide) h.1 (kk s2 h.2)
set_option maxRecDepth 100000 in
theorem cs_8 (hR : Rel σ) (h1 : vp_in (i + 1) L) (h2 : vp_in (i + 2) L) (h3 : vp_in (i + 3) L) (h4 : vp_in (i + 4) L) (h5 : vp_in (i + 5) L) (kk : ∀ τ, Rel τ → VL E b L xs i 1444 [] τ) : VL E b L xs i 442 [] σ := by
  refine VL_x (pc := 442) dL_442 ?_
  refine VL_arg (pc := 443) (v := 1) dL_443 dL_444 dL_445 dL_446 dL_447 (by decide) h1 ?_
  refine VL_callV (pc := 448) (M' := mX10_factor) dL_448 lk_48 kv_X10_factor ko_X10_factor sh_0 (by decide) (by decide) rfl rfl (Nat.le_of_ble_eq_true rfl) (Nat.le_of_ble_eq_true rfl) (vX10_factor E (xs (i + 1).toNatClampNeg) σ _ (comb (X_factor (xs (i + 1).toNatClampNeg)) (M_factor (xs (i + 1).toNatClampNeg)) hR)) (kI (fun r s h => ?_))
  refine VL_m (pc := 451) dL_451 ?_
  refine VL_arg (pc := 452) (v := 1) dL_452 dL_453 dL_454 dL_455 dL_456 (by decide) h1 ?_
  refine VL_callV (pc := 457) (M' := mX11_factor) dL_457 lk_51 kv_X11_factor ko_X11_factor sh_67 (by decide) (by decide) rfl rfl (Nat.le_of_ble_eq_true rfl) (Nat.le_of_ble_eq_true rfl) (vX11_factor E (xs (i + 1).toNatClampNeg) s _ h) (kI (fun r2 s2 h => ?_))
  exact VL_eqI (pc := 460) dL_460 (by decide) h.1 (kk s2 h.2)
set_option maxRecDepth 100000 in
theorem cs_9 (hR : Rel σ) (h1 : vp_in (i + 1) L) (h2 : vp_in (i + 2) L) (h3 : vp_in (i + 3) L) (h4 : vp_in (i + 4) L) (h5 : vp_in (i + 5) L) (kk : ∀ τ, Rel τ → VL E b L xs i 1444 [] τ) : VL E b L xs i 465 [] σ := by
  refine VL_x (pc := 465) dL_465 ?_
  refine VL_arg (pc := 466) (v := 1) dL_466 dL_467 dL_468 dL_469 dL_470 (by decide) h1 ?_
  refine VL_arg (pc := 471) (v := 2) dL_471 dL_472 dL_473 dL_474 dL_475 (by decide) h2 ?_
  refine VL_callV (pc := 476) (M' := mX10_drift) dL_476 lk_52 kv_X10_drift ko_X10_drift sh_0 (by decide) (by decide) rfl rfl (Nat.le_of_ble_eq_true rfl) (Nat.le_of_ble_eq_true rfl) (vX10_drift E (xs (i + 1).toNatClampNeg) (xs (i + 2).toNatClampNeg) σ _ (comb (X_drift (xs (i + 1).toNatClampNeg) (xs (i + 2).toNatClampNeg)) (M_drift (xs (i + 1).toNatClampNeg) (xs (i + 2).toNatClampNeg)) hR)) (kI (fun r s h => ?_))
  refine VL_m (pc := 479) dL_479 ?_
  refine VL_arg (pc := 480) (v := 1) dL_480 dL_481 dL_482 dL_483 dL_484 (by decide) h1 ?_
  refine VL_arg (pc := 485) (v := 2) dL_485 dL_486 dL_487 dL_488 dL_489 (by decide) h2 ?_
  refine VL_callV (pc := 490) (M' := mX11_drift) dL_490 lk_55 kv_X11_drift ko_X11_drift sh_67 (by decide) (by decide) rfl rfl (Nat.le_of_ble_eq_true rfl) (Nat.le_of_ble_eq_true rfl) (vX11_drift E (xs (i + 1).toNatClampNeg) (xs (i + 2).toNatClampNeg) s _ h) (kI (fun r2 s2 h => ?_))
  exact VL_eqI (pc := 493) dL_493 (by decide) h.1 (kk s2 h.2)
set_option maxRecDepth 100000 in
theorem cs_10 (hR : Rel σ) (h1 : vp_in (i + 1) L) (h2 : vp_in (i + 2) L) (h3 : vp_in (i + 3) L) (h4 : vp_in (i + 4) L) (h5 : vp_in (i + 5) L) (kk : ∀ τ, Rel τ → VL E b L xs i 1444 [] τ) : VL E b L xs i 498 [] σ := by
  refine VL_x (pc := 498) dL_498 ?_
  refine VL_arg (pc := 499) (v := 1) dL_499 dL_500 dL_501 dL_502 dL_503 (by decide) h1 ?_
  refine VL_arg (pc := 504) (v := 2) dL_504 dL_505 dL_506 dL_507 dL_508 (by decide) h2 ?_
  refine VL_callV (pc := 509) (M' := mX10_many) dL_509 lk_56 kv_X10_many ko_X10_many sh_0 (by decide) (by decide) rfl rfl (Nat.le_of_ble_eq_true rfl) (Nat.le_of_ble_eq_true rfl) (vX10_many E (xs (i + 1).toNatClampNeg) (xs (i + 2).toNatClampNeg) σ _ (comb (X_many (xs (i + 1).toNatClampNeg) (xs (i + 2).toNatClampNeg)) (M_many (xs (i + 1).toNatClampNeg) (xs (i + 2).toNatClampNeg)) hR)) (kI (fun r s h => ?_))
  refine VL_m (pc := 512) dL_512 ?_
  refine VL_arg (pc := 513) (v := 1) dL_513 dL_514 dL_515 dL_516 dL_517 (by decide) h1 ?_
  refine VL_arg (pc := 518) (v := 2) dL_518 dL_519 dL_520 dL_521 dL_522 (by decide) h2 ?_
  refine VL_callV (pc := 523) (M' := mX11_many) dL_523 lk_59 kv_X11_many ko_X11_many sh_67 (by decide) (by decide) rfl rfl (Nat.le_of_ble_eq_true rfl) (Nat.le_of_ble_eq_true rfl) (vX11_many E (xs (i + 1).toNatClampNeg) (xs (i + 2).toNatClampNeg) s _ h) (kI (fun r2 s2 h => ?_))
  exact VL_eqI (pc := 526) dL_526 (by decide) h.1 (kk s2 h.2)
set_option maxRecDepth 100000 in
theorem cs_11 (hR : Rel σ) (h1 : vp_in (i + 1) L) (h2 : vp_in (i + 2) L) (h3 : vp_in (i + 3) L) (h4 : vp_in (i + 4) L) (h5 : vp_in (i + 5) L) (kk : ∀ τ, Rel τ → VL E b L xs i 1444 [] τ) : VL E b L xs i 531 [] σ := by
  refine VL_x (pc := 531) dL_531 ?_
  refine VL_arg (pc := 532) (v := 1) dL_532 dL_533 dL_534 dL_535 dL_536 (by decide) h1 ?_
  refine VL_arg (pc := 537) (v := 2) dL_537 dL_538 dL_539 dL_540 dL_541 (by decide) h2 ?_
  refine VL_callV (pc := 542) (M' := mX10_told) dL_542 lk_60 kv_X10_told ko_X10_told sh_0 (by decide) (by decide) rfl rfl (Nat.le_of_ble_eq_true rfl) (Nat.le_of_ble_eq_true rfl) (vX10_told E (xs (i + 1).toNatClampNeg) (xs (i + 2).toNatClampNeg) σ _ (comb (X_told (xs (i + 1).toNatClampNeg) (xs (i + 2).toNatClampNeg)) (M_told (xs (i + 1).toNatClampNeg) (xs (i + 2).toNatClampNeg)) hR)) (kI (fun r s h => ?_))
  refine VL_m (pc := 545) dL_545 ?_
  refine VL_arg (pc := 546) (v := 1) dL_546 dL_547 dL_548 dL_549 dL_550 (by decide) h1 ?_
  refine VL_arg (pc := 551) (v := 2) dL_551 dL_552 dL_553 dL_554 dL_555 (by decide) h2 ?_
  refine VL_callV (pc := 556) (M' := mX11_told) dL_556 lk_63 kv_X11_told ko_X11_told sh_67 (by decide) (by decide) rfl rfl (Nat.le_of_ble_eq_true rfl) (Nat.le_of_ble_eq_true rfl) (vX11_told E (xs (i + 1).toNatClampNeg) (xs (i + 2).toNatClampNeg) s _ h) (kI (fun r2 s2 h => ?_))
  exact VL_eqI (pc := 559) dL_559 (by decide) h.1 (kk s2 h.2)
set_option maxRecDepth 100000 in
theorem cs_12 (hR : Rel σ) (h1 : vp_in (i + 1) L) (h2 : vp_in (i + 2) L) (h3 : vp_in (i + 3) L) (h4 : vp_in (i + 4) L) (h5 : vp_in (i + 5) L) (kk : ∀ τ, Rel τ → VL E b L xs i 1444 [] τ) : VL E b L xs i 564 [] σ := by
  refine VL_x (pc := 564) dL_564 ?_
  refine VL_arg (pc := 565) (v := 1) dL_565 dL_566 dL_567 dL_568 dL_569 (by decide) h1 ?_
  refine VL_arg (pc := 570) (v := 2) dL_570 dL_571 dL_572 dL_573 dL_574 (by decide) h2 ?_
  refine VL_arg (pc := 575) (v := 3) dL_575 dL_576 dL_577 dL_578 dL_579 (by decide) h3 ?_
  refine VL_callV (pc := 580) (M' := mX10_agree) dL_580 lk_64 kv_X10_agree ko_X10_agree sh_0 (by decide) (by decide) rfl rfl (Nat.le_of_ble_eq_true rfl) (Nat.le_of_ble_eq_true rfl) (vX10_agree E (xs (i + 1).toNatClampNeg) (xs (i + 2).toNatClampNeg) (xs (i + 3).toNatClampNeg) σ _ (comb (X_agree (xs (i + 1).toNatClampNeg) (xs (i + 2).toNatClampNeg) (xs (i + 3).toNatClampNeg)) (M_agree (xs (i + 1).toNatClampNeg) (xs (i + 2).toNatClampNeg) (xs (i + 3).toNatClampNeg)) hR)) (kI (fun r s h => ?_))
  refine VL_m (pc := 583) dL_583 ?_
  refine VL_arg (pc := 584) (v := 1) dL_584 dL_585 dL_586 dL_587 dL_588 (by decide) h1 ?_
  refine VL_arg (pc := 589) (v := 2) dL_589 dL_590 dL_591 dL_592 dL_593 (by decide) h2 ?_
  refine VL_arg (pc := 594) (v := 3) dL_594 dL_595 dL_596 dL_597 dL_598 (by decide) h3 ?_
  refine VL_callV (pc := 599) (M' := mX11_agree) dL_599 lk_68 kv_X11_agree ko_X11_agree sh_67 (by decide) (by decide) rfl rfl (Nat.le_of_ble_eq_true rfl) (Nat.le_of_ble_eq_true rfl) (vX11_agree E (xs (i + 1).toNatClampNeg) (xs (i + 2).toNatClampNeg) (xs (i + 3).toNatClampNeg) s _ h) (kI (fun r2 s2 h => ?_))
  exact VL_eqI (pc := 602) dL_602 (by decide) h.1 (kk s2 h.2)
set_option maxRecDepth 100000 in
theorem cs_13 (hR : Rel σ) (h1 : vp_in (i + 1) L) (h2 : vp_in (i + 2) L) (h3 : vp_in (i + 3) L) (h4 : vp_in (i + 4) L) (h5 : vp_in (i + 5) L) (kk : ∀ τ, Rel τ → VL E b L xs i 1444 [] τ) : VL E b L xs i 607 [] σ := by
  refine VL_x (pc := 607) dL_607 ?_
  refine VL_arg (pc := 608) (v := 1) dL_608 dL_609 dL_610 dL_611 dL_612 (by decide) h1 ?_
  refine VL_callV (pc := 613) (M' := mX10_agreeing) dL_613 lk_69 kv_X10_agreeing ko_X10_agreeing sh_0 (by decide) (by decide) rfl rfl (Nat.le_of_ble_eq_true rfl) (Nat.le_of_ble_eq_true rfl) (vX10_agreeing E (xs (i + 1).toNatClampNeg) σ _ (comb (X_agreeing (xs (i + 1).toNatClampNeg)) (M_agreeing (xs (i + 1).toNatClampNeg)) hR)) (kI (fun r s h => ?_))
  refine VL_m (pc := 616) dL_616 ?_
  refine VL_arg (pc := 617) (v := 1) dL_617 dL_618 dL_619 dL_620 dL_621 (by decide) h1 ?_
  refine VL_callV (pc := 622) (M' := mX11_agreeing) dL_622 lk_72 kv_X11_agreeing ko_X11_agreeing sh_67 (by decide) (by decide) rfl rfl (Nat.le_of_ble_eq_true rfl) (Nat.le_of_ble_eq_true rfl) (vX11_agreeing E (xs (i + 1).toNatClampNeg) s _ h) (kI (fun r2 s2 h => ?_))
  exact VL_eqI (pc := 625) dL_625 (by decide) h.1 (kk s2 h.2)
set_option maxRecDepth 100000 in
theorem cs_14 (hR : Rel σ) (h1 : vp_in (i + 1) L) (h2 : vp_in (i + 2) L) (h3 : vp_in (i + 3) L) (h4 : vp_in (i + 4) L) (h5 : vp_in (i + 5) L) (kk : ∀ τ, Rel τ → VL E b L xs i 1444 [] τ) : VL E b L xs i 630 [] σ := by
  refine VL_x (pc := 630) dL_630 ?_
  refine VL_arg (pc := 631) (v := 1) dL_631 dL_632 dL_633 dL_634 dL_635 (by decide) h1 ?_
  refine VL_arg (pc := 636) (v := 2) dL_636 dL_637 dL_638 dL_639 dL_640 (by decide) h2 ?_
  refine VL_callV (pc := 641) (M' := mX10_common) dL_641 lk_73 kv_X10_common ko_X10_common sh_0 (by decide) (by decide) rfl rfl (Nat.le_of_ble_eq_true rfl) (Nat.le_of_ble_eq_true rfl) (vX10_common E (xs (i + 1).toNatClampNeg) (xs (i + 2).toNatClampNeg) σ _ (comb (X_common (xs (i + 1).toNatClampNeg) (xs (i + 2).toNatClampNeg)) (M_common (xs (i + 1).toNatClampNeg) (xs (i + 2).toNatClampNeg)) hR)) (kI (fun r s h => ?_))
  refine VL_m (pc := 644) dL_644 ?_
  refine VL_arg (pc := 645) (v := 1) dL_645 dL_646 dL_647 dL_648 dL_649 (by decide) h1 ?_
  refine VL_arg (pc := 650) (v := 2) dL_650 dL_651 dL_652 dL_653 dL_654 (by decide) h2 ?_
  refine VL_callV (pc := 655) (M' := mX11_common) dL_655 lk_76 kv_X11_common ko_X11_common sh_67 (by decide) (by decide) rfl rfl (Nat.le_of_ble_eq_true rfl) (Nat.le_of_ble_eq_true rfl) (vX11_common E (xs (i + 1).toNatClampNeg) (xs (i + 2).toNatClampNeg) s _ h) (kI (fun r2 s2 h => ?_))
  exact VL_eqI (pc := 658) dL_658 (by decide) h.1 (kk s2 h.2)
set_option maxRecDepth 100000 in
theorem cs_15 (hR : Rel σ) (h1 : vp_in (i + 1) L) (h2 : vp_in (i + 2) L) (h3 : vp_in (i + 3) L) (h4 : vp_in (i + 4) L) (h5 : vp_in (i + 5) L) (kk : ∀ τ, Rel τ → VL E b L xs i 1444 [] τ) : VL E b L xs i 663 [] σ := by
  refine VL_x (pc := 663) dL_663 ?_
  refine VL_arg (pc := 664) (v := 1) dL_664 dL_665 dL_666 dL_667 dL_668 (by decide) h1 ?_
  refine VL_arg (pc := 669) (v := 2) dL_669 dL_670 dL_671 dL_672 dL_673 (by decide) h2 ?_
  refine VL_callV (pc := 674) (M' := mX10_chain) dL_674 lk_77 kv_X10_chain ko_X10_chain sh_0 (by decide) (by decide) rfl rfl (Nat.le_of_ble_eq_true rfl) (Nat.le_of_ble_eq_true rfl) (vX10_chain E (xs (i + 1).toNatClampNeg) (xs (i + 2).toNatClampNeg) σ _ (comb (X_chain (xs (i + 1).toNatClampNeg) (xs (i + 2).toNatClampNeg)) (M_chain (xs (i + 1).toNatClampNeg) (xs (i + 2).toNatClampNeg)) hR)) (kI (fun r s h => ?_))
  refine VL_m (pc := 677) dL_677 ?_
  refine VL_arg (pc := 678) (v := 1) dL_678 dL_679 dL_680 dL_681 dL_682 (by decide) h1 ?_
  refine VL_arg (pc := 683) (v := 2) dL_683 dL_684 dL_685 dL_686 dL_687 (by decide) h2 ?_
  refine VL_callV (pc := 688) (M' := mX11_chain) dL_688 lk_80 kv_X11_chain ko_X11_chain sh_67 (by decide) (by decide) rfl rfl (Nat.le_of_ble_eq_true rfl) (Nat.le_of_ble_eq_true rfl) (vX11_chain E (xs (i + 1).toNatClampNeg) (xs (i + 2).toNatClampNeg) s _ h) (kI (fun r2 s2 h => ?_))
  exact VL_eqI (pc := 691) dL_691 (by decide) h.1 (kk s2 h.2)
set_option maxRecDepth 100000 in
theorem cs_16 (hR : Rel σ) (h1 : vp_in (i + 1) L) (h2 : vp_in (i + 2) L) (h3 : vp_in (i + 3) L) (h4 : vp_in (i + 4) L) (h5 : vp_in (i + 5) L) (kk : ∀ τ, Rel τ → VL E b L xs i 1444 [] τ) : VL E b L xs i 696 [] σ := by
  refine VL_x (pc := 696) dL_696 ?_
  refine VL_arg (pc := 697) (v := 1) dL_697 dL_698 dL_699 dL_700 dL_701 (by decide) h1 ?_
  refine VL_arg (pc := 702) (v := 2) dL_702 dL_703 dL_704 dL_705 dL_706 (by decide) h2 ?_
  refine VL_callV (pc := 707) (M' := mX10_via) dL_707 lk_81 kv_X10_via ko_X10_via sh_0 (by decide) (by decide) rfl rfl (Nat.le_of_ble_eq_true rfl) (Nat.le_of_ble_eq_true rfl) (vX10_via E (xs (i + 1).toNatClampNeg) (xs (i + 2).toNatClampNeg) σ _ (comb (X_via (xs (i + 1).toNatClampNeg) (xs (i + 2).toNatClampNeg)) (M_via (xs (i + 1).toNatClampNeg) (xs (i + 2).toNatClampNeg)) hR)) (kI (fun r s h => ?_))
  refine VL_m (pc := 710) dL_710 ?_
  refine VL_arg (pc := 711) (v := 1) dL_711 dL_712 dL_713 dL_714 dL_715 (by decide) h1 ?_
  refine VL_arg (pc := 716) (v := 2) dL_716 dL_717 dL_718 dL_719 dL_720 (by decide) h2 ?_
  refine VL_callV (pc := 721) (M' := mX11_via) dL_721 lk_84 kv_X11_via ko_X11_via sh_67 (by decide) (by decide) rfl rfl (Nat.le_of_ble_eq_true rfl) (Nat.le_of_ble_eq_true rfl) (vX11_via E (xs (i + 1).toNatClampNeg) (xs (i + 2).toNatClampNeg) s _ h) (kI (fun r2 s2 h => ?_))
  exact VL_eqI (pc := 724) dL_724 (by decide) h.1 (kk s2 h.2)
set_option maxRecDepth 100000 in
theorem cs_17 (hR : Rel σ) (h1 : vp_in (i + 1) L) (h2 : vp_in (i + 2) L) (h3 : vp_in (i + 3) L) (h4 : vp_in (i + 4) L) (h5 : vp_in (i + 5) L) (kk : ∀ τ, Rel τ → VL E b L xs i 1444 [] τ) : VL E b L xs i 729 [] σ := by
  refine VL_x (pc := 729) dL_729 ?_
  refine VL_arg (pc := 730) (v := 1) dL_730 dL_731 dL_732 dL_733 dL_734 (by decide) h1 ?_
  refine VL_arg (pc := 735) (v := 2) dL_735 dL_736 dL_737 dL_738 dL_739 (by decide) h2 ?_
  refine VL_arg (pc := 740) (v := 3) dL_740 dL_741 dL_742 dL_743 dL_744 (by decide) h3 ?_
  refine VL_callV (pc := 745) (M' := mX10_number) dL_745 lk_85 kv_X10_number ko_X10_number sh_0 (by decide) (by decide) rfl rfl (Nat.le_of_ble_eq_true rfl) (Nat.le_of_ble_eq_true rfl) (vX10_number E (xs (i + 1).toNatClampNeg) (xs (i + 2).toNatClampNeg) (xs (i + 3).toNatClampNeg) σ _ (comb (X_number (xs (i + 1).toNatClampNeg) (xs (i + 2).toNatClampNeg) (xs (i + 3).toNatClampNeg)) (M_number (xs (i + 1).toNatClampNeg) (xs (i + 2).toNatClampNeg) (xs (i + 3).toNatClampNeg)) hR)) (kL (fun r s h => ?_))
  refine VL_m (pc := 748) dL_748 ?_
  refine VL_arg (pc := 749) (v := 1) dL_749 dL_750 dL_751 dL_752 dL_753 (by decide) h1 ?_
  refine VL_arg (pc := 754) (v := 2) dL_754 dL_755 dL_756 dL_757 dL_758 (by decide) h2 ?_
  refine VL_arg (pc := 759) (v := 3) dL_759 dL_760 dL_761 dL_762 dL_763 (by decide) h3 ?_
  refine VL_callV (pc := 764) (M' := mX11_number) dL_764 lk_89 kv_X11_number ko_X11_number sh_67 (by decide) (by decide) rfl rfl (Nat.le_of_ble_eq_true rfl) (Nat.le_of_ble_eq_true rfl) (vX11_number E (xs (i + 1).toNatClampNeg) (xs (i + 2).toNatClampNeg) (xs (i + 3).toNatClampNeg) s _ h) (kL (fun r2 s2 h => ?_))
  exact VL_eqL (pc := 767) dL_767 dL_768 (by decide) h.1 (kk s2 h.2)
set_option maxRecDepth 100000 in
theorem cs_18 (hR : Rel σ) (h1 : vp_in (i + 1) L) (h2 : vp_in (i + 2) L) (h3 : vp_in (i + 3) L) (h4 : vp_in (i + 4) L) (h5 : vp_in (i + 5) L) (kk : ∀ τ, Rel τ → VL E b L xs i 1444 [] τ) : VL E b L xs i 773 [] σ := by
  refine VL_x (pc := 773) dL_773 ?_
  refine VL_arg (pc := 774) (v := 1) dL_774 dL_775 dL_776 dL_777 dL_778 (by decide) h1 ?_
  refine VL_arg (pc := 779) (v := 2) dL_779 dL_780 dL_781 dL_782 dL_783 (by decide) h2 ?_
  refine VL_callV (pc := 784) (M' := mX10_mark) dL_784 lk_90 kv_X10_mark ko_X10_mark sh_0 (by decide) (by decide) rfl rfl (Nat.le_of_ble_eq_true rfl) (Nat.le_of_ble_eq_true rfl) (vX10_mark E (xs (i + 1).toNatClampNeg) (xs (i + 2).toNatClampNeg) σ _ (comb (X_mark (xs (i + 1).toNatClampNeg) (xs (i + 2).toNatClampNeg)) (M_mark (xs (i + 1).toNatClampNeg) (xs (i + 2).toNatClampNeg)) hR)) (kI (fun r s h => ?_))
  refine VL_m (pc := 787) dL_787 ?_
  refine VL_arg (pc := 788) (v := 1) dL_788 dL_789 dL_790 dL_791 dL_792 (by decide) h1 ?_
  refine VL_arg (pc := 793) (v := 2) dL_793 dL_794 dL_795 dL_796 dL_797 (by decide) h2 ?_
  refine VL_callV (pc := 798) (M' := mX11_mark) dL_798 lk_93 kv_X11_mark ko_X11_mark sh_67 (by decide) (by decide) rfl rfl (Nat.le_of_ble_eq_true rfl) (Nat.le_of_ble_eq_true rfl) (vX11_mark E (xs (i + 1).toNatClampNeg) (xs (i + 2).toNatClampNeg) s _ h) (kI (fun r2 s2 h => ?_))
  exact VL_eqI (pc := 801) dL_801 (by decide) h.1 (kk s2 h.2)
set_option maxRecDepth 100000 in
theorem cs_19 (hR : Rel σ) (h1 : vp_in (i + 1) L) (h2 : vp_in (i + 2) L) (h3 : vp_in (i + 3) L) (h4 : vp_in (i + 4) L) (h5 : vp_in (i + 5) L) (kk : ∀ τ, Rel τ → VL E b L xs i 1444 [] τ) : VL E b L xs i 806 [] σ := by
  refine VL_x (pc := 806) dL_806 ?_
  refine VL_arg (pc := 807) (v := 1) dL_807 dL_808 dL_809 dL_810 dL_811 (by decide) h1 ?_
  refine VL_arg (pc := 812) (v := 2) dL_812 dL_813 dL_814 dL_815 dL_816 (by decide) h2 ?_
  refine VL_callV (pc := 817) (M' := mX10_judged) dL_817 lk_94 kv_X10_judged ko_X10_judged sh_0 (by decide) (by decide) rfl rfl (Nat.le_of_ble_eq_true rfl) (Nat.le_of_ble_eq_true rfl) (vX10_judged E (xs (i + 1).toNatClampNeg) (xs (i + 2).toNatClampNeg) σ _ (comb (X_judged (xs (i + 1).toNatClampNeg) (xs (i + 2).toNatClampNeg)) (M_judged (xs (i + 1).toNatClampNeg) (xs (i + 2).toNatClampNeg)) hR)) (kI (fun r s h => ?_))
  refine VL_m (pc := 820) dL_820 ?_
  refine VL_arg (pc := 821) (v := 1) dL_821 dL_822 dL_823 dL_824 dL_825 (by decide) h1 ?_
  refine VL_arg (pc := 826) (v := 2) dL_826 dL_827 dL_828 dL_829 dL_830 (by decide) h2 ?_
  refine VL_callV (pc := 831) (M' := mX11_judged) dL_831 lk_97 kv_X11_judged ko_X11_judged sh_67 (by decide) (by decide) rfl rfl (Nat.le_of_ble_eq_true rfl) (Nat.le_of_ble_eq_true rfl) (vX11_judged E (xs (i + 1).toNatClampNeg) (xs (i + 2).toNatClampNeg) s _ h) (kI (fun r2 s2 h => ?_))
  exact VL_eqI (pc := 834) dL_834 (by decide) h.1 (kk s2 h.2)
set_option maxRecDepth 100000 in
theorem cs_20 (hR : Rel σ) (h1 : vp_in (i + 1) L) (h2 : vp_in (i + 2) L) (h3 : vp_in (i + 3) L) (h4 : vp_in (i + 4) L) (h5 : vp_in (i + 5) L) (kk : ∀ τ, Rel τ → VL E b L xs i 1444 [] τ) : VL E b L xs i 839 [] σ := by
  refine VL_x (pc := 839) dL_839 ?_
  refine VL_arg (pc := 840) (v := 1) dL_840 dL_841 dL_842 dL_843 dL_844 (by decide) h1 ?_
  refine VL_callV (pc := 845) (M' := mX10_run) dL_845 lk_98 kv_X10_run ko_X10_run sh_0 (by decide) (by decide) rfl rfl (Nat.le_of_ble_eq_true rfl) (Nat.le_of_ble_eq_true rfl) (vX10_run E (xs (i + 1).toNatClampNeg) σ _ (comb (X_run (xs (i + 1).toNatClampNeg)) (M_run (xs (i + 1).toNatClampNeg)) hR)) (kI (fun r s h => ?_))
  refine VL_m (pc := 848) dL_848 ?_
  refine VL_arg (pc := 849) (v := 1) dL_849 dL_850 dL_851 dL_852 dL_853 (by decide) h1 ?_
  refine VL_callV (pc := 854) (M' := mX11_run) dL_854 lk_101 kv_X11_run ko_X11_run sh_67 (by decide) (by decide) rfl rfl (Nat.le_of_ble_eq_true rfl) (Nat.le_of_ble_eq_true rfl) (vX11_run E (xs (i + 1).toNatClampNeg) s _ h) (kI (fun r2 s2 h => ?_))
  exact VL_eqI (pc := 857) dL_857 (by decide) h.1 (kk s2 h.2)
set_option maxRecDepth 100000 in
theorem cs_21 (hR : Rel σ) (h1 : vp_in (i + 1) L) (h2 : vp_in (i + 2) L) (h3 : vp_in (i + 3) L) (h4 : vp_in (i + 4) L) (h5 : vp_in (i + 5) L) (kk : ∀ τ, Rel τ → VL E b L xs i 1444 [] τ) : VL E b L xs i 862 [] σ := by
  refine VL_x (pc := 862) dL_862 ?_
  refine VL_arg (pc := 863) (v := 1) dL_863 dL_864 dL_865 dL_866 dL_867 (by decide) h1 ?_
  refine VL_arg (pc := 868) (v := 2) dL_868 dL_869 dL_870 dL_871 dL_872 (by decide) h2 ?_
  refine VL_arg (pc := 873) (v := 3) dL_873 dL_874 dL_875 dL_876 dL_877 (by decide) h3 ?_
  refine VL_callV (pc := 878) (M' := mX10_within) dL_878 lk_102 kv_X10_within ko_X10_within sh_0 (by decide) (by decide) rfl rfl (Nat.le_of_ble_eq_true rfl) (Nat.le_of_ble_eq_true rfl) (vX10_within E (xs (i + 1).toNatClampNeg) (xs (i + 2).toNatClampNeg) (xs (i + 3).toNatClampNeg) σ _ (comb (X_within (xs (i + 1).toNatClampNeg) (xs (i + 2).toNatClampNeg) (xs (i + 3).toNatClampNeg)) (M_within (xs (i + 1).toNatClampNeg) (xs (i + 2).toNatClampNeg) (xs (i + 3).toNatClampNeg)) hR)) (kL (fun r s h => ?_))
  refine VL_m (pc := 881) dL_881 ?_
  refine VL_arg (pc := 882) (v := 1) dL_882 dL_883 dL_884 dL_885 dL_886 (by decide) h1 ?_
  refine VL_arg (pc := 887) (v := 2) dL_887 dL_888 dL_889 dL_890 dL_891 (by decide) h2 ?_
  refine VL_arg (pc := 892) (v := 3) dL_892 dL_893 dL_894 dL_895 dL_896 (by decide) h3 ?_
  refine VL_callV (pc := 897) (M' := mX11_within) dL_897 lk_105 kv_X11_within ko_X11_within sh_67 (by decide) (by decide) rfl rfl (Nat.le_of_ble_eq_true rfl) (Nat.le_of_ble_eq_true rfl) (vX11_within E (xs (i + 1).toNatClampNeg) (xs (i + 2).toNatClampNeg) (xs (i + 3).toNatClampNeg) s _ h) (kL (fun r2 s2 h => ?_))
  exact VL_eqL (pc := 900) dL_900 dL_901 (by decide) h.1 (kk s2 h.2)
set_option maxRecDepth 100000 in
theorem cs_22 (hR : Rel σ) (h1 : vp_in (i + 1) L) (h2 : vp_in (i + 2) L) (h3 : vp_in (i + 3) L) (h4 : vp_in (i + 4) L) (h5 : vp_in (i + 5) L) (kk : ∀ τ, Rel τ → VL E b L xs i 1444 [] τ) : VL E b L xs i 906 [] σ := by
  refine VL_x (pc := 906) dL_906 ?_
  refine VL_arg (pc := 907) (v := 1) dL_907 dL_908 dL_909 dL_910 dL_911 (by decide) h1 ?_
  refine VL_callV (pc := 912) (M' := mX10_widest) dL_912 lk_106 kv_X10_widest ko_X10_widest sh_0 (by decide) (by decide) rfl rfl (Nat.le_of_ble_eq_true rfl) (Nat.le_of_ble_eq_true rfl) (vX10_widest E (xs (i + 1).toNatClampNeg) σ _ (comb (X_widest (xs (i + 1).toNatClampNeg)) (M_widest (xs (i + 1).toNatClampNeg)) hR)) (kI (fun r s h => ?_))
  refine VL_m (pc := 915) dL_915 ?_
  refine VL_arg (pc := 916) (v := 1) dL_916 dL_917 dL_918 dL_919 dL_920 (by decide) h1 ?_
  refine VL_callV (pc := 921) (M' := mX11_widest) dL_921 lk_109 kv_X11_widest ko_X11_widest sh_67 (by decide) (by decide) rfl rfl (Nat.le_of_ble_eq_true rfl) (Nat.le_of_ble_eq_true rfl) (vX11_widest E (xs (i + 1).toNatClampNeg) s _ h) (kI (fun r2 s2 h => ?_))
  exact VL_eqI (pc := 924) dL_924 (by decide) h.1 (kk s2 h.2)
set_option maxRecDepth 100000 in
theorem cs_23 (hR : Rel σ) (h1 : vp_in (i + 1) L) (h2 : vp_in (i + 2) L) (h3 : vp_in (i + 3) L) (h4 : vp_in (i + 4) L) (h5 : vp_in (i + 5) L) (kk : ∀ τ, Rel τ → VL E b L xs i 1444 [] τ) : VL E b L xs i 929 [] σ := by
  refine VL_x (pc := 929) dL_929 ?_
  refine VL_arg (pc := 930) (v := 1) dL_930 dL_931 dL_932 dL_933 dL_934 (by decide) h1 ?_
  refine VL_arg (pc := 935) (v := 2) dL_935 dL_936 dL_937 dL_938 dL_939 (by decide) h2 ?_
  refine VL_callV (pc := 940) (M' := mX10_share) dL_940 lk_110 kv_X10_share ko_X10_share sh_0 (by decide) (by decide) rfl rfl (Nat.le_of_ble_eq_true rfl) (Nat.le_of_ble_eq_true rfl) (vX10_share E (xs (i + 1).toNatClampNeg) (xs (i + 2).toNatClampNeg) σ _ (comb (X_share (xs (i + 1).toNatClampNeg) (xs (i + 2).toNatClampNeg)) (M_share (xs (i + 1).toNatClampNeg) (xs (i + 2).toNatClampNeg)) hR)) (kL (fun r s h => ?_))
  refine VL_m (pc := 943) dL_943 ?_
  refine VL_arg (pc := 944) (v := 1) dL_944 dL_945 dL_946 dL_947 dL_948 (by decide) h1 ?_
  refine VL_arg (pc := 949) (v := 2) dL_949 dL_950 dL_951 dL_952 dL_953 (by decide) h2 ?_
  refine VL_callV (pc := 954) (M' := mX11_share) dL_954 lk_114 kv_X11_share ko_X11_share sh_67 (by decide) (by decide) rfl rfl (Nat.le_of_ble_eq_true rfl) (Nat.le_of_ble_eq_true rfl) (vX11_share E (xs (i + 1).toNatClampNeg) (xs (i + 2).toNatClampNeg) s _ h) (kL (fun r2 s2 h => ?_))
  exact VL_eqL (pc := 957) dL_957 dL_958 (by decide) h.1 (kk s2 h.2)
set_option maxRecDepth 100000 in
theorem cs_24 (hR : Rel σ) (h1 : vp_in (i + 1) L) (h2 : vp_in (i + 2) L) (h3 : vp_in (i + 3) L) (h4 : vp_in (i + 4) L) (h5 : vp_in (i + 5) L) (kk : ∀ τ, Rel τ → VL E b L xs i 1444 [] τ) : VL E b L xs i 963 [] σ := by
  refine VL_x (pc := 963) dL_963 ?_
  refine VL_arg (pc := 964) (v := 1) dL_964 dL_965 dL_966 dL_967 dL_968 (by decide) h1 ?_
  refine VL_arg (pc := 969) (v := 2) dL_969 dL_970 dL_971 dL_972 dL_973 (by decide) h2 ?_
  refine VL_arg (pc := 974) (v := 3) dL_974 dL_975 dL_976 dL_977 dL_978 (by decide) h3 ?_
  refine VL_callV (pc := 979) (M' := mX10_parts) dL_979 lk_115 kv_X10_parts ko_X10_parts sh_0 (by decide) (by decide) rfl rfl (Nat.le_of_ble_eq_true rfl) (Nat.le_of_ble_eq_true rfl) (vX10_parts E (xs (i + 1).toNatClampNeg) (xs (i + 2).toNatClampNeg) (xs (i + 3).toNatClampNeg) σ _ (comb (X_parts (xs (i + 1).toNatClampNeg) (xs (i + 2).toNatClampNeg) (xs (i + 3).toNatClampNeg)) (M_parts (xs (i + 1).toNatClampNeg) (xs (i + 2).toNatClampNeg) (xs (i + 3).toNatClampNeg)) hR)) (kL (fun r s h => ?_))
  refine VL_m (pc := 982) dL_982 ?_
  refine VL_arg (pc := 983) (v := 1) dL_983 dL_984 dL_985 dL_986 dL_987 (by decide) h1 ?_
  refine VL_arg (pc := 988) (v := 2) dL_988 dL_989 dL_990 dL_991 dL_992 (by decide) h2 ?_
  refine VL_arg (pc := 993) (v := 3) dL_993 dL_994 dL_995 dL_996 dL_997 (by decide) h3 ?_
  refine VL_callV (pc := 998) (M' := mX11_parts) dL_998 lk_118 kv_X11_parts ko_X11_parts sh_67 (by decide) (by decide) rfl rfl (Nat.le_of_ble_eq_true rfl) (Nat.le_of_ble_eq_true rfl) (vX11_parts E (xs (i + 1).toNatClampNeg) (xs (i + 2).toNatClampNeg) (xs (i + 3).toNatClampNeg) s _ h) (kL (fun r2 s2 h => ?_))
  exact VL_eqL (pc := 1001) dL_1001 dL_1002 (by decide) h.1 (kk s2 h.2)
set_option maxRecDepth 100000 in
theorem cs_25 (hR : Rel σ) (h1 : vp_in (i + 1) L) (h2 : vp_in (i + 2) L) (h3 : vp_in (i + 3) L) (h4 : vp_in (i + 4) L) (h5 : vp_in (i + 5) L) (kk : ∀ τ, Rel τ → VL E b L xs i 1444 [] τ) : VL E b L xs i 1007 [] σ := by
  refine VL_x (pc := 1007) dL_1007 ?_
  refine VL_arg (pc := 1008) (v := 1) dL_1008 dL_1009 dL_1010 dL_1011 dL_1012 (by decide) h1 ?_
  refine VL_arg (pc := 1013) (v := 2) dL_1013 dL_1014 dL_1015 dL_1016 dL_1017 (by decide) h2 ?_
  refine VL_callV (pc := 1018) (M' := mX10_ways) dL_1018 lk_119 kv_X10_ways ko_X10_ways sh_0 (by decide) (by decide) rfl rfl (Nat.le_of_ble_eq_true rfl) (Nat.le_of_ble_eq_true rfl) (vX10_ways E (xs (i + 1).toNatClampNeg) (xs (i + 2).toNatClampNeg) σ _ (comb (X_ways (xs (i + 1).toNatClampNeg) (xs (i + 2).toNatClampNeg)) (M_ways (xs (i + 1).toNatClampNeg) (xs (i + 2).toNatClampNeg)) hR)) (kI (fun r s h => ?_))
  refine VL_m (pc := 1021) dL_1021 ?_
  refine VL_arg (pc := 1022) (v := 1) dL_1022 dL_1023 dL_1024 dL_1025 dL_1026 (by decide) h1 ?_
  refine VL_arg (pc := 1027) (v := 2) dL_1027 dL_1028 dL_1029 dL_1030 dL_1031 (by decide) h2 ?_
  refine VL_callV (pc := 1032) (M' := mX11_ways) dL_1032 lk_122 kv_X11_ways ko_X11_ways sh_67 (by decide) (by decide) rfl rfl (Nat.le_of_ble_eq_true rfl) (Nat.le_of_ble_eq_true rfl) (vX11_ways E (xs (i + 1).toNatClampNeg) (xs (i + 2).toNatClampNeg) s _ h) (kI (fun r2 s2 h => ?_))
  exact VL_eqI (pc := 1035) dL_1035 (by decide) h.1 (kk s2 h.2)
set_option maxRecDepth 100000 in
theorem cs_26 (hR : Rel σ) (h1 : vp_in (i + 1) L) (h2 : vp_in (i + 2) L) (h3 : vp_in (i + 3) L) (h4 : vp_in (i + 4) L) (h5 : vp_in (i + 5) L) (kk : ∀ τ, Rel τ → VL E b L xs i 1444 [] τ) : VL E b L xs i 1040 [] σ := by
  refine VL_x (pc := 1040) dL_1040 ?_
  refine VL_arg (pc := 1041) (v := 1) dL_1041 dL_1042 dL_1043 dL_1044 dL_1045 (by decide) h1 ?_
  refine VL_callV (pc := 1046) (M' := mX10_score) dL_1046 lk_123 kv_X10_score ko_X10_score sh_0 (by decide) (by decide) rfl rfl (Nat.le_of_ble_eq_true rfl) (Nat.le_of_ble_eq_true rfl) (vX10_score E (xs (i + 1).toNatClampNeg) σ _ (comb (X_score (xs (i + 1).toNatClampNeg)) (M_score (xs (i + 1).toNatClampNeg)) hR)) (kL (fun r s h => ?_))
  refine VL_m (pc := 1049) dL_1049 ?_
  refine VL_arg (pc := 1050) (v := 1) dL_1050 dL_1051 dL_1052 dL_1053 dL_1054 (by decide) h1 ?_
  refine VL_callV (pc := 1055) (M' := mX11_score) dL_1055 lk_127 kv_X11_score ko_X11_score sh_67 (by decide) (by decide) rfl rfl (Nat.le_of_ble_eq_true rfl) (Nat.le_of_ble_eq_true rfl) (vX11_score E (xs (i + 1).toNatClampNeg) s _ h) (kL (fun r2 s2 h => ?_))
  exact VL_eqL (pc := 1058) dL_1058 dL_1059 (by decide) h.1 (kk s2 h.2)
set_option maxRecDepth 100000 in
theorem cs_27 (hR : Rel σ) (h1 : vp_in (i + 1) L) (h2 : vp_in (i + 2) L) (h3 : vp_in (i + 3) L) (h4 : vp_in (i + 4) L) (h5 : vp_in (i + 5) L) (kk : ∀ τ, Rel τ → VL E b L xs i 1444 [] τ) : VL E b L xs i 1064 [] σ := by
  refine VL_x (pc := 1064) dL_1064 ?_
  refine VL_arg (pc := 1065) (v := 1) dL_1065 dL_1066 dL_1067 dL_1068 dL_1069 (by decide) h1 ?_
  refine VL_callV (pc := 1070) (M' := mX10_type) dL_1070 lk_128 kv_X10_type ko_X10_type sh_0 (by decide) (by decide) rfl rfl (Nat.le_of_ble_eq_true rfl) (Nat.le_of_ble_eq_true rfl) (vX10_type E (xs (i + 1).toNatClampNeg) σ _ (comb (X_type (xs (i + 1).toNatClampNeg)) (M_type (xs (i + 1).toNatClampNeg)) hR)) (kI (fun r s h => ?_))
  refine VL_m (pc := 1073) dL_1073 ?_
  refine VL_arg (pc := 1074) (v := 1) dL_1074 dL_1075 dL_1076 dL_1077 dL_1078 (by decide) h1 ?_
  refine VL_callV (pc := 1079) (M' := mX11_type) dL_1079 lk_131 kv_X11_type ko_X11_type sh_67 (by decide) (by decide) rfl rfl (Nat.le_of_ble_eq_true rfl) (Nat.le_of_ble_eq_true rfl) (vX11_type E (xs (i + 1).toNatClampNeg) s _ h) (kI (fun r2 s2 h => ?_))
  exact VL_eqI (pc := 1082) dL_1082 (by decide) h.1 (kk s2 h.2)
set_option maxRecDepth 100000 in
theorem cs_28 (hR : Rel σ) (h1 : vp_in (i + 1) L) (h2 : vp_in (i + 2) L) (h3 : vp_in (i + 3) L) (h4 : vp_in (i + 4) L) (h5 : vp_in (i + 5) L) (kk : ∀ τ, Rel τ → VL E b L xs i 1444 [] τ) : VL E b L xs i 1087 [] σ := by
  refine VL_x (pc := 1087) dL_1087 ?_
  refine VL_callV (pc := 1088) (M' := mX10_wipe) dL_1088 lk_132 kv_X10_wipe ko_X10_wipe sh_0 (by decide) (by decide) rfl rfl (Nat.le_of_ble_eq_true rfl) (Nat.le_of_ble_eq_true rfl) (vX10_wipe E  σ _ (comb (X_wipe) (M_wipe) hR)) (kI (fun r s h => ?_))
  refine VL_m (pc := 1091) dL_1091 ?_
  refine VL_callV (pc := 1092) (M' := mX11_wipe) dL_1092 lk_136 kv_X11_wipe ko_X11_wipe sh_67 (by decide) (by decide) rfl rfl (Nat.le_of_ble_eq_true rfl) (Nat.le_of_ble_eq_true rfl) (vX11_wipe E  s _ h) (kI (fun r2 s2 h => ?_))
  exact VL_eqI (pc := 1095) dL_1095 (by decide) h.1 (kk s2 h.2)
set_option maxRecDepth 100000 in
theorem cs_29 (hR : Rel σ) (h1 : vp_in (i + 1) L) (h2 : vp_in (i + 2) L) (h3 : vp_in (i + 3) L) (h4 : vp_in (i + 4) L) (h5 : vp_in (i + 5) L) (kk : ∀ τ, Rel τ → VL E b L xs i 1444 [] τ) : VL E b L xs i 1100 [] σ := by
  refine VL_x (pc := 1100) dL_1100 ?_
  refine VL_callV (pc := 1101) (M' := mX10_fault) dL_1101 lk_137 kv_X10_fault ko_X10_fault sh_0 (by decide) (by decide) rfl rfl (Nat.le_of_ble_eq_true rfl) (Nat.le_of_ble_eq_true rfl) (vX10_fault E  σ _ (comb (X_fault) (M_fault) hR)) (kI (fun r s h => ?_))
  refine VL_m (pc := 1104) dL_1104 ?_
  refine VL_callV (pc := 1105) (M' := mX11_fault) dL_1105 lk_140 kv_X11_fault ko_X11_fault sh_67 (by decide) (by decide) rfl rfl (Nat.le_of_ble_eq_true rfl) (Nat.le_of_ble_eq_true rfl) (vX11_fault E  s _ h) (kI (fun r2 s2 h => ?_))
  exact VL_eqI (pc := 1108) dL_1108 (by decide) h.1 (kk s2 h.2)
set_option maxRecDepth 100000 in
theorem cs_30 (hR : Rel σ) (h1 : vp_in (i + 1) L) (h2 : vp_in (i + 2) L) (h3 : vp_in (i + 3) L) (h4 : vp_in (i + 4) L) (h5 : vp_in (i + 5) L) (kk : ∀ τ, Rel τ → VL E b L xs i 1444 [] τ) : VL E b L xs i 1113 [] σ := by
  refine VL_x (pc := 1113) dL_1113 ?_
  refine VL_callV (pc := 1114) (M' := mX10_reckon) dL_1114 lk_141 kv_X10_reckon ko_X10_reckon sh_0 (by decide) (by decide) rfl rfl (Nat.le_of_ble_eq_true rfl) (Nat.le_of_ble_eq_true rfl) (vX10_reckon E  σ _ (comb (X_reckon) (M_reckon) hR)) (kI (fun r s h => ?_))
  refine VL_m (pc := 1117) dL_1117 ?_
  refine VL_callV (pc := 1118) (M' := mX11_reckon) dL_1118 lk_144 kv_X11_reckon ko_X11_reckon sh_67 (by decide) (by decide) rfl rfl (Nat.le_of_ble_eq_true rfl) (Nat.le_of_ble_eq_true rfl) (vX11_reckon E  s _ h) (kI (fun r2 s2 h => ?_))
  exact VL_eqI (pc := 1121) dL_1121 (by decide) h.1 (kk s2 h.2)
set_option maxRecDepth 100000 in
theorem cs_31 (hR : Rel σ) (h1 : vp_in (i + 1) L) (h2 : vp_in (i + 2) L) (h3 : vp_in (i + 3) L) (h4 : vp_in (i + 4) L) (h5 : vp_in (i + 5) L) (kk : ∀ τ, Rel τ → VL E b L xs i 1444 [] τ) : VL E b L xs i 1126 [] σ := by
  refine VL_x (pc := 1126) dL_1126 ?_
  refine VL_arg (pc := 1127) (v := 1) dL_1127 dL_1128 dL_1129 dL_1130 dL_1131 (by decide) h1 ?_
  refine VL_callV (pc := 1132) (M' := mX10_claim) dL_1132 lk_145 kv_X10_claim ko_X10_claim sh_0 (by decide) (by decide) rfl rfl (Nat.le_of_ble_eq_true rfl) (Nat.le_of_ble_eq_true rfl) (vX10_claim E (xs (i + 1).toNatClampNeg) σ _ (comb (X_claim (xs (i + 1).toNatClampNeg)) (M_claim (xs (i + 1).toNatClampNeg)) hR)) (kI (fun r s h => ?_))
  refine VL_m (pc := 1135) dL_1135 ?_
  refine VL_arg (pc := 1136) (v := 1) dL_1136 dL_1137 dL_1138 dL_1139 dL_1140 (by decide) h1 ?_
  refine VL_callV (pc := 1141) (M' := mX11_claim) dL_1141 lk_148 kv_X11_claim ko_X11_claim sh_67 (by decide) (by decide) rfl rfl (Nat.le_of_ble_eq_true rfl) (Nat.le_of_ble_eq_true rfl) (vX11_claim E (xs (i + 1).toNatClampNeg) s _ h) (kI (fun r2 s2 h => ?_))
  exact VL_eqI (pc := 1144) dL_1144 (by decide) h.1 (kk s2 h.2)
set_option maxRecDepth 100000 in
theorem cs_32 (hR : Rel σ) (h1 : vp_in (i + 1) L) (h2 : vp_in (i + 2) L) (h3 : vp_in (i + 3) L) (h4 : vp_in (i + 4) L) (h5 : vp_in (i + 5) L) (kk : ∀ τ, Rel τ → VL E b L xs i 1444 [] τ) : VL E b L xs i 1149 [] σ := by
  refine VL_x (pc := 1149) dL_1149 ?_
  refine VL_arg (pc := 1150) (v := 1) dL_1150 dL_1151 dL_1152 dL_1153 dL_1154 (by decide) h1 ?_
  refine VL_arg (pc := 1155) (v := 2) dL_1155 dL_1156 dL_1157 dL_1158 dL_1159 (by decide) h2 ?_
  refine VL_arg (pc := 1160) (v := 3) dL_1160 dL_1161 dL_1162 dL_1163 dL_1164 (by decide) h3 ?_
  refine VL_callV (pc := 1165) (M' := mX10_sheet) dL_1165 lk_149 kv_X10_sheet ko_X10_sheet sh_0 (by decide) (by decide) rfl rfl (Nat.le_of_ble_eq_true rfl) (Nat.le_of_ble_eq_true rfl) (vX10_sheet E (xs (i + 1).toNatClampNeg) (xs (i + 2).toNatClampNeg) (xs (i + 3).toNatClampNeg) σ _ (comb (X_sheet (xs (i + 1).toNatClampNeg) (xs (i + 2).toNatClampNeg) (xs (i + 3).toNatClampNeg)) (M_sheet (xs (i + 1).toNatClampNeg) (xs (i + 2).toNatClampNeg) (xs (i + 3).toNatClampNeg)) hR)) (kI (fun r s h => ?_))
  refine VL_m (pc := 1168) dL_1168 ?_
  refine VL_arg (pc := 1169) (v := 1) dL_1169 dL_1170 dL_1171 dL_1172 dL_1173 (by decide) h1 ?_
  refine VL_arg (pc := 1174) (v := 2) dL_1174 dL_1175 dL_1176 dL_1177 dL_1178 (by decide) h2 ?_
  refine VL_arg (pc := 1179) (v := 3) dL_1179 dL_1180 dL_1181 dL_1182 dL_1183 (by decide) h3 ?_
  refine VL_callV (pc := 1184) (M' := mX11_sheet) dL_1184 lk_152 kv_X11_sheet ko_X11_sheet sh_67 (by decide) (by decide) rfl rfl (Nat.le_of_ble_eq_true rfl) (Nat.le_of_ble_eq_true rfl) (vX11_sheet E (xs (i + 1).toNatClampNeg) (xs (i + 2).toNatClampNeg) (xs (i + 3).toNatClampNeg) s _ h) (kI (fun r2 s2 h => ?_))
  exact VL_eqI (pc := 1187) dL_1187 (by decide) h.1 (kk s2 h.2)
set_option maxRecDepth 100000 in
theorem cs_33 (hR : Rel σ) (h1 : vp_in (i + 1) L) (h2 : vp_in (i + 2) L) (h3 : vp_in (i + 3) L) (h4 : vp_in (i + 4) L) (h5 : vp_in (i + 5) L) (kk : ∀ τ, Rel τ → VL E b L xs i 1444 [] τ) : VL E b L xs i 1192 [] σ := by
  refine VL_x (pc := 1192) dL_1192 ?_
  refine VL_arg (pc := 1193) (v := 1) dL_1193 dL_1194 dL_1195 dL_1196 dL_1197 (by decide) h1 ?_
  refine VL_callV (pc := 1198) (M' := mX10_lose) dL_1198 lk_153 kv_X10_lose ko_X10_lose sh_0 (by decide) (by decide) rfl rfl (Nat.le_of_ble_eq_true rfl) (Nat.le_of_ble_eq_true rfl) (vX10_lose E (xs (i + 1).toNatClampNeg) σ _ (comb (X_lose (xs (i + 1).toNatClampNeg)) (M_lose (xs (i + 1).toNatClampNeg)) hR)) (kI (fun r s h => ?_))
  refine VL_m (pc := 1201) dL_1201 ?_
  refine VL_arg (pc := 1202) (v := 1) dL_1202 dL_1203 dL_1204 dL_1205 dL_1206 (by decide) h1 ?_
  refine VL_callV (pc := 1207) (M' := mX11_lose) dL_1207 lk_156 kv_X11_lose ko_X11_lose sh_67 (by decide) (by decide) rfl rfl (Nat.le_of_ble_eq_true rfl) (Nat.le_of_ble_eq_true rfl) (vX11_lose E (xs (i + 1).toNatClampNeg) s _ h) (kI (fun r2 s2 h => ?_))
  exact VL_eqI (pc := 1210) dL_1210 (by decide) h.1 (kk s2 h.2)
set_option maxRecDepth 100000 in
theorem cs_34 (hR : Rel σ) (h1 : vp_in (i + 1) L) (h2 : vp_in (i + 2) L) (h3 : vp_in (i + 3) L) (h4 : vp_in (i + 4) L) (h5 : vp_in (i + 5) L) (kk : ∀ τ, Rel τ → VL E b L xs i 1444 [] τ) : VL E b L xs i 1215 [] σ := by
  refine VL_x (pc := 1215) dL_1215 ?_
  refine VL_arg (pc := 1216) (v := 1) dL_1216 dL_1217 dL_1218 dL_1219 dL_1220 (by decide) h1 ?_
  refine VL_arg (pc := 1221) (v := 2) dL_1221 dL_1222 dL_1223 dL_1224 dL_1225 (by decide) h2 ?_
  refine VL_arg (pc := 1226) (v := 3) dL_1226 dL_1227 dL_1228 dL_1229 dL_1230 (by decide) h3 ?_
  refine VL_arg (pc := 1231) (v := 4) dL_1231 dL_1232 dL_1233 dL_1234 dL_1235 (by decide) h4 ?_
  refine VL_callV (pc := 1236) (M' := mX10_put) dL_1236 lk_157 kv_X10_put ko_X10_put sh_0 (by decide) (by decide) rfl rfl (Nat.le_of_ble_eq_true rfl) (Nat.le_of_ble_eq_true rfl) (vX10_put E (xs (i + 1).toNatClampNeg) (xs (i + 2).toNatClampNeg) (xs (i + 3).toNatClampNeg) (xs (i + 4).toNatClampNeg) σ _ (comb (X_put (xs (i + 1).toNatClampNeg) (xs (i + 2).toNatClampNeg) (xs (i + 3).toNatClampNeg) (xs (i + 4).toNatClampNeg)) (M_put (xs (i + 1).toNatClampNeg) (xs (i + 2).toNatClampNeg) (xs (i + 3).toNatClampNeg) (xs (i + 4).toNatClampNeg)) hR)) (kI (fun r s h => ?_))
  refine VL_m (pc := 1239) dL_1239 ?_
  refine VL_arg (pc := 1240) (v := 1) dL_1240 dL_1241 dL_1242 dL_1243 dL_1244 (by decide) h1 ?_
  refine VL_arg (pc := 1245) (v := 2) dL_1245 dL_1246 dL_1247 dL_1248 dL_1249 (by decide) h2 ?_
  refine VL_arg (pc := 1250) (v := 3) dL_1250 dL_1251 dL_1252 dL_1253 dL_1254 (by decide) h3 ?_
  refine VL_arg (pc := 1255) (v := 4) dL_1255 dL_1256 dL_1257 dL_1258 dL_1259 (by decide) h4 ?_
  refine VL_callV (pc := 1260) (M' := mX11_put) dL_1260 lk_160 kv_X11_put ko_X11_put sh_67 (by decide) (by decide) rfl rfl (Nat.le_of_ble_eq_true rfl) (Nat.le_of_ble_eq_true rfl) (vX11_put E (xs (i + 1).toNatClampNeg) (xs (i + 2).toNatClampNeg) (xs (i + 3).toNatClampNeg) (xs (i + 4).toNatClampNeg) s _ h) (kI (fun r2 s2 h => ?_))
  exact VL_eqI (pc := 1263) dL_1263 (by decide) h.1 (kk s2 h.2)
set_option maxRecDepth 100000 in
theorem cs_35 (hR : Rel σ) (h1 : vp_in (i + 1) L) (h2 : vp_in (i + 2) L) (h3 : vp_in (i + 3) L) (h4 : vp_in (i + 4) L) (h5 : vp_in (i + 5) L) (kk : ∀ τ, Rel τ → VL E b L xs i 1444 [] τ) : VL E b L xs i 1268 [] σ := by
  refine VL_x (pc := 1268) dL_1268 ?_
  refine VL_arg (pc := 1269) (v := 1) dL_1269 dL_1270 dL_1271 dL_1272 dL_1273 (by decide) h1 ?_
  refine VL_arg (pc := 1274) (v := 2) dL_1274 dL_1275 dL_1276 dL_1277 dL_1278 (by decide) h2 ?_
  refine VL_arg (pc := 1279) (v := 3) dL_1279 dL_1280 dL_1281 dL_1282 dL_1283 (by decide) h3 ?_
  refine VL_callV (pc := 1284) (M' := mX10_get) dL_1284 lk_161 kv_X10_get ko_X10_get sh_0 (by decide) (by decide) rfl rfl (Nat.le_of_ble_eq_true rfl) (Nat.le_of_ble_eq_true rfl) (vX10_get E (xs (i + 1).toNatClampNeg) (xs (i + 2).toNatClampNeg) (xs (i + 3).toNatClampNeg) σ _ (comb (X_get (xs (i + 1).toNatClampNeg) (xs (i + 2).toNatClampNeg) (xs (i + 3).toNatClampNeg)) (M_get (xs (i + 1).toNatClampNeg) (xs (i + 2).toNatClampNeg) (xs (i + 3).toNatClampNeg)) hR)) (kI (fun r s h => ?_))
  refine VL_m (pc := 1287) dL_1287 ?_
  refine VL_arg (pc := 1288) (v := 1) dL_1288 dL_1289 dL_1290 dL_1291 dL_1292 (by decide) h1 ?_
  refine VL_arg (pc := 1293) (v := 2) dL_1293 dL_1294 dL_1295 dL_1296 dL_1297 (by decide) h2 ?_
  refine VL_arg (pc := 1298) (v := 3) dL_1298 dL_1299 dL_1300 dL_1301 dL_1302 (by decide) h3 ?_
  refine VL_callV (pc := 1303) (M' := mX11_get) dL_1303 lk_164 kv_X11_get ko_X11_get sh_67 (by decide) (by decide) rfl rfl (Nat.le_of_ble_eq_true rfl) (Nat.le_of_ble_eq_true rfl) (vX11_get E (xs (i + 1).toNatClampNeg) (xs (i + 2).toNatClampNeg) (xs (i + 3).toNatClampNeg) s _ h) (kI (fun r2 s2 h => ?_))
  exact VL_eqI (pc := 1306) dL_1306 (by decide) h.1 (kk s2 h.2)
set_option maxRecDepth 100000 in
theorem cs_36 (hR : Rel σ) (h1 : vp_in (i + 1) L) (h2 : vp_in (i + 2) L) (h3 : vp_in (i + 3) L) (h4 : vp_in (i + 4) L) (h5 : vp_in (i + 5) L) (kk : ∀ τ, Rel τ → VL E b L xs i 1444 [] τ) : VL E b L xs i 1311 [] σ := by
  refine VL_x (pc := 1311) dL_1311 ?_
  refine VL_arg (pc := 1312) (v := 1) dL_1312 dL_1313 dL_1314 dL_1315 dL_1316 (by decide) h1 ?_
  refine VL_arg (pc := 1317) (v := 2) dL_1317 dL_1318 dL_1319 dL_1320 dL_1321 (by decide) h2 ?_
  refine VL_arg (pc := 1322) (v := 3) dL_1322 dL_1323 dL_1324 dL_1325 dL_1326 (by decide) h3 ?_
  refine VL_arg (pc := 1327) (v := 4) dL_1327 dL_1328 dL_1329 dL_1330 dL_1331 (by decide) h4 ?_
  refine VL_arg (pc := 1332) (v := 5) dL_1332 dL_1333 dL_1334 dL_1335 dL_1336 (by decide) h5 ?_
  refine VL_callV (pc := 1337) (M' := mX10_copy) dL_1337 lk_165 kv_X10_copy ko_X10_copy sh_0 (by decide) (by decide) rfl rfl (Nat.le_of_ble_eq_true rfl) (Nat.le_of_ble_eq_true rfl) (vX10_copy E (xs (i + 1).toNatClampNeg) (xs (i + 2).toNatClampNeg) (xs (i + 3).toNatClampNeg) (xs (i + 4).toNatClampNeg) (xs (i + 5).toNatClampNeg) σ _ (comb (X_copy (xs (i + 1).toNatClampNeg) (xs (i + 2).toNatClampNeg) (xs (i + 3).toNatClampNeg) (xs (i + 4).toNatClampNeg) (xs (i + 5).toNatClampNeg)) (M_copy (xs (i + 1).toNatClampNeg) (xs (i + 2).toNatClampNeg) (xs (i + 3).toNatClampNeg) (xs (i + 4).toNatClampNeg) (xs (i + 5).toNatClampNeg)) hR)) (kI (fun r s h => ?_))
  refine VL_m (pc := 1340) dL_1340 ?_
  refine VL_arg (pc := 1341) (v := 1) dL_1341 dL_1342 dL_1343 dL_1344 dL_1345 (by decide) h1 ?_
  refine VL_arg (pc := 1346) (v := 2) dL_1346 dL_1347 dL_1348 dL_1349 dL_1350 (by decide) h2 ?_
  refine VL_arg (pc := 1351) (v := 3) dL_1351 dL_1352 dL_1353 dL_1354 dL_1355 (by decide) h3 ?_
  refine VL_arg (pc := 1356) (v := 4) dL_1356 dL_1357 dL_1358 dL_1359 dL_1360 (by decide) h4 ?_
  refine VL_arg (pc := 1361) (v := 5) dL_1361 dL_1362 dL_1363 dL_1364 dL_1365 (by decide) h5 ?_
  refine VL_callV (pc := 1366) (M' := mX11_copy) dL_1366 lk_169 kv_X11_copy ko_X11_copy sh_67 (by decide) (by decide) rfl rfl (Nat.le_of_ble_eq_true rfl) (Nat.le_of_ble_eq_true rfl) (vX11_copy E (xs (i + 1).toNatClampNeg) (xs (i + 2).toNatClampNeg) (xs (i + 3).toNatClampNeg) (xs (i + 4).toNatClampNeg) (xs (i + 5).toNatClampNeg) s _ h) (kI (fun r2 s2 h => ?_))
  exact VL_eqI (pc := 1369) dL_1369 (by decide) h.1 (kk s2 h.2)
set_option maxRecDepth 100000 in
theorem cs_37 (hR : Rel σ) (h1 : vp_in (i + 1) L) (h2 : vp_in (i + 2) L) (h3 : vp_in (i + 3) L) (h4 : vp_in (i + 4) L) (h5 : vp_in (i + 5) L) (kk : ∀ τ, Rel τ → VL E b L xs i 1444 [] τ) : VL E b L xs i 1374 [] σ := by
  refine VL_x (pc := 1374) dL_1374 ?_
  refine VL_arg (pc := 1375) (v := 1) dL_1375 dL_1376 dL_1377 dL_1378 dL_1379 (by decide) h1 ?_
  refine VL_arg (pc := 1380) (v := 2) dL_1380 dL_1381 dL_1382 dL_1383 dL_1384 (by decide) h2 ?_
  refine VL_callV (pc := 1385) (M' := mX10_write) dL_1385 lk_170 kv_X10_write ko_X10_write sh_0 (by decide) (by decide) rfl rfl (Nat.le_of_ble_eq_true rfl) (Nat.le_of_ble_eq_true rfl) (vX10_write E (xs (i + 1).toNatClampNeg) (xs (i + 2).toNatClampNeg) σ _ (comb (X_write (xs (i + 1).toNatClampNeg) (xs (i + 2).toNatClampNeg)) (M_write (xs (i + 1).toNatClampNeg) (xs (i + 2).toNatClampNeg)) hR)) (kI (fun r s h => ?_))
  refine VL_m (pc := 1388) dL_1388 ?_
  refine VL_arg (pc := 1389) (v := 1) dL_1389 dL_1390 dL_1391 dL_1392 dL_1393 (by decide) h1 ?_
  refine VL_arg (pc := 1394) (v := 2) dL_1394 dL_1395 dL_1396 dL_1397 dL_1398 (by decide) h2 ?_
  refine VL_callV (pc := 1399) (M' := mX11_write) dL_1399 lk_173 kv_X11_write ko_X11_write sh_67 (by decide) (by decide) rfl rfl (Nat.le_of_ble_eq_true rfl) (Nat.le_of_ble_eq_true rfl) (vX11_write E (xs (i + 1).toNatClampNeg) (xs (i + 2).toNatClampNeg) s _ h) (kI (fun r2 s2 h => ?_))
  exact VL_eqI (pc := 1402) dL_1402 (by decide) h.1 (kk s2 h.2)
set_option maxRecDepth 100000 in
theorem cs_38 (hR : Rel σ) (h1 : vp_in (i + 1) L) (h2 : vp_in (i + 2) L) (h3 : vp_in (i + 3) L) (h4 : vp_in (i + 4) L) (h5 : vp_in (i + 5) L) (kk : ∀ τ, Rel τ → VL E b L xs i 1444 [] τ) : VL E b L xs i 1407 [] σ := by
  refine VL_x (pc := 1407) dL_1407 ?_
  refine VL_arg (pc := 1408) (v := 1) dL_1408 dL_1409 dL_1410 dL_1411 dL_1412 (by decide) h1 ?_
  refine VL_callV (pc := 1413) (M' := mX10_count) dL_1413 lk_174 kv_X10_count ko_X10_count sh_0 (by decide) (by decide) rfl rfl (Nat.le_of_ble_eq_true rfl) (Nat.le_of_ble_eq_true rfl) (vX10_count E (xs (i + 1).toNatClampNeg) σ _ (comb (X_count (xs (i + 1).toNatClampNeg)) (M_count (xs (i + 1).toNatClampNeg)) hR)) (kI (fun r s h => ?_))
  refine VL_m (pc := 1416) dL_1416 ?_
  refine VL_arg (pc := 1417) (v := 1) dL_1417 dL_1418 dL_1419 dL_1420 dL_1421 (by decide) h1 ?_
  refine VL_callV (pc := 1422) (M' := mX11_count) dL_1422 lk_177 kv_X11_count ko_X11_count sh_67 (by decide) (by decide) rfl rfl (Nat.le_of_ble_eq_true rfl) (Nat.le_of_ble_eq_true rfl) (vX11_count E (xs (i + 1).toNatClampNeg) s _ h) (kI (fun r2 s2 h => ?_))
  exact VL_eqI (pc := 1425) dL_1425 (by decide) h.1 (kk s2 h.2)
set_option maxRecDepth 100000 in
theorem cs_39 (hR : Rel σ) (h1 : vp_in (i + 1) L) (h2 : vp_in (i + 2) L) (h3 : vp_in (i + 3) L) (h4 : vp_in (i + 4) L) (h5 : vp_in (i + 5) L) (kk : ∀ τ, Rel τ → VL E b L xs i 1444 [] τ) : VL E b L xs i 1430 [] σ := by
  refine VL_x (pc := 1430) dL_1430 ?_
  refine VL_callV (pc := 1431) (M' := mX10_digest) dL_1431 lk_178 kv_X10_digest ko_X10_digest sh_0 (by decide) (by decide) rfl rfl (Nat.le_of_ble_eq_true rfl) (Nat.le_of_ble_eq_true rfl) (vX10_digest E  σ _ (comb (X_digest) (M_digest) hR)) (kL (fun r s h => ?_))
  refine VL_m (pc := 1434) dL_1434 ?_
  refine VL_callV (pc := 1435) (M' := mX11_digest) dL_1435 lk_182 kv_X11_digest ko_X11_digest sh_67 (by decide) (by decide) rfl rfl (Nat.le_of_ble_eq_true rfl) (Nat.le_of_ble_eq_true rfl) (vX11_digest E  s _ h) (kL (fun r2 s2 h => ?_))
  exact VL_eqL (pc := 1438) dL_1438 dL_1439 (by decide) h.1 (kk s2 h.2)
end LCS
