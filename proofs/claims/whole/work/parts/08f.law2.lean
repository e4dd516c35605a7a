/-! The law: its cases (written by wip/gen/law.py) -/
section LC
variable {p : Program} {l : Launch} {e : Env} {s : State} {m : MethodId} {below : List Frame} {meth : Method} {c : Code} {D : va_G} {kT : Nat → ClassId} {ρ ρ2 : Nat → Nat} {b Ln : Nat} {xs : Nat → Int32} {A B : bw_M} {kc ks : Nat} {j : Nat}
theorem la_c0 (C : la_Cx p s m meth c D kT ρ ρ2 b Ln xs kc ks) (hR : Rel A B) (hj : j + 6 ≤ Ln) (k : ∀ A' B', Rel A' B' → la_At p l e s m below meth c D kT ρ ρ2 b kc ks 1379 (la_L b ρ ρ2 j) [] A' B') : la_At p l e s m below meth c D kT ρ ρ2 b kc ks 224 (la_L b ρ ρ2 j) [] A B := by
  obtain ⟨r, A', B', h1, h2, hR'⟩ := ok_row (N := 2000) (by decide) hR (xs (j + 1)) (xs (j + 2))
  refine la_al1 (pc := 224) C dL_law_224 ?_
  refine la_arg (pc := 225) (kk := 1) C (by omega) dL_law_225 dL_law_226 dL_law_227 (by decide) dL_law_228 dL_law_229 ?_
  refine la_arg (pc := 230) (kk := 2) C (by omega) dL_law_230 dL_law_231 dL_law_232 (by decide) dL_law_233 dL_law_234 ?_
  refine la_cCi (pc := 235) (As := [.int (xs (j + 1)), .int (xs (j + 2))]) (rest := []) C (tX4_row l 2000 (xs (j + 1)) (xs (j + 2)) A r A' h1) msX4_row mw_175 rfl rfl ⟨Nat.le_of_ble_eq_true rfl, Nat.le_of_ble_eq_true rfl⟩ rfl rfl rfl (Nat.le_of_ble_eq_true rfl) dL_law_235 ?_
  refine la_al2 (pc := 238) C dL_law_238 ?_
  refine la_arg (pc := 239) (kk := 1) C (by omega) dL_law_239 dL_law_240 dL_law_241 (by decide) dL_law_242 dL_law_243 ?_
  refine la_arg (pc := 244) (kk := 2) C (by omega) dL_law_244 dL_law_245 dL_law_246 (by decide) dL_law_247 dL_law_248 ?_
  refine la_cMi (pc := 249) (As := [.int (xs (j + 1)), .int (xs (j + 2))]) (rest := [.int r]) C (tX5_row l 2000 (xs (j + 1)) (xs (j + 2)) B r B' h2) msX5_row mw_709 rfl rfl ⟨Nat.le_of_ble_eq_true rfl, Nat.le_of_ble_eq_true rfl⟩ rfl rfl rfl (Nat.le_of_ble_eq_true rfl) dL_law_249 ?_
  exact la_eqi (pc := 252) C 1379 dL_law_252 (by decide) (k A' B' hR')
theorem la_c1 (C : la_Cx p s m meth c D kT ρ ρ2 b Ln xs kc ks) (hR : Rel A B) (hj : j + 6 ≤ Ln) (k : ∀ A' B', Rel A' B' → la_At p l e s m below meth c D kT ρ ρ2 b kc ks 1379 (la_L b ρ ρ2 j) [] A' B') : la_At p l e s m below meth c D kT ρ ρ2 b kc ks 257 (la_L b ρ ρ2 j) [] A B := by
  obtain ⟨r, A', B', h1, h2, hR'⟩ := ok_lay hR (xs (j + 1)) (xs (j + 2)) (xs (j + 3))
  refine la_al1 (pc := 257) C dL_law_257 ?_
  refine la_arg (pc := 258) (kk := 1) C (by omega) dL_law_258 dL_law_259 dL_law_260 (by decide) dL_law_261 dL_law_262 ?_
  refine la_arg (pc := 263) (kk := 2) C (by omega) dL_law_263 dL_law_264 dL_law_265 (by decide) dL_law_266 dL_law_267 ?_
  refine la_arg (pc := 268) (kk := 3) C (by omega) dL_law_268 dL_law_269 dL_law_270 (by decide) dL_law_271 dL_law_272 ?_
  refine la_cCi (pc := 273) (As := [.int (xs (j + 1)), .int (xs (j + 2)), .int (xs (j + 3))]) (rest := []) C (tX4_lay l (xs (j + 1)) (xs (j + 2)) (xs (j + 3)) A r A' h1) msX4_lay mw_186 rfl rfl ⟨Nat.le_of_ble_eq_true rfl, Nat.le_of_ble_eq_true rfl⟩ rfl rfl rfl (Nat.le_of_ble_eq_true rfl) dL_law_273 ?_
  refine la_al2 (pc := 276) C dL_law_276 ?_
  refine la_arg (pc := 277) (kk := 1) C (by omega) dL_law_277 dL_law_278 dL_law_279 (by decide) dL_law_280 dL_law_281 ?_
  refine la_arg (pc := 282) (kk := 2) C (by omega) dL_law_282 dL_law_283 dL_law_284 (by decide) dL_law_285 dL_law_286 ?_
  refine la_arg (pc := 287) (kk := 3) C (by omega) dL_law_287 dL_law_288 dL_law_289 (by decide) dL_law_290 dL_law_291 ?_
  refine la_cMi (pc := 292) (As := [.int (xs (j + 1)), .int (xs (j + 2)), .int (xs (j + 3))]) (rest := [.int r]) C (tX5_lay l (xs (j + 1)) (xs (j + 2)) (xs (j + 3)) B r B' h2) msX5_lay mw_724 rfl rfl ⟨Nat.le_of_ble_eq_true rfl, Nat.le_of_ble_eq_true rfl⟩ rfl rfl rfl (Nat.le_of_ble_eq_true rfl) dL_law_292 ?_
  exact la_eqi (pc := 295) C 1379 dL_law_295 (by decide) (k A' B' hR')
theorem la_c2 (C : la_Cx p s m meth c D kT ρ ρ2 b Ln xs kc ks) (hR : Rel A B) (hj : j + 6 ≤ Ln) (k : ∀ A' B', Rel A' B' → la_At p l e s m below meth c D kT ρ ρ2 b kc ks 1379 (la_L b ρ ρ2 j) [] A' B') : la_At p l e s m below meth c D kT ρ ρ2 b kc ks 300 (la_L b ρ ρ2 j) [] A B := by
  obtain ⟨r, A', B', h1, h2, hR'⟩ := ok_at hR (xs (j + 1)) (xs (j + 2))
  refine la_al1 (pc := 300) C dL_law_300 ?_
  refine la_arg (pc := 301) (kk := 1) C (by omega) dL_law_301 dL_law_302 dL_law_303 (by decide) dL_law_304 dL_law_305 ?_
  refine la_arg (pc := 306) (kk := 2) C (by omega) dL_law_306 dL_law_307 dL_law_308 (by decide) dL_law_309 dL_law_310 ?_
  refine la_cCi (pc := 311) (As := [.int (xs (j + 1)), .int (xs (j + 2))]) (rest := []) C (tX4_at l (xs (j + 1)) (xs (j + 2)) A r A' h1) msX4_at mw_201 rfl rfl ⟨Nat.le_of_ble_eq_true rfl, Nat.le_of_ble_eq_true rfl⟩ rfl rfl rfl (Nat.le_of_ble_eq_true rfl) dL_law_311 ?_
  refine la_al2 (pc := 314) C dL_law_314 ?_
  refine la_arg (pc := 315) (kk := 1) C (by omega) dL_law_315 dL_law_316 dL_law_317 (by decide) dL_law_318 dL_law_319 ?_
  refine la_arg (pc := 320) (kk := 2) C (by omega) dL_law_320 dL_law_321 dL_law_322 (by decide) dL_law_323 dL_law_324 ?_
  refine la_cMi (pc := 325) (As := [.int (xs (j + 1)), .int (xs (j + 2))]) (rest := [.int r]) C (tX5_at l (xs (j + 1)) (xs (j + 2)) B r B' h2) msX5_at mw_732 rfl rfl ⟨Nat.le_of_ble_eq_true rfl, Nat.le_of_ble_eq_true rfl⟩ rfl rfl rfl (Nat.le_of_ble_eq_true rfl) dL_law_325 ?_
  exact la_eqi (pc := 328) C 1379 dL_law_328 (by decide) (k A' B' hR')
theorem la_c3 (C : la_Cx p s m meth c D kT ρ ρ2 b Ln xs kc ks) (hR : Rel A B) (hj : j + 6 ≤ Ln) (k : ∀ A' B', Rel A' B' → la_At p l e s m below meth c D kT ρ ρ2 b kc ks 1379 (la_L b ρ ρ2 j) [] A' B') : la_At p l e s m below meth c D kT ρ ρ2 b kc ks 333 (la_L b ρ ρ2 j) [] A B := by
  obtain ⟨r, A', B', h1, h2, hR'⟩ := ok_tear hR (xs (j + 1))
  refine la_al1 (pc := 333) C dL_law_333 ?_
  refine la_arg (pc := 334) (kk := 1) C (by omega) dL_law_334 dL_law_335 dL_law_336 (by decide) dL_law_337 dL_law_338 ?_
  refine la_cCi (pc := 339) (As := [.int (xs (j + 1))]) (rest := []) C (tX4_tear l (xs (j + 1)) A r A' h1) msX4_tear mw_205 rfl rfl ⟨Nat.le_of_ble_eq_true rfl, Nat.le_of_ble_eq_true rfl⟩ rfl rfl rfl (Nat.le_of_ble_eq_true rfl) dL_law_339 ?_
  refine la_al2 (pc := 342) C dL_law_342 ?_
  refine la_arg (pc := 343) (kk := 1) C (by omega) dL_law_343 dL_law_344 dL_law_345 (by decide) dL_law_346 dL_law_347 ?_
  refine la_cMi (pc := 348) (As := [.int (xs (j + 1))]) (rest := [.int r]) C (tX5_tear l (xs (j + 1)) B r B' h2) msX5_tear mw_736 rfl rfl ⟨Nat.le_of_ble_eq_true rfl, Nat.le_of_ble_eq_true rfl⟩ rfl rfl rfl (Nat.le_of_ble_eq_true rfl) dL_law_348 ?_
  exact la_eqi (pc := 351) C 1379 dL_law_351 (by decide) (k A' B' hR')
theorem la_c4 (C : la_Cx p s m meth c D kT ρ ρ2 b Ln xs kc ks) (hR : Rel A B) (hj : j + 6 ≤ Ln) (k : ∀ A' B', Rel A' B' → la_At p l e s m below meth c D kT ρ ρ2 b kc ks 1379 (la_L b ρ ρ2 j) [] A' B') : la_At p l e s m below meth c D kT ρ ρ2 b kc ks 356 (la_L b ρ ρ2 j) [] A B := by
  obtain ⟨r, A', B', h1, h2, hR'⟩ := ok_copy (N := 2000) (by decide) hR (xs (j + 1)) (xs (j + 2)) (xs (j + 3)) (xs (j + 4)) (xs (j + 5))
  refine la_al1 (pc := 356) C dL_law_356 ?_
  refine la_arg (pc := 357) (kk := 1) C (by omega) dL_law_357 dL_law_358 dL_law_359 (by decide) dL_law_360 dL_law_361 ?_
  refine la_arg (pc := 362) (kk := 2) C (by omega) dL_law_362 dL_law_363 dL_law_364 (by decide) dL_law_365 dL_law_366 ?_
  refine la_arg (pc := 367) (kk := 3) C (by omega) dL_law_367 dL_law_368 dL_law_369 (by decide) dL_law_370 dL_law_371 ?_
  refine la_arg (pc := 372) (kk := 4) C (by omega) dL_law_372 dL_law_373 dL_law_374 (by decide) dL_law_375 dL_law_376 ?_
  refine la_arg (pc := 377) (kk := 5) C (by omega) dL_law_377 dL_law_378 dL_law_379 (by decide) dL_law_380 dL_law_381 ?_
  refine la_cCi (pc := 382) (As := [.int (xs (j + 1)), .int (xs (j + 2)), .int (xs (j + 3)), .int (xs (j + 4)), .int (xs (j + 5))]) (rest := []) C (tX4_copy l (xs (j + 1)) (xs (j + 2)) (xs (j + 3)) (xs (j + 4)) (xs (j + 5)) A r A' h1) msX4_copy mw_209 rfl rfl ⟨Nat.le_of_ble_eq_true rfl, Nat.le_of_ble_eq_true rfl⟩ rfl rfl rfl (Nat.le_of_ble_eq_true rfl) dL_law_382 ?_
  refine la_al2 (pc := 385) C dL_law_385 ?_
  refine la_arg (pc := 386) (kk := 1) C (by omega) dL_law_386 dL_law_387 dL_law_388 (by decide) dL_law_389 dL_law_390 ?_
  refine la_arg (pc := 391) (kk := 2) C (by omega) dL_law_391 dL_law_392 dL_law_393 (by decide) dL_law_394 dL_law_395 ?_
  refine la_arg (pc := 396) (kk := 3) C (by omega) dL_law_396 dL_law_397 dL_law_398 (by decide) dL_law_399 dL_law_400 ?_
  refine la_arg (pc := 401) (kk := 4) C (by omega) dL_law_401 dL_law_402 dL_law_403 (by decide) dL_law_404 dL_law_405 ?_
  refine la_arg (pc := 406) (kk := 5) C (by omega) dL_law_406 dL_law_407 dL_law_408 (by decide) dL_law_409 dL_law_410 ?_
  refine la_cMi (pc := 411) (As := [.int (xs (j + 1)), .int (xs (j + 2)), .int (xs (j + 3)), .int (xs (j + 4)), .int (xs (j + 5))]) (rest := [.int r]) C (tX5_copy l 2000 (xs (j + 1)) (xs (j + 2)) (xs (j + 3)) (xs (j + 4)) (xs (j + 5)) B r B' h2) msX5_copy mw_740 rfl rfl ⟨Nat.le_of_ble_eq_true rfl, Nat.le_of_ble_eq_true rfl⟩ rfl rfl rfl (Nat.le_of_ble_eq_true rfl) dL_law_411 ?_
  exact la_eqi (pc := 414) C 1379 dL_law_414 (by decide) (k A' B' hR')
theorem la_c5 (C : la_Cx p s m meth c D kT ρ ρ2 b Ln xs kc ks) (hR : Rel A B) (hj : j + 6 ≤ Ln) (k : ∀ A' B', Rel A' B' → la_At p l e s m below meth c D kT ρ ρ2 b kc ks 1379 (la_L b ρ ρ2 j) [] A' B') : la_At p l e s m below meth c D kT ρ ρ2 b kc ks 419 (la_L b ρ ρ2 j) [] A B := by
  obtain ⟨r, A', B', h1, h2, hR'⟩ := ok_mean (N := 2000) (by decide) hR (xs (j + 1))
  refine la_al1 (pc := 419) C dL_law_419 ?_
  refine la_arg (pc := 420) (kk := 1) C (by omega) dL_law_420 dL_law_421 dL_law_422 (by decide) dL_law_423 dL_law_424 ?_
  refine la_cCi (pc := 425) (As := [.int (xs (j + 1))]) (rest := []) C (tX4_mean l 2000 (xs (j + 1)) A r A' h1) msX4_mean mw_216 rfl rfl ⟨Nat.le_of_ble_eq_true rfl, Nat.le_of_ble_eq_true rfl⟩ rfl rfl rfl (Nat.le_of_ble_eq_true rfl) dL_law_425 ?_
  refine la_al2 (pc := 428) C dL_law_428 ?_
  refine la_arg (pc := 429) (kk := 1) C (by omega) dL_law_429 dL_law_430 dL_law_431 (by decide) dL_law_432 dL_law_433 ?_
  refine la_cMi (pc := 434) (As := [.int (xs (j + 1))]) (rest := [.int r]) C (tX5_mean l 2000 (xs (j + 1)) B r B' h2) msX5_mean mw_744 rfl rfl ⟨Nat.le_of_ble_eq_true rfl, Nat.le_of_ble_eq_true rfl⟩ rfl rfl rfl (Nat.le_of_ble_eq_true rfl) dL_law_434 ?_
  exact la_eqi (pc := 437) C 1379 dL_law_437 (by decide) (k A' B' hR')
theorem la_c6 (C : la_Cx p s m meth c D kT ρ ρ2 b Ln xs kc ks) (hR : Rel A B) (hj : j + 6 ≤ Ln) (k : ∀ A' B', Rel A' B' → la_At p l e s m below meth c D kT ρ ρ2 b kc ks 1379 (la_L b ρ ρ2 j) [] A' B') : la_At p l e s m below meth c D kT ρ ρ2 b kc ks 442 (la_L b ρ ρ2 j) [] A B := by
  obtain ⟨r, A', B', h1, h2, hR'⟩ := ok_text (N := 2000) (by decide) hR (xs (j + 1)) (xs (j + 2))
  refine la_al1 (pc := 442) C dL_law_442 ?_
  refine la_arg (pc := 443) (kk := 1) C (by omega) dL_law_443 dL_law_444 dL_law_445 (by decide) dL_law_446 dL_law_447 ?_
  refine la_arg (pc := 448) (kk := 2) C (by omega) dL_law_448 dL_law_449 dL_law_450 (by decide) dL_law_451 dL_law_452 ?_
  refine la_cCi (pc := 453) (As := [.int (xs (j + 1)), .int (xs (j + 2))]) (rest := []) C (tX4_text l 2000 (xs (j + 1)) (xs (j + 2)) A r A' h1) msX4_text mw_220 rfl rfl ⟨Nat.le_of_ble_eq_true rfl, Nat.le_of_ble_eq_true rfl⟩ rfl rfl rfl (Nat.le_of_ble_eq_true rfl) dL_law_453 ?_
  refine la_al2 (pc := 456) C dL_law_456 ?_
  refine la_arg (pc := 457) (kk := 1) C (by omega) dL_law_457 dL_law_458 dL_law_459 (by decide) dL_law_460 dL_law_461 ?_
  refine la_arg (pc := 462) (kk := 2) C (by omega) dL_law_462 dL_law_463 dL_law_464 (by decide) dL_law_465 dL_law_466 ?_
  refine la_cMi (pc := 467) (As := [.int (xs (j + 1)), .int (xs (j + 2))]) (rest := [.int r]) C (tX5_text l 2000 (xs (j + 1)) (xs (j + 2)) B r B' h2) msX5_text mw_748 rfl rfl ⟨Nat.le_of_ble_eq_true rfl, Nat.le_of_ble_eq_true rfl⟩ rfl rfl rfl (Nat.le_of_ble_eq_true rfl) dL_law_467 ?_
  exact la_eqi (pc := 470) C 1379 dL_law_470 (by decide) (k A' B' hR')
theorem la_c7 (C : la_Cx p s m meth c D kT ρ ρ2 b Ln xs kc ks) (hR : Rel A B) (hj : j + 6 ≤ Ln) (k : ∀ A' B', Rel A' B' → la_At p l e s m below meth c D kT ρ ρ2 b kc ks 1379 (la_L b ρ ρ2 j) [] A' B') : la_At p l e s m below meth c D kT ρ ρ2 b kc ks 475 (la_L b ρ ρ2 j) [] A B := by
  obtain ⟨r, A', B', h1, h2, hR'⟩ := ok_put hR (xs (j + 1)) (xs (j + 2)) (xs (j + 3))
  refine la_al1 (pc := 475) C dL_law_475 ?_
  refine la_arg (pc := 476) (kk := 1) C (by omega) dL_law_476 dL_law_477 dL_law_478 (by decide) dL_law_479 dL_law_480 ?_
  refine la_arg (pc := 481) (kk := 2) C (by omega) dL_law_481 dL_law_482 dL_law_483 (by decide) dL_law_484 dL_law_485 ?_
  refine la_arg (pc := 486) (kk := 3) C (by omega) dL_law_486 dL_law_487 dL_law_488 (by decide) dL_law_489 dL_law_490 ?_
  refine la_cCi (pc := 491) (As := [.int (xs (j + 1)), .int (xs (j + 2)), .int (xs (j + 3))]) (rest := []) C (tX4_put l (xs (j + 1)) (xs (j + 2)) (xs (j + 3)) A r A' h1) msX4_put mw_230 rfl rfl ⟨Nat.le_of_ble_eq_true rfl, Nat.le_of_ble_eq_true rfl⟩ rfl rfl rfl (Nat.le_of_ble_eq_true rfl) dL_law_491 ?_
  refine la_al2 (pc := 494) C dL_law_494 ?_
  refine la_arg (pc := 495) (kk := 1) C (by omega) dL_law_495 dL_law_496 dL_law_497 (by decide) dL_law_498 dL_law_499 ?_
  refine la_arg (pc := 500) (kk := 2) C (by omega) dL_law_500 dL_law_501 dL_law_502 (by decide) dL_law_503 dL_law_504 ?_
  refine la_arg (pc := 505) (kk := 3) C (by omega) dL_law_505 dL_law_506 dL_law_507 (by decide) dL_law_508 dL_law_509 ?_
  refine la_cMi (pc := 510) (As := [.int (xs (j + 1)), .int (xs (j + 2)), .int (xs (j + 3))]) (rest := [.int r]) C (tX5_put l (xs (j + 1)) (xs (j + 2)) (xs (j + 3)) B r B' h2) msX5_put mw_756 rfl rfl ⟨Nat.le_of_ble_eq_true rfl, Nat.le_of_ble_eq_true rfl⟩ rfl rfl rfl (Nat.le_of_ble_eq_true rfl) dL_law_510 ?_
  exact la_eqi (pc := 513) C 1379 dL_law_513 (by decide) (k A' B' hR')
theorem la_c8 (C : la_Cx p s m meth c D kT ρ ρ2 b Ln xs kc ks) (hR : Rel A B) (hj : j + 6 ≤ Ln) (k : ∀ A' B', Rel A' B' → la_At p l e s m below meth c D kT ρ ρ2 b kc ks 1379 (la_L b ρ ρ2 j) [] A' B') : la_At p l e s m below meth c D kT ρ ρ2 b kc ks 518 (la_L b ρ ρ2 j) [] A B := by
  obtain ⟨r, A', B', h1, h2, hR'⟩ := ok_fault (N := 2000) (by decide) hR (xs (j + 1))
  refine la_al1 (pc := 518) C dL_law_518 ?_
  refine la_arg (pc := 519) (kk := 1) C (by omega) dL_law_519 dL_law_520 dL_law_521 (by decide) dL_law_522 dL_law_523 ?_
  refine la_cCi (pc := 524) (As := [.int (xs (j + 1))]) (rest := []) C (tX4_fault l 2000 (xs (j + 1)) A r A' h1) msX4_fault mw_234 rfl rfl ⟨Nat.le_of_ble_eq_true rfl, Nat.le_of_ble_eq_true rfl⟩ rfl rfl rfl (Nat.le_of_ble_eq_true rfl) dL_law_524 ?_
  refine la_al2 (pc := 527) C dL_law_527 ?_
  refine la_arg (pc := 528) (kk := 1) C (by omega) dL_law_528 dL_law_529 dL_law_530 (by decide) dL_law_531 dL_law_532 ?_
  refine la_cMi (pc := 533) (As := [.int (xs (j + 1))]) (rest := [.int r]) C (tX5_fault l 2000 (xs (j + 1)) B r B' h2) msX5_fault mw_760 rfl rfl ⟨Nat.le_of_ble_eq_true rfl, Nat.le_of_ble_eq_true rfl⟩ rfl rfl rfl (Nat.le_of_ble_eq_true rfl) dL_law_533 ?_
  exact la_eqi (pc := 536) C 1379 dL_law_536 (by decide) (k A' B' hR')
theorem la_c9 (C : la_Cx p s m meth c D kT ρ ρ2 b Ln xs kc ks) (hR : Rel A B) (hj : j + 6 ≤ Ln) (k : ∀ A' B', Rel A' B' → la_At p l e s m below meth c D kT ρ ρ2 b kc ks 1379 (la_L b ρ ρ2 j) [] A' B') : la_At p l e s m below meth c D kT ρ ρ2 b kc ks 541 (la_L b ρ ρ2 j) [] A B := by
  obtain ⟨r, A', B', h1, h2, hR'⟩ := ok_town (N := 2000) (by decide) hR (xs (j + 1))
  refine la_al1 (pc := 541) C dL_law_541 ?_
  refine la_arg (pc := 542) (kk := 1) C (by omega) dL_law_542 dL_law_543 dL_law_544 (by decide) dL_law_545 dL_law_546 ?_
  refine la_cCi (pc := 547) (As := [.int (xs (j + 1))]) (rest := []) C (tX4_town l 2000 (xs (j + 1)) A r A' h1) msX4_town mw_278 rfl rfl ⟨Nat.le_of_ble_eq_true rfl, Nat.le_of_ble_eq_true rfl⟩ rfl rfl rfl (Nat.le_of_ble_eq_true rfl) dL_law_547 ?_
  refine la_al2 (pc := 550) C dL_law_550 ?_
  refine la_arg (pc := 551) (kk := 1) C (by omega) dL_law_551 dL_law_552 dL_law_553 (by decide) dL_law_554 dL_law_555 ?_
  refine la_cMi (pc := 556) (As := [.int (xs (j + 1))]) (rest := [.int r]) C (tX5_town l 2000 (xs (j + 1)) B r B' h2) msX5_town mw_791 rfl rfl ⟨Nat.le_of_ble_eq_true rfl, Nat.le_of_ble_eq_true rfl⟩ rfl rfl rfl (Nat.le_of_ble_eq_true rfl) dL_law_556 ?_
  exact la_eqi (pc := 559) C 1379 dL_law_559 (by decide) (k A' B' hR')
theorem la_c10 (C : la_Cx p s m meth c D kT ρ ρ2 b Ln xs kc ks) (hR : Rel A B) (hj : j + 6 ≤ Ln) (k : ∀ A' B', Rel A' B' → la_At p l e s m below meth c D kT ρ ρ2 b kc ks 1379 (la_L b ρ ρ2 j) [] A' B') : la_At p l e s m below meth c D kT ρ ρ2 b kc ks 564 (la_L b ρ ρ2 j) [] A B := by
  obtain ⟨r, A', B', h1, h2, hR'⟩ := ok_pipe (N := 2000) (by decide) hR (xs (j + 1)) (xs (j + 2))
  refine la_al1 (pc := 564) C dL_law_564 ?_
  refine la_arg (pc := 565) (kk := 1) C (by omega) dL_law_565 dL_law_566 dL_law_567 (by decide) dL_law_568 dL_law_569 ?_
  refine la_arg (pc := 570) (kk := 2) C (by omega) dL_law_570 dL_law_571 dL_law_572 (by decide) dL_law_573 dL_law_574 ?_
  refine la_cCi (pc := 575) (As := [.int (xs (j + 1)), .int (xs (j + 2))]) (rest := []) C (tX4_pipe l 2000 (xs (j + 1)) (xs (j + 2)) A r A' h1) msX4_pipe mw_286 rfl rfl ⟨Nat.le_of_ble_eq_true rfl, Nat.le_of_ble_eq_true rfl⟩ rfl rfl rfl (Nat.le_of_ble_eq_true rfl) dL_law_575 ?_
  refine la_al2 (pc := 578) C dL_law_578 ?_
  refine la_arg (pc := 579) (kk := 1) C (by omega) dL_law_579 dL_law_580 dL_law_581 (by decide) dL_law_582 dL_law_583 ?_
  refine la_arg (pc := 584) (kk := 2) C (by omega) dL_law_584 dL_law_585 dL_law_586 (by decide) dL_law_587 dL_law_588 ?_
  refine la_cMi (pc := 589) (As := [.int (xs (j + 1)), .int (xs (j + 2))]) (rest := [.int r]) C (tX5_pipe l 2000 (xs (j + 1)) (xs (j + 2)) B r B' h2) msX5_pipe mw_795 rfl rfl ⟨Nat.le_of_ble_eq_true rfl, Nat.le_of_ble_eq_true rfl⟩ rfl rfl rfl (Nat.le_of_ble_eq_true rfl) dL_law_589 ?_
  exact la_eqi (pc := 592) C 1379 dL_law_592 (by decide) (k A' B' hR')
theorem la_c11 (C : la_Cx p s m meth c D kT ρ ρ2 b Ln xs kc ks) (hR : Rel A B) (hj : j + 6 ≤ Ln) (k : ∀ A' B', Rel A' B' → la_At p l e s m below meth c D kT ρ ρ2 b kc ks 1379 (la_L b ρ ρ2 j) [] A' B') : la_At p l e s m below meth c D kT ρ ρ2 b kc ks 597 (la_L b ρ ρ2 j) [] A B := by
  obtain ⟨r, A', B', h1, h2, hR'⟩ := ok_mark (N := 2000) (by decide) hR (xs (j + 1)) (xs (j + 2))
  refine la_al1 (pc := 597) C dL_law_597 ?_
  refine la_arg (pc := 598) (kk := 1) C (by omega) dL_law_598 dL_law_599 dL_law_600 (by decide) dL_law_601 dL_law_602 ?_
  refine la_arg (pc := 603) (kk := 2) C (by omega) dL_law_603 dL_law_604 dL_law_605 (by decide) dL_law_606 dL_law_607 ?_
  refine la_cCi (pc := 608) (As := [.int (xs (j + 1)), .int (xs (j + 2))]) (rest := []) C (tX4_mark l 2000 (xs (j + 1)) (xs (j + 2)) A r A' h1) msX4_mark mw_313 rfl rfl ⟨Nat.le_of_ble_eq_true rfl, Nat.le_of_ble_eq_true rfl⟩ rfl rfl rfl (Nat.le_of_ble_eq_true rfl) dL_law_608 ?_
  refine la_al2 (pc := 611) C dL_law_611 ?_
  refine la_arg (pc := 612) (kk := 1) C (by omega) dL_law_612 dL_law_613 dL_law_614 (by decide) dL_law_615 dL_law_616 ?_
  refine la_arg (pc := 617) (kk := 2) C (by omega) dL_law_617 dL_law_618 dL_law_619 (by decide) dL_law_620 dL_law_621 ?_
  refine la_cMi (pc := 622) (As := [.int (xs (j + 1)), .int (xs (j + 2))]) (rest := [.int r]) C (tX5_mark l 2000 (xs (j + 1)) (xs (j + 2)) B r B' h2) msX5_mark mw_818 rfl rfl ⟨Nat.le_of_ble_eq_true rfl, Nat.le_of_ble_eq_true rfl⟩ rfl rfl rfl (Nat.le_of_ble_eq_true rfl) dL_law_622 ?_
  exact la_eqi (pc := 625) C 1379 dL_law_625 (by decide) (k A' B' hR')
theorem la_c12 (C : la_Cx p s m meth c D kT ρ ρ2 b Ln xs kc ks) (hR : Rel A B) (hj : j + 6 ≤ Ln) (k : ∀ A' B', Rel A' B' → la_At p l e s m below meth c D kT ρ ρ2 b kc ks 1379 (la_L b ρ ρ2 j) [] A' B') : la_At p l e s m below meth c D kT ρ ρ2 b kc ks 630 (la_L b ρ ρ2 j) [] A B := by
  obtain ⟨r, A', B', h1, h2, hR'⟩ := ok_hour (N := 2000) (by decide) hR
  refine la_al1 (pc := 630) C dL_law_630 ?_
  refine la_cCi (pc := 631) (As := []) (rest := []) C (tX4_hour l 2000 A r A' h1) msX4_hour mw_330 rfl rfl ⟨Nat.le_of_ble_eq_true rfl, Nat.le_of_ble_eq_true rfl⟩ rfl rfl rfl (Nat.le_of_ble_eq_true rfl) dL_law_631 ?_
  refine la_al2 (pc := 634) C dL_law_634 ?_
  refine la_cMi (pc := 635) (As := []) (rest := [.int r]) C (tX5_hour l 2000 B r B' h2) msX5_hour mw_825 rfl rfl ⟨Nat.le_of_ble_eq_true rfl, Nat.le_of_ble_eq_true rfl⟩ rfl rfl rfl (Nat.le_of_ble_eq_true rfl) dL_law_635 ?_
  exact la_eqi (pc := 638) C 1379 dL_law_638 (by decide) (k A' B' hR')
theorem la_c13 (C : la_Cx p s m meth c D kT ρ ρ2 b Ln xs kc ks) (hR : Rel A B) (hj : j + 6 ≤ Ln) (k : ∀ A' B', Rel A' B' → la_At p l e s m below meth c D kT ρ ρ2 b kc ks 1379 (la_L b ρ ρ2 j) [] A' B') : la_At p l e s m below meth c D kT ρ ρ2 b kc ks 643 (la_L b ρ ρ2 j) [] A B := by
  obtain ⟨r, A', B', h1, h2, hR'⟩ := ok_pump (N := 2000) (by decide) hR (xs (j + 1))
  refine la_al1 (pc := 643) C dL_law_643 ?_
  refine la_arg (pc := 644) (kk := 1) C (by omega) dL_law_644 dL_law_645 dL_law_646 (by decide) dL_law_647 dL_law_648 ?_
  refine la_cCi (pc := 649) (As := [.int (xs (j + 1))]) (rest := []) C (tX4_pump l 2000 (xs (j + 1)) A r A' h1) msX4_pump mw_367 rfl rfl ⟨Nat.le_of_ble_eq_true rfl, Nat.le_of_ble_eq_true rfl⟩ rfl rfl rfl (Nat.le_of_ble_eq_true rfl) dL_law_649 ?_
  refine la_al2 (pc := 652) C dL_law_652 ?_
  refine la_arg (pc := 653) (kk := 1) C (by omega) dL_law_653 dL_law_654 dL_law_655 (by decide) dL_law_656 dL_law_657 ?_
  refine la_cMi (pc := 658) (As := [.int (xs (j + 1))]) (rest := [.int r]) C (tX5_pump l 2000 (xs (j + 1)) B r B' h2) msX5_pump mw_851 rfl rfl ⟨Nat.le_of_ble_eq_true rfl, Nat.le_of_ble_eq_true rfl⟩ rfl rfl rfl (Nat.le_of_ble_eq_true rfl) dL_law_658 ?_
  exact la_eqi (pc := 661) C 1379 dL_law_661 (by decide) (k A' B' hR')
theorem la_c14 (C : la_Cx p s m meth c D kT ρ ρ2 b Ln xs kc ks) (hR : Rel A B) (hj : j + 6 ≤ Ln) (k : ∀ A' B', Rel A' B' → la_At p l e s m below meth c D kT ρ ρ2 b kc ks 1379 (la_L b ρ ρ2 j) [] A' B') : la_At p l e s m below meth c D kT ρ ρ2 b kc ks 666 (la_L b ρ ρ2 j) [] A B := by
  obtain ⟨r, A', B', h1, h2, hR'⟩ := ok_cut (N := 2000) (by decide) hR (xs (j + 1))
  refine la_al1 (pc := 666) C dL_law_666 ?_
  refine la_arg (pc := 667) (kk := 1) C (by omega) dL_law_667 dL_law_668 dL_law_669 (by decide) dL_law_670 dL_law_671 ?_
  refine la_cCi (pc := 672) (As := [.int (xs (j + 1))]) (rest := []) C (tX4_cut l 2000 (xs (j + 1)) A r A' h1) msX4_cut mw_371 rfl rfl ⟨Nat.le_of_ble_eq_true rfl, Nat.le_of_ble_eq_true rfl⟩ rfl rfl rfl (Nat.le_of_ble_eq_true rfl) dL_law_672 ?_
  refine la_al2 (pc := 675) C dL_law_675 ?_
  refine la_arg (pc := 676) (kk := 1) C (by omega) dL_law_676 dL_law_677 dL_law_678 (by decide) dL_law_679 dL_law_680 ?_
  refine la_cMi (pc := 681) (As := [.int (xs (j + 1))]) (rest := [.int r]) C (tX5_cut l 2000 (xs (j + 1)) B r B' h2) msX5_cut mw_858 rfl rfl ⟨Nat.le_of_ble_eq_true rfl, Nat.le_of_ble_eq_true rfl⟩ rfl rfl rfl (Nat.le_of_ble_eq_true rfl) dL_law_681 ?_
  exact la_eqi (pc := 684) C 1379 dL_law_684 (by decide) (k A' B' hR')
theorem la_c15 (C : la_Cx p s m meth c D kT ρ ρ2 b Ln xs kc ks) (hR : Rel A B) (hj : j + 6 ≤ Ln) (k : ∀ A' B', Rel A' B' → la_At p l e s m below meth c D kT ρ ρ2 b kc ks 1379 (la_L b ρ ρ2 j) [] A' B') : la_At p l e s m below meth c D kT ρ ρ2 b kc ks 689 (la_L b ρ ρ2 j) [] A B := by
  obtain ⟨r, A', B', h1, h2, hR'⟩ := ok_leak (N := 2000) (by decide) hR (xs (j + 1))
  refine la_al1 (pc := 689) C dL_law_689 ?_
  refine la_arg (pc := 690) (kk := 1) C (by omega) dL_law_690 dL_law_691 dL_law_692 (by decide) dL_law_693 dL_law_694 ?_
  refine la_cCi (pc := 695) (As := [.int (xs (j + 1))]) (rest := []) C (tX4_leak l 2000 (xs (j + 1)) A r A' h1) msX4_leak mw_375 rfl rfl ⟨Nat.le_of_ble_eq_true rfl, Nat.le_of_ble_eq_true rfl⟩ rfl rfl rfl (Nat.le_of_ble_eq_true rfl) dL_law_695 ?_
  refine la_al2 (pc := 698) C dL_law_698 ?_
  refine la_arg (pc := 699) (kk := 1) C (by omega) dL_law_699 dL_law_700 dL_law_701 (by decide) dL_law_702 dL_law_703 ?_
  refine la_cMi (pc := 704) (As := [.int (xs (j + 1))]) (rest := [.int r]) C (tX5_leak l 2000 (xs (j + 1)) B r B' h2) msX5_leak mw_866 rfl rfl ⟨Nat.le_of_ble_eq_true rfl, Nat.le_of_ble_eq_true rfl⟩ rfl rfl rfl (Nat.le_of_ble_eq_true rfl) dL_law_704 ?_
  exact la_eqi (pc := 707) C 1379 dL_law_707 (by decide) (k A' B' hR')
theorem la_c16 (C : la_Cx p s m meth c D kT ρ ρ2 b Ln xs kc ks) (hR : Rel A B) (hj : j + 6 ≤ Ln) (k : ∀ A' B', Rel A' B' → la_At p l e s m below meth c D kT ρ ρ2 b kc ks 1379 (la_L b ρ ρ2 j) [] A' B') : la_At p l e s m below meth c D kT ρ ρ2 b kc ks 712 (la_L b ρ ρ2 j) [] A B := by
  obtain ⟨r, A', B', h1, h2, hR'⟩ := ok_stroke (N := 2000) (by decide) hR (xs (j + 1))
  refine la_al1 (pc := 712) C dL_law_712 ?_
  refine la_arg (pc := 713) (kk := 1) C (by omega) dL_law_713 dL_law_714 dL_law_715 (by decide) dL_law_716 dL_law_717 ?_
  refine la_cCi (pc := 718) (As := [.int (xs (j + 1))]) (rest := []) C (tX4_stroke l 2000 (xs (j + 1)) A r A' h1) msX4_stroke mw_379 rfl rfl ⟨Nat.le_of_ble_eq_true rfl, Nat.le_of_ble_eq_true rfl⟩ rfl rfl rfl (Nat.le_of_ble_eq_true rfl) dL_law_718 ?_
  refine la_al2 (pc := 721) C dL_law_721 ?_
  refine la_arg (pc := 722) (kk := 1) C (by omega) dL_law_722 dL_law_723 dL_law_724 (by decide) dL_law_725 dL_law_726 ?_
  refine la_cMi (pc := 727) (As := [.int (xs (j + 1))]) (rest := [.int r]) C (tX5_stroke l 2000 (xs (j + 1)) B r B' h2) msX5_stroke mw_870 rfl rfl ⟨Nat.le_of_ble_eq_true rfl, Nat.le_of_ble_eq_true rfl⟩ rfl rfl rfl (Nat.le_of_ble_eq_true rfl) dL_law_727 ?_
  exact la_eqi (pc := 730) C 1379 dL_law_730 (by decide) (k A' B' hR')
theorem la_c17 (C : la_Cx p s m meth c D kT ρ ρ2 b Ln xs kc ks) (hR : Rel A B) (hj : j + 6 ≤ Ln) (k : ∀ A' B', Rel A' B' → la_At p l e s m below meth c D kT ρ ρ2 b kc ks 1379 (la_L b ρ ρ2 j) [] A' B') : la_At p l e s m below meth c D kT ρ ρ2 b kc ks 735 (la_L b ρ ρ2 j) [] A B := by
  obtain ⟨r, A', B', h1, h2, hR'⟩ := ok_undo (N := 2000) (by decide) hR (xs (j + 1))
  refine la_al1 (pc := 735) C dL_law_735 ?_
  refine la_arg (pc := 736) (kk := 1) C (by omega) dL_law_736 dL_law_737 dL_law_738 (by decide) dL_law_739 dL_law_740 ?_
  refine la_cCi (pc := 741) (As := [.int (xs (j + 1))]) (rest := []) C (tX4_undo l 2000 (xs (j + 1)) A r A' h1) msX4_undo mw_383 rfl rfl ⟨Nat.le_of_ble_eq_true rfl, Nat.le_of_ble_eq_true rfl⟩ rfl rfl rfl (Nat.le_of_ble_eq_true rfl) dL_law_741 ?_
  refine la_al2 (pc := 744) C dL_law_744 ?_
  refine la_arg (pc := 745) (kk := 1) C (by omega) dL_law_745 dL_law_746 dL_law_747 (by decide) dL_law_748 dL_law_749 ?_
  refine la_cMi (pc := 750) (As := [.int (xs (j + 1))]) (rest := [.int r]) C (tX5_undo l 2000 (xs (j + 1)) B r B' h2) msX5_undo mw_874 rfl rfl ⟨Nat.le_of_ble_eq_true rfl, Nat.le_of_ble_eq_true rfl⟩ rfl rfl rfl (Nat.le_of_ble_eq_true rfl) dL_law_750 ?_
  exact la_eqi (pc := 753) C 1379 dL_law_753 (by decide) (k A' B' hR')
theorem la_c18 (C : la_Cx p s m meth c D kT ρ ρ2 b Ln xs kc ks) (hR : Rel A B) (hj : j + 6 ≤ Ln) (k : ∀ A' B', Rel A' B' → la_At p l e s m below meth c D kT ρ ρ2 b kc ks 1379 (la_L b ρ ρ2 j) [] A' B') : la_At p l e s m below meth c D kT ρ ρ2 b kc ks 758 (la_L b ρ ρ2 j) [] A B := by
  obtain ⟨r, A', B', h1, h2, hR'⟩ := ok_keep (N := 2000) (by decide) hR (xs (j + 1))
  refine la_al1 (pc := 758) C dL_law_758 ?_
  refine la_arg (pc := 759) (kk := 1) C (by omega) dL_law_759 dL_law_760 dL_law_761 (by decide) dL_law_762 dL_law_763 ?_
  refine la_cCi (pc := 764) (As := [.int (xs (j + 1))]) (rest := []) C (tX4_keep l (xs (j + 1)) A r A' h1) msX4_keep mw_392 rfl rfl ⟨Nat.le_of_ble_eq_true rfl, Nat.le_of_ble_eq_true rfl⟩ rfl rfl rfl (Nat.le_of_ble_eq_true rfl) dL_law_764 ?_
  refine la_al2 (pc := 767) C dL_law_767 ?_
  refine la_arg (pc := 768) (kk := 1) C (by omega) dL_law_768 dL_law_769 dL_law_770 (by decide) dL_law_771 dL_law_772 ?_
  refine la_cMi (pc := 773) (As := [.int (xs (j + 1))]) (rest := [.int r]) C (tX5_keep l 2000 (xs (j + 1)) B r B' h2) msX5_keep mw_878 rfl rfl ⟨Nat.le_of_ble_eq_true rfl, Nat.le_of_ble_eq_true rfl⟩ rfl rfl rfl (Nat.le_of_ble_eq_true rfl) dL_law_773 ?_
  exact la_eqi (pc := 776) C 1379 dL_law_776 (by decide) (k A' B' hR')
theorem la_c19 (C : la_Cx p s m meth c D kT ρ ρ2 b Ln xs kc ks) (hR : Rel A B) (hj : j + 6 ≤ Ln) (k : ∀ A' B', Rel A' B' → la_At p l e s m below meth c D kT ρ ρ2 b kc ks 1379 (la_L b ρ ρ2 j) [] A' B') : la_At p l e s m below meth c D kT ρ ρ2 b kc ks 781 (la_L b ρ ρ2 j) [] A B := by
  obtain ⟨r, A', B', h1, h2, hR'⟩ := ok_on (N := 2000) (by decide) hR (xs (j + 1))
  refine la_al1 (pc := 781) C dL_law_781 ?_
  refine la_arg (pc := 782) (kk := 1) C (by omega) dL_law_782 dL_law_783 dL_law_784 (by decide) dL_law_785 dL_law_786 ?_
  refine la_cCi (pc := 787) (As := [.int (xs (j + 1))]) (rest := []) C (tX4_on l 2000 (xs (j + 1)) A r A' h1) msX4_on mw_404 rfl rfl ⟨Nat.le_of_ble_eq_true rfl, Nat.le_of_ble_eq_true rfl⟩ rfl rfl rfl (Nat.le_of_ble_eq_true rfl) dL_law_787 ?_
  refine la_al2 (pc := 790) C dL_law_790 ?_
  refine la_arg (pc := 791) (kk := 1) C (by omega) dL_law_791 dL_law_792 dL_law_793 (by decide) dL_law_794 dL_law_795 ?_
  refine la_cMi (pc := 796) (As := [.int (xs (j + 1))]) (rest := [.int r]) C (tX5_on l 2000 (xs (j + 1)) B r B' h2) msX5_on mw_883 rfl rfl ⟨Nat.le_of_ble_eq_true rfl, Nat.le_of_ble_eq_true rfl⟩ rfl rfl rfl (Nat.le_of_ble_eq_true rfl) dL_law_796 ?_
  exact la_eqi (pc := 799) C 1379 dL_law_799 (by decide) (k A' B' hR')
theorem la_c20 (C : la_Cx p s m meth c D kT ρ ρ2 b Ln xs kc ks) (hR : Rel A B) (hj : j + 6 ≤ Ln) (k : ∀ A' B', Rel A' B' → la_At p l e s m below meth c D kT ρ ρ2 b kc ks 1379 (la_L b ρ ρ2 j) [] A' B') : la_At p l e s m below meth c D kT ρ ρ2 b kc ks 804 (la_L b ρ ρ2 j) [] A B := by
  obtain ⟨r, h1, h2⟩ := ok_wants hR (xs (j + 1)) (xs (j + 2)) (xs (j + 3))
  refine la_al1 (pc := 804) C dL_law_804 ?_
  refine la_arg (pc := 805) (kk := 1) C (by omega) dL_law_805 dL_law_806 dL_law_807 (by decide) dL_law_808 dL_law_809 ?_
  refine la_arg (pc := 810) (kk := 2) C (by omega) dL_law_810 dL_law_811 dL_law_812 (by decide) dL_law_813 dL_law_814 ?_
  refine la_arg (pc := 815) (kk := 3) C (by omega) dL_law_815 dL_law_816 dL_law_817 (by decide) dL_law_818 dL_law_819 ?_
  refine la_cCi (pc := 820) (As := [.int (xs (j + 1)), .int (xs (j + 2)), .int (xs (j + 3))]) (rest := []) C (tX4_wants l (xs (j + 1)) (xs (j + 2)) (xs (j + 3)) A r h1) msX4_wants mw_408 rfl rfl ⟨Nat.le_of_ble_eq_true rfl, Nat.le_of_ble_eq_true rfl⟩ rfl rfl rfl (Nat.le_of_ble_eq_true rfl) dL_law_820 ?_
  refine la_al2 (pc := 823) C dL_law_823 ?_
  refine la_arg (pc := 824) (kk := 1) C (by omega) dL_law_824 dL_law_825 dL_law_826 (by decide) dL_law_827 dL_law_828 ?_
  refine la_arg (pc := 829) (kk := 2) C (by omega) dL_law_829 dL_law_830 dL_law_831 (by decide) dL_law_832 dL_law_833 ?_
  refine la_arg (pc := 834) (kk := 3) C (by omega) dL_law_834 dL_law_835 dL_law_836 (by decide) dL_law_837 dL_law_838 ?_
  refine la_cMi (pc := 839) (As := [.int (xs (j + 1)), .int (xs (j + 2)), .int (xs (j + 3))]) (rest := [.int r]) C (tX5_wants l (xs (j + 1)) (xs (j + 2)) (xs (j + 3)) B r h2) msX5_wants mw_887 rfl rfl ⟨Nat.le_of_ble_eq_true rfl, Nat.le_of_ble_eq_true rfl⟩ rfl rfl rfl (Nat.le_of_ble_eq_true rfl) dL_law_839 ?_
  exact la_eqi (pc := 842) C 1379 dL_law_842 (by decide) (k A B hR)
theorem la_c21 (C : la_Cx p s m meth c D kT ρ ρ2 b Ln xs kc ks) (hR : Rel A B) (hj : j + 6 ≤ Ln) (k : ∀ A' B', Rel A' B' → la_At p l e s m below meth c D kT ρ ρ2 b kc ks 1379 (la_L b ρ ρ2 j) [] A' B') : la_At p l e s m below meth c D kT ρ ρ2 b kc ks 847 (la_L b ρ ρ2 j) [] A B := by
  obtain ⟨r, A', B', h1, h2, hR'⟩ := ok_air (N := 2000) (by decide) hR (xs (j + 1))
  refine la_al1 (pc := 847) C dL_law_847 ?_
  refine la_arg (pc := 848) (kk := 1) C (by omega) dL_law_848 dL_law_849 dL_law_850 (by decide) dL_law_851 dL_law_852 ?_
  refine la_cCi (pc := 853) (As := [.int (xs (j + 1))]) (rest := []) C (tX4_air l 2000 (xs (j + 1)) A r A' h1) msX4_air mw_413 rfl rfl ⟨Nat.le_of_ble_eq_true rfl, Nat.le_of_ble_eq_true rfl⟩ rfl rfl rfl (Nat.le_of_ble_eq_true rfl) dL_law_853 ?_
  refine la_al2 (pc := 856) C dL_law_856 ?_
  refine la_arg (pc := 857) (kk := 1) C (by omega) dL_law_857 dL_law_858 dL_law_859 (by decide) dL_law_860 dL_law_861 ?_
  refine la_cMi (pc := 862) (As := [.int (xs (j + 1))]) (rest := [.int r]) C (tX5_air l 2000 (xs (j + 1)) B r B' h2) msX5_air mw_892 rfl rfl ⟨Nat.le_of_ble_eq_true rfl, Nat.le_of_ble_eq_true rfl⟩ rfl rfl rfl (Nat.le_of_ble_eq_true rfl) dL_law_862 ?_
  exact la_eqi (pc := 865) C 1379 dL_law_865 (by decide) (k A' B' hR')
theorem la_c22 (C : la_Cx p s m meth c D kT ρ ρ2 b Ln xs kc ks) (hR : Rel A B) (hj : j + 6 ≤ Ln) (k : ∀ A' B', Rel A' B' → la_At p l e s m below meth c D kT ρ ρ2 b kc ks 1379 (la_L b ρ ρ2 j) [] A' B') : la_At p l e s m below meth c D kT ρ ρ2 b kc ks 870 (la_L b ρ ρ2 j) [] A B := by
  obtain ⟨r, A', B', h1, h2, hR'⟩ := ok_says (N := 2000) (by decide) hR (xs (j + 1)) (xs (j + 2))
  refine la_al1 (pc := 870) C dL_law_870 ?_
  refine la_arg (pc := 871) (kk := 1) C (by omega) dL_law_871 dL_law_872 dL_law_873 (by decide) dL_law_874 dL_law_875 ?_
  refine la_arg (pc := 876) (kk := 2) C (by omega) dL_law_876 dL_law_877 dL_law_878 (by decide) dL_law_879 dL_law_880 ?_
  refine la_cCi (pc := 881) (As := [.int (xs (j + 1)), .int (xs (j + 2))]) (rest := []) C (tX4_says l 2000 (xs (j + 1)) (xs (j + 2)) A r A' h1) msX4_says mw_418 rfl rfl ⟨Nat.le_of_ble_eq_true rfl, Nat.le_of_ble_eq_true rfl⟩ rfl rfl rfl (Nat.le_of_ble_eq_true rfl) dL_law_881 ?_
  refine la_al2 (pc := 884) C dL_law_884 ?_
  refine la_arg (pc := 885) (kk := 1) C (by omega) dL_law_885 dL_law_886 dL_law_887 (by decide) dL_law_888 dL_law_889 ?_
  refine la_arg (pc := 890) (kk := 2) C (by omega) dL_law_890 dL_law_891 dL_law_892 (by decide) dL_law_893 dL_law_894 ?_
  refine la_cMi (pc := 895) (As := [.int (xs (j + 1)), .int (xs (j + 2))]) (rest := [.int r]) C (tX5_says l 2000 (xs (j + 1)) (xs (j + 2)) B r B' h2) msX5_says mw_905 rfl rfl ⟨Nat.le_of_ble_eq_true rfl, Nat.le_of_ble_eq_true rfl⟩ rfl rfl rfl (Nat.le_of_ble_eq_true rfl) dL_law_895 ?_
  exact la_eqi (pc := 898) C 1379 dL_law_898 (by decide) (k A' B' hR')
theorem la_c23 (C : la_Cx p s m meth c D kT ρ ρ2 b Ln xs kc ks) (hR : Rel A B) (hj : j + 6 ≤ Ln) (k : ∀ A' B', Rel A' B' → la_At p l e s m below meth c D kT ρ ρ2 b kc ks 1379 (la_L b ρ ρ2 j) [] A' B') : la_At p l e s m below meth c D kT ρ ρ2 b kc ks 903 (la_L b ρ ρ2 j) [] A B := by
  obtain ⟨r, A', B', h1, h2, hR'⟩ := ok_first (N := 2000) (by decide) hR (xs (j + 1))
  refine la_al1 (pc := 903) C dL_law_903 ?_
  refine la_arg (pc := 904) (kk := 1) C (by omega) dL_law_904 dL_law_905 dL_law_906 (by decide) dL_law_907 dL_law_908 ?_
  refine la_cCi (pc := 909) (As := [.int (xs (j + 1))]) (rest := []) C (tX4_first l 2000 (xs (j + 1)) A r A' h1) msX4_first mw_422 rfl rfl ⟨Nat.le_of_ble_eq_true rfl, Nat.le_of_ble_eq_true rfl⟩ rfl rfl rfl (Nat.le_of_ble_eq_true rfl) dL_law_909 ?_
  refine la_al2 (pc := 912) C dL_law_912 ?_
  refine la_arg (pc := 913) (kk := 1) C (by omega) dL_law_913 dL_law_914 dL_law_915 (by decide) dL_law_916 dL_law_917 ?_
  refine la_cMi (pc := 918) (As := [.int (xs (j + 1))]) (rest := [.int r]) C (tX5_first l 2000 (xs (j + 1)) B r B' h2) msX5_first mw_909 rfl rfl ⟨Nat.le_of_ble_eq_true rfl, Nat.le_of_ble_eq_true rfl⟩ rfl rfl rfl (Nat.le_of_ble_eq_true rfl) dL_law_918 ?_
  exact la_eqi (pc := 921) C 1379 dL_law_921 (by decide) (k A' B' hR')
theorem la_c24 (C : la_Cx p s m meth c D kT ρ ρ2 b Ln xs kc ks) (hR : Rel A B) (hj : j + 6 ≤ Ln) (k : ∀ A' B', Rel A' B' → la_At p l e s m below meth c D kT ρ ρ2 b kc ks 1379 (la_L b ρ ρ2 j) [] A' B') : la_At p l e s m below meth c D kT ρ ρ2 b kc ks 926 (la_L b ρ ρ2 j) [] A B := by
  obtain ⟨r, A', B', h1, h2, hR'⟩ := ok_hush (N := 2000) (by decide) hR (xs (j + 1))
  refine la_al1 (pc := 926) C dL_law_926 ?_
  refine la_arg (pc := 927) (kk := 1) C (by omega) dL_law_927 dL_law_928 dL_law_929 (by decide) dL_law_930 dL_law_931 ?_
  refine la_cCi (pc := 932) (As := [.int (xs (j + 1))]) (rest := []) C (tX4_hush l 2000 (xs (j + 1)) A r A' h1) msX4_hush mw_426 rfl rfl ⟨Nat.le_of_ble_eq_true rfl, Nat.le_of_ble_eq_true rfl⟩ rfl rfl rfl (Nat.le_of_ble_eq_true rfl) dL_law_932 ?_
  refine la_al2 (pc := 935) C dL_law_935 ?_
  refine la_arg (pc := 936) (kk := 1) C (by omega) dL_law_936 dL_law_937 dL_law_938 (by decide) dL_law_939 dL_law_940 ?_
  refine la_cMi (pc := 941) (As := [.int (xs (j + 1))]) (rest := [.int r]) C (tX5_hush l 2000 (xs (j + 1)) B r B' h2) msX5_hush mw_913 rfl rfl ⟨Nat.le_of_ble_eq_true rfl, Nat.le_of_ble_eq_true rfl⟩ rfl rfl rfl (Nat.le_of_ble_eq_true rfl) dL_law_941 ?_
  exact la_eqi (pc := 944) C 1379 dL_law_944 (by decide) (k A' B' hR')
theorem la_c25 (C : la_Cx p s m meth c D kT ρ ρ2 b Ln xs kc ks) (hR : Rel A B) (hj : j + 6 ≤ Ln) (k : ∀ A' B', Rel A' B' → la_At p l e s m below meth c D kT ρ ρ2 b kc ks 1379 (la_L b ρ ρ2 j) [] A' B') : la_At p l e s m below meth c D kT ρ ρ2 b kc ks 949 (la_L b ρ ρ2 j) [] A B := by
  obtain ⟨r, A', B', h1, h2, hR'⟩ := ok_least (N := 2000) (by decide) hR (xs (j + 1))
  refine la_al1 (pc := 949) C dL_law_949 ?_
  refine la_arg (pc := 950) (kk := 1) C (by omega) dL_law_950 dL_law_951 dL_law_952 (by decide) dL_law_953 dL_law_954 ?_
  refine la_cCi (pc := 955) (As := [.int (xs (j + 1))]) (rest := []) C (tX4_least l 2000 (xs (j + 1)) A r A' h1) msX4_least mw_444 rfl rfl ⟨Nat.le_of_ble_eq_true rfl, Nat.le_of_ble_eq_true rfl⟩ rfl rfl rfl (Nat.le_of_ble_eq_true rfl) dL_law_955 ?_
  refine la_al2 (pc := 958) C dL_law_958 ?_
  refine la_arg (pc := 959) (kk := 1) C (by omega) dL_law_959 dL_law_960 dL_law_961 (by decide) dL_law_962 dL_law_963 ?_
  refine la_cMi (pc := 964) (As := [.int (xs (j + 1))]) (rest := [.int r]) C (tX5_least l 2000 (xs (j + 1)) B r B' h2) msX5_least mw_920 rfl rfl ⟨Nat.le_of_ble_eq_true rfl, Nat.le_of_ble_eq_true rfl⟩ rfl rfl rfl (Nat.le_of_ble_eq_true rfl) dL_law_964 ?_
  exact la_eqi (pc := 967) C 1379 dL_law_967 (by decide) (k A' B' hR')
theorem la_c26 (C : la_Cx p s m meth c D kT ρ ρ2 b Ln xs kc ks) (hR : Rel A B) (hj : j + 6 ≤ Ln) (k : ∀ A' B', Rel A' B' → la_At p l e s m below meth c D kT ρ ρ2 b kc ks 1379 (la_L b ρ ρ2 j) [] A' B') : la_At p l e s m below meth c D kT ρ ρ2 b kc ks 972 (la_L b ρ ρ2 j) [] A B := by
  obtain ⟨r, A', B', h1, h2, hR'⟩ := ok_hard (N := 2000) (by decide) hR (xs (j + 1)) (xs (j + 2))
  refine la_al1 (pc := 972) C dL_law_972 ?_
  refine la_arg (pc := 973) (kk := 1) C (by omega) dL_law_973 dL_law_974 dL_law_975 (by decide) dL_law_976 dL_law_977 ?_
  refine la_arg (pc := 978) (kk := 2) C (by omega) dL_law_978 dL_law_979 dL_law_980 (by decide) dL_law_981 dL_law_982 ?_
  refine la_cCi (pc := 983) (As := [.int (xs (j + 1)), .int (xs (j + 2))]) (rest := []) C (tX4_hard l 2000 (xs (j + 1)) (xs (j + 2)) A r A' h1) msX4_hard mw_448 rfl rfl ⟨Nat.le_of_ble_eq_true rfl, Nat.le_of_ble_eq_true rfl⟩ rfl rfl rfl (Nat.le_of_ble_eq_true rfl) dL_law_983 ?_
  refine la_al2 (pc := 986) C dL_law_986 ?_
  refine la_arg (pc := 987) (kk := 1) C (by omega) dL_law_987 dL_law_988 dL_law_989 (by decide) dL_law_990 dL_law_991 ?_
  refine la_arg (pc := 992) (kk := 2) C (by omega) dL_law_992 dL_law_993 dL_law_994 (by decide) dL_law_995 dL_law_996 ?_
  refine la_cMi (pc := 997) (As := [.int (xs (j + 1)), .int (xs (j + 2))]) (rest := [.int r]) C (tX5_hard l 2000 (xs (j + 1)) (xs (j + 2)) B r B' h2) msX5_hard mw_924 rfl rfl ⟨Nat.le_of_ble_eq_true rfl, Nat.le_of_ble_eq_true rfl⟩ rfl rfl rfl (Nat.le_of_ble_eq_true rfl) dL_law_997 ?_
  exact la_eqi (pc := 1000) C 1379 dL_law_1000 (by decide) (k A' B' hR')
theorem la_c27 (C : la_Cx p s m meth c D kT ρ ρ2 b Ln xs kc ks) (hR : Rel A B) (hj : j + 6 ≤ Ln) (k : ∀ A' B', Rel A' B' → la_At p l e s m below meth c D kT ρ ρ2 b kc ks 1379 (la_L b ρ ρ2 j) [] A' B') : la_At p l e s m below meth c D kT ρ ρ2 b kc ks 1005 (la_L b ρ ρ2 j) [] A B := by
  obtain ⟨r, A', B', h1, h2, hR'⟩ := ok_leaks (N := 2000) (by decide) hR (xs (j + 1))
  refine la_al1 (pc := 1005) C dL_law_1005 ?_
  refine la_arg (pc := 1006) (kk := 1) C (by omega) dL_law_1006 dL_law_1007 dL_law_1008 (by decide) dL_law_1009 dL_law_1010 ?_
  refine la_cCi (pc := 1011) (As := [.int (xs (j + 1))]) (rest := []) C (tX4_leaks l 2000 (xs (j + 1)) A r A' h1) msX4_leaks mw_461 rfl rfl ⟨Nat.le_of_ble_eq_true rfl, Nat.le_of_ble_eq_true rfl⟩ rfl rfl rfl (Nat.le_of_ble_eq_true rfl) dL_law_1011 ?_
  refine la_al2 (pc := 1014) C dL_law_1014 ?_
  refine la_arg (pc := 1015) (kk := 1) C (by omega) dL_law_1015 dL_law_1016 dL_law_1017 (by decide) dL_law_1018 dL_law_1019 ?_
  refine la_cMi (pc := 1020) (As := [.int (xs (j + 1))]) (rest := [.int r]) C (tX5_leaks l 2000 (xs (j + 1)) B r B' h2) msX5_leaks mw_933 rfl rfl ⟨Nat.le_of_ble_eq_true rfl, Nat.le_of_ble_eq_true rfl⟩ rfl rfl rfl (Nat.le_of_ble_eq_true rfl) dL_law_1020 ?_
  exact la_eqi (pc := 1023) C 1379 dL_law_1023 (by decide) (k A' B' hR')
theorem la_c28 (C : la_Cx p s m meth c D kT ρ ρ2 b Ln xs kc ks) (hR : Rel A B) (hj : j + 6 ≤ Ln) (k : ∀ A' B', Rel A' B' → la_At p l e s m below meth c D kT ρ ρ2 b kc ks 1379 (la_L b ρ ρ2 j) [] A' B') : la_At p l e s m below meth c D kT ρ ρ2 b kc ks 1028 (la_L b ρ ρ2 j) [] A B := by
  obtain ⟨r, A', B', h1, h2, hR'⟩ := ok_listen (N := 2000) (by decide) hR (xs (j + 1))
  refine la_al1 (pc := 1028) C dL_law_1028 ?_
  refine la_arg (pc := 1029) (kk := 1) C (by omega) dL_law_1029 dL_law_1030 dL_law_1031 (by decide) dL_law_1032 dL_law_1033 ?_
  refine la_cCi (pc := 1034) (As := [.int (xs (j + 1))]) (rest := []) C (tX4_listen l 2000 (xs (j + 1)) A r A' h1) msX4_listen mw_484 rfl rfl ⟨Nat.le_of_ble_eq_true rfl, Nat.le_of_ble_eq_true rfl⟩ rfl rfl rfl (Nat.le_of_ble_eq_true rfl) dL_law_1034 ?_
  refine la_al2 (pc := 1037) C dL_law_1037 ?_
  refine la_arg (pc := 1038) (kk := 1) C (by omega) dL_law_1038 dL_law_1039 dL_law_1040 (by decide) dL_law_1041 dL_law_1042 ?_
  refine la_cMi (pc := 1043) (As := [.int (xs (j + 1))]) (rest := [.int r]) C (tX5_listen l 2000 (xs (j + 1)) B r B' h2) msX5_listen mw_958 rfl rfl ⟨Nat.le_of_ble_eq_true rfl, Nat.le_of_ble_eq_true rfl⟩ rfl rfl rfl (Nat.le_of_ble_eq_true rfl) dL_law_1043 ?_
  exact la_eqi (pc := 1046) C 1379 dL_law_1046 (by decide) (k A' B' hR')
theorem la_c29 (C : la_Cx p s m meth c D kT ρ ρ2 b Ln xs kc ks) (hR : Rel A B) (hj : j + 6 ≤ Ln) (k : ∀ A' B', Rel A' B' → la_At p l e s m below meth c D kT ρ ρ2 b kc ks 1379 (la_L b ρ ρ2 j) [] A' B') : la_At p l e s m below meth c D kT ρ ρ2 b kc ks 1051 (la_L b ρ ρ2 j) [] A B := by
  obtain ⟨r, A', B', h1, h2, hR'⟩ := ok_strokes (N := 2000) (by decide) hR (xs (j + 1))
  refine la_al1 (pc := 1051) C dL_law_1051 ?_
  refine la_arg (pc := 1052) (kk := 1) C (by omega) dL_law_1052 dL_law_1053 dL_law_1054 (by decide) dL_law_1055 dL_law_1056 ?_
  refine la_cCi (pc := 1057) (As := [.int (xs (j + 1))]) (rest := []) C (tX4_strokes l 2000 (xs (j + 1)) A r A' h1) msX4_strokes mw_496 rfl rfl ⟨Nat.le_of_ble_eq_true rfl, Nat.le_of_ble_eq_true rfl⟩ rfl rfl rfl (Nat.le_of_ble_eq_true rfl) dL_law_1057 ?_
  refine la_al2 (pc := 1060) C dL_law_1060 ?_
  refine la_arg (pc := 1061) (kk := 1) C (by omega) dL_law_1061 dL_law_1062 dL_law_1063 (by decide) dL_law_1064 dL_law_1065 ?_
  refine la_cMi (pc := 1066) (As := [.int (xs (j + 1))]) (rest := [.int r]) C (tX5_strokes l 2000 (xs (j + 1)) B r B' h2) msX5_strokes mw_963 rfl rfl ⟨Nat.le_of_ble_eq_true rfl, Nat.le_of_ble_eq_true rfl⟩ rfl rfl rfl (Nat.le_of_ble_eq_true rfl) dL_law_1066 ?_
  exact la_eqi (pc := 1069) C 1379 dL_law_1069 (by decide) (k A' B' hR')
theorem la_c30 (C : la_Cx p s m meth c D kT ρ ρ2 b Ln xs kc ks) (hR : Rel A B) (hj : j + 6 ≤ Ln) (k : ∀ A' B', Rel A' B' → la_At p l e s m below meth c D kT ρ ρ2 b kc ks 1379 (la_L b ρ ρ2 j) [] A' B') : la_At p l e s m below meth c D kT ρ ρ2 b kc ks 1074 (la_L b ρ ρ2 j) [] A B := by
  obtain ⟨r, A', B', h1, h2, hR'⟩ := ok_kinds (N := 2000) (by decide) hR (xs (j + 1)) (xs (j + 2))
  refine la_al1 (pc := 1074) C dL_law_1074 ?_
  refine la_arg (pc := 1075) (kk := 1) C (by omega) dL_law_1075 dL_law_1076 dL_law_1077 (by decide) dL_law_1078 dL_law_1079 ?_
  refine la_arg (pc := 1080) (kk := 2) C (by omega) dL_law_1080 dL_law_1081 dL_law_1082 (by decide) dL_law_1083 dL_law_1084 ?_
  refine la_cCi (pc := 1085) (As := [.int (xs (j + 1)), .int (xs (j + 2))]) (rest := []) C (tX4_kinds l 2000 (xs (j + 1)) (xs (j + 2)) A r A' h1) msX4_kinds mw_500 rfl rfl ⟨Nat.le_of_ble_eq_true rfl, Nat.le_of_ble_eq_true rfl⟩ rfl rfl rfl (Nat.le_of_ble_eq_true rfl) dL_law_1085 ?_
  refine la_al2 (pc := 1088) C dL_law_1088 ?_
  refine la_arg (pc := 1089) (kk := 1) C (by omega) dL_law_1089 dL_law_1090 dL_law_1091 (by decide) dL_law_1092 dL_law_1093 ?_
  refine la_arg (pc := 1094) (kk := 2) C (by omega) dL_law_1094 dL_law_1095 dL_law_1096 (by decide) dL_law_1097 dL_law_1098 ?_
  refine la_cMi (pc := 1099) (As := [.int (xs (j + 1)), .int (xs (j + 2))]) (rest := [.int r]) C (tX5_kinds l 2000 (xs (j + 1)) (xs (j + 2)) B r B' h2) msX5_kinds mw_967 rfl rfl ⟨Nat.le_of_ble_eq_true rfl, Nat.le_of_ble_eq_true rfl⟩ rfl rfl rfl (Nat.le_of_ble_eq_true rfl) dL_law_1099 ?_
  exact la_eqi (pc := 1102) C 1379 dL_law_1102 (by decide) (k A' B' hR')
theorem la_c31 (C : la_Cx p s m meth c D kT ρ ρ2 b Ln xs kc ks) (hR : Rel A B) (hj : j + 6 ≤ Ln) (k : ∀ A' B', Rel A' B' → la_At p l e s m below meth c D kT ρ ρ2 b kc ks 1379 (la_L b ρ ρ2 j) [] A' B') : la_At p l e s m below meth c D kT ρ ρ2 b kc ks 1107 (la_L b ρ ρ2 j) [] A B := by
  obtain ⟨r, A', B', h1, h2, hR'⟩ := ok_sets (N := 2000) (by decide) hR (xs (j + 1))
  refine la_al1 (pc := 1107) C dL_law_1107 ?_
  refine la_arg (pc := 1108) (kk := 1) C (by omega) dL_law_1108 dL_law_1109 dL_law_1110 (by decide) dL_law_1111 dL_law_1112 ?_
  refine la_cCi (pc := 1113) (As := [.int (xs (j + 1))]) (rest := []) C (tX4_sets l 2000 (xs (j + 1)) A r A' h1) msX4_sets mw_504 rfl rfl ⟨Nat.le_of_ble_eq_true rfl, Nat.le_of_ble_eq_true rfl⟩ rfl rfl rfl (Nat.le_of_ble_eq_true rfl) dL_law_1113 ?_
  refine la_al2 (pc := 1116) C dL_law_1116 ?_
  refine la_arg (pc := 1117) (kk := 1) C (by omega) dL_law_1117 dL_law_1118 dL_law_1119 (by decide) dL_law_1120 dL_law_1121 ?_
  refine la_cMi (pc := 1122) (As := [.int (xs (j + 1))]) (rest := [.int r]) C (tX5_sets l 2000 (xs (j + 1)) B r B' h2) msX5_sets mw_971 rfl rfl ⟨Nat.le_of_ble_eq_true rfl, Nat.le_of_ble_eq_true rfl⟩ rfl rfl rfl (Nat.le_of_ble_eq_true rfl) dL_law_1122 ?_
  exact la_eqi (pc := 1125) C 1379 dL_law_1125 (by decide) (k A' B' hR')
theorem la_c32 (C : la_Cx p s m meth c D kT ρ ρ2 b Ln xs kc ks) (hR : Rel A B) (hj : j + 6 ≤ Ln) (k : ∀ A' B', Rel A' B' → la_At p l e s m below meth c D kT ρ ρ2 b kc ks 1379 (la_L b ρ ρ2 j) [] A' B') : la_At p l e s m below meth c D kT ρ ρ2 b kc ks 1130 (la_L b ρ ρ2 j) [] A B := by
  obtain ⟨r, A', B', h1, h2, hR'⟩ := ok_sure (N := 2000) (by decide) hR (xs (j + 1))
  refine la_al1 (pc := 1130) C dL_law_1130 ?_
  refine la_arg (pc := 1131) (kk := 1) C (by omega) dL_law_1131 dL_law_1132 dL_law_1133 (by decide) dL_law_1134 dL_law_1135 ?_
  refine la_cCi (pc := 1136) (As := [.int (xs (j + 1))]) (rest := []) C (tX4_sure l 2000 (xs (j + 1)) A r A' h1) msX4_sure mw_517 rfl rfl ⟨Nat.le_of_ble_eq_true rfl, Nat.le_of_ble_eq_true rfl⟩ rfl rfl rfl (Nat.le_of_ble_eq_true rfl) dL_law_1136 ?_
  refine la_al2 (pc := 1139) C dL_law_1139 ?_
  refine la_arg (pc := 1140) (kk := 1) C (by omega) dL_law_1140 dL_law_1141 dL_law_1142 (by decide) dL_law_1143 dL_law_1144 ?_
  refine la_cMi (pc := 1145) (As := [.int (xs (j + 1))]) (rest := [.int r]) C (tX5_sure l 2000 (xs (j + 1)) B r B' h2) msX5_sure mw_979 rfl rfl ⟨Nat.le_of_ble_eq_true rfl, Nat.le_of_ble_eq_true rfl⟩ rfl rfl rfl (Nat.le_of_ble_eq_true rfl) dL_law_1145 ?_
  exact la_eqi (pc := 1148) C 1379 dL_law_1148 (by decide) (k A' B' hR')
theorem la_c33 (C : la_Cx p s m meth c D kT ρ ρ2 b Ln xs kc ks) (hR : Rel A B) (hj : j + 6 ≤ Ln) (k : ∀ A' B', Rel A' B' → la_At p l e s m below meth c D kT ρ ρ2 b kc ks 1379 (la_L b ρ ρ2 j) [] A' B') : la_At p l e s m below meth c D kT ρ ρ2 b kc ks 1153 (la_L b ρ ρ2 j) [] A B := by
  obtain ⟨r, A', B', h1, h2, hR'⟩ := ok_duel (N := 2000) (by decide) hR (xs (j + 1))
  refine la_al1 (pc := 1153) C dL_law_1153 ?_
  refine la_arg (pc := 1154) (kk := 1) C (by omega) dL_law_1154 dL_law_1155 dL_law_1156 (by decide) dL_law_1157 dL_law_1158 ?_
  refine la_cCi (pc := 1159) (As := [.int (xs (j + 1))]) (rest := []) C (tX4_duel l 2000 (xs (j + 1)) A r A' h1) msX4_duel mw_521 rfl rfl ⟨Nat.le_of_ble_eq_true rfl, Nat.le_of_ble_eq_true rfl⟩ rfl rfl rfl (Nat.le_of_ble_eq_true rfl) dL_law_1159 ?_
  refine la_al2 (pc := 1162) C dL_law_1162 ?_
  refine la_arg (pc := 1163) (kk := 1) C (by omega) dL_law_1163 dL_law_1164 dL_law_1165 (by decide) dL_law_1166 dL_law_1167 ?_
  refine la_cMi (pc := 1168) (As := [.int (xs (j + 1))]) (rest := [.int r]) C (tX5_duel l 2000 (xs (j + 1)) B r B' h2) msX5_duel mw_983 rfl rfl ⟨Nat.le_of_ble_eq_true rfl, Nat.le_of_ble_eq_true rfl⟩ rfl rfl rfl (Nat.le_of_ble_eq_true rfl) dL_law_1168 ?_
  exact la_eqi (pc := 1171) C 1379 dL_law_1171 (by decide) (k A' B' hR')
theorem la_c34 (C : la_Cx p s m meth c D kT ρ ρ2 b Ln xs kc ks) (hR : Rel A B) (hj : j + 6 ≤ Ln) (k : ∀ A' B', Rel A' B' → la_At p l e s m below meth c D kT ρ ρ2 b kc ks 1379 (la_L b ρ ρ2 j) [] A' B') : la_At p l e s m below meth c D kT ρ ρ2 b kc ks 1176 (la_L b ρ ρ2 j) [] A B := by
  obtain ⟨r, A', B', h1, h2, hR'⟩ := ok_odds (N := 2000) (by decide) hR (xs (j + 1)) (xs (j + 2))
  refine la_al1 (pc := 1176) C dL_law_1176 ?_
  refine la_arg (pc := 1177) (kk := 1) C (by omega) dL_law_1177 dL_law_1178 dL_law_1179 (by decide) dL_law_1180 dL_law_1181 ?_
  refine la_arg (pc := 1182) (kk := 2) C (by omega) dL_law_1182 dL_law_1183 dL_law_1184 (by decide) dL_law_1185 dL_law_1186 ?_
  refine la_cCi (pc := 1187) (As := [.int (xs (j + 1)), .int (xs (j + 2))]) (rest := []) C (tX4_odds l 2000 (xs (j + 1)) (xs (j + 2)) A r A' h1) msX4_odds mw_533 rfl rfl ⟨Nat.le_of_ble_eq_true rfl, Nat.le_of_ble_eq_true rfl⟩ rfl rfl rfl (Nat.le_of_ble_eq_true rfl) dL_law_1187 ?_
  refine la_al2 (pc := 1190) C dL_law_1190 ?_
  refine la_arg (pc := 1191) (kk := 1) C (by omega) dL_law_1191 dL_law_1192 dL_law_1193 (by decide) dL_law_1194 dL_law_1195 ?_
  refine la_arg (pc := 1196) (kk := 2) C (by omega) dL_law_1196 dL_law_1197 dL_law_1198 (by decide) dL_law_1199 dL_law_1200 ?_
  refine la_cMi (pc := 1201) (As := [.int (xs (j + 1)), .int (xs (j + 2))]) (rest := [.int r]) C (tX5_odds l 2000 (xs (j + 1)) (xs (j + 2)) B r B' h2) msX5_odds mw_991 rfl rfl ⟨Nat.le_of_ble_eq_true rfl, Nat.le_of_ble_eq_true rfl⟩ rfl rfl rfl (Nat.le_of_ble_eq_true rfl) dL_law_1201 ?_
  exact la_eqi (pc := 1204) C 1379 dL_law_1204 (by decide) (k A' B' hR')
theorem la_c35 (C : la_Cx p s m meth c D kT ρ ρ2 b Ln xs kc ks) (hR : Rel A B) (hj : j + 6 ≤ Ln) (k : ∀ A' B', Rel A' B' → la_At p l e s m below meth c D kT ρ ρ2 b kc ks 1379 (la_L b ρ ρ2 j) [] A' B') : la_At p l e s m below meth c D kT ρ ρ2 b kc ks 1209 (la_L b ρ ρ2 j) [] A B := by
  obtain ⟨r, A', B', h1, h2, hR'⟩ := ok_mid (N := 2000) (by decide) hR (xs (j + 1))
  refine la_al1 (pc := 1209) C dL_law_1209 ?_
  refine la_arg (pc := 1210) (kk := 1) C (by omega) dL_law_1210 dL_law_1211 dL_law_1212 (by decide) dL_law_1213 dL_law_1214 ?_
  refine la_cCi (pc := 1215) (As := [.int (xs (j + 1))]) (rest := []) C (tX4_mid l 2000 (xs (j + 1)) A r A' h1) msX4_mid mw_544 rfl rfl ⟨Nat.le_of_ble_eq_true rfl, Nat.le_of_ble_eq_true rfl⟩ rfl rfl rfl (Nat.le_of_ble_eq_true rfl) dL_law_1215 ?_
  refine la_al2 (pc := 1218) C dL_law_1218 ?_
  refine la_arg (pc := 1219) (kk := 1) C (by omega) dL_law_1219 dL_law_1220 dL_law_1221 (by decide) dL_law_1222 dL_law_1223 ?_
  refine la_cMi (pc := 1224) (As := [.int (xs (j + 1))]) (rest := [.int r]) C (tX5_mid l 2000 (xs (j + 1)) B r B' h2) msX5_mid mw_1008 rfl rfl ⟨Nat.le_of_ble_eq_true rfl, Nat.le_of_ble_eq_true rfl⟩ rfl rfl rfl (Nat.le_of_ble_eq_true rfl) dL_law_1224 ?_
  exact la_eqi (pc := 1227) C 1379 dL_law_1227 (by decide) (k A' B' hR')
theorem la_c36 (C : la_Cx p s m meth c D kT ρ ρ2 b Ln xs kc ks) (hR : Rel A B) (hj : j + 6 ≤ Ln) (k : ∀ A' B', Rel A' B' → la_At p l e s m below meth c D kT ρ ρ2 b kc ks 1379 (la_L b ρ ρ2 j) [] A' B') : la_At p l e s m below meth c D kT ρ ρ2 b kc ks 1232 (la_L b ρ ρ2 j) [] A B := by
  obtain ⟨r, A', B', h1, h2, hR'⟩ := ok_lots (N := 2000) (by decide) hR (xs (j + 1)) (xs (j + 2))
  refine la_al1 (pc := 1232) C dL_law_1232 ?_
  refine la_arg (pc := 1233) (kk := 1) C (by omega) dL_law_1233 dL_law_1234 dL_law_1235 (by decide) dL_law_1236 dL_law_1237 ?_
  refine la_arg (pc := 1238) (kk := 2) C (by omega) dL_law_1238 dL_law_1239 dL_law_1240 (by decide) dL_law_1241 dL_law_1242 ?_
  refine la_cCi (pc := 1243) (As := [.int (xs (j + 1)), .int (xs (j + 2))]) (rest := []) C (tX4_lots l 2000 (xs (j + 1)) (xs (j + 2)) A r A' h1) msX4_lots mw_548 rfl rfl ⟨Nat.le_of_ble_eq_true rfl, Nat.le_of_ble_eq_true rfl⟩ rfl rfl rfl (Nat.le_of_ble_eq_true rfl) dL_law_1243 ?_
  refine la_al2 (pc := 1246) C dL_law_1246 ?_
  refine la_arg (pc := 1247) (kk := 1) C (by omega) dL_law_1247 dL_law_1248 dL_law_1249 (by decide) dL_law_1250 dL_law_1251 ?_
  refine la_arg (pc := 1252) (kk := 2) C (by omega) dL_law_1252 dL_law_1253 dL_law_1254 (by decide) dL_law_1255 dL_law_1256 ?_
  refine la_cMi (pc := 1257) (As := [.int (xs (j + 1)), .int (xs (j + 2))]) (rest := [.int r]) C (tX5_lots l 2000 (xs (j + 1)) (xs (j + 2)) B r B' h2) msX5_lots mw_1012 rfl rfl ⟨Nat.le_of_ble_eq_true rfl, Nat.le_of_ble_eq_true rfl⟩ rfl rfl rfl (Nat.le_of_ble_eq_true rfl) dL_law_1257 ?_
  exact la_eqi (pc := 1260) C 1379 dL_law_1260 (by decide) (k A' B' hR')
theorem la_c37 (C : la_Cx p s m meth c D kT ρ ρ2 b Ln xs kc ks) (hR : Rel A B) (hj : j + 6 ≤ Ln) (k : ∀ A' B', Rel A' B' → la_At p l e s m below meth c D kT ρ ρ2 b kc ks 1379 (la_L b ρ ρ2 j) [] A' B') : la_At p l e s m below meth c D kT ρ ρ2 b kc ks 1265 (la_L b ρ ρ2 j) [] A B := by
  obtain ⟨r, h1, h2⟩ := ok_asked hR
  refine la_al1 (pc := 1265) C dL_law_1265 ?_
  refine la_cCi (pc := 1266) (As := []) (rest := []) C (tX4_asked l A r h1) msX4_asked mw_558 rfl rfl ⟨Nat.le_of_ble_eq_true rfl, Nat.le_of_ble_eq_true rfl⟩ rfl rfl rfl (Nat.le_of_ble_eq_true rfl) dL_law_1266 ?_
  refine la_al2 (pc := 1269) C dL_law_1269 ?_
  refine la_cMi (pc := 1270) (As := []) (rest := [.int r]) C (tX5_asked l B r h2) msX5_asked mw_1023 rfl rfl ⟨Nat.le_of_ble_eq_true rfl, Nat.le_of_ble_eq_true rfl⟩ rfl rfl rfl (Nat.le_of_ble_eq_true rfl) dL_law_1270 ?_
  exact la_eqi (pc := 1273) C 1379 dL_law_1273 (by decide) (k A B hR)
theorem la_c38 (C : la_Cx p s m meth c D kT ρ ρ2 b Ln xs kc ks) (hR : Rel A B) (hj : j + 6 ≤ Ln) (k : ∀ A' B', Rel A' B' → la_At p l e s m below meth c D kT ρ ρ2 b kc ks 1379 (la_L b ρ ρ2 j) [] A' B') : la_At p l e s m below meth c D kT ρ ρ2 b kc ks 1278 (la_L b ρ ρ2 j) [] A B := by
  obtain ⟨r, h1, h2⟩ := ok_upper hR
  refine la_al1 (pc := 1278) C dL_law_1278 ?_
  refine la_cCl (pc := 1279) (As := []) (rest := []) C (tX4_upper l A r h1) msX4_upper mw_562 rfl rfl ⟨Nat.le_of_ble_eq_true rfl, Nat.le_of_ble_eq_true rfl⟩ rfl rfl rfl (Nat.le_of_ble_eq_true rfl) dL_law_1279 ?_
  refine la_al2 (pc := 1282) C dL_law_1282 ?_
  refine la_cMl (pc := 1283) (As := []) (rest := [.long r]) C (tX5_upper l B r h2) msX5_upper mw_1027 rfl rfl ⟨Nat.le_of_ble_eq_true rfl, Nat.le_of_ble_eq_true rfl⟩ rfl rfl rfl (Nat.le_of_ble_eq_true rfl) dL_law_1283 ?_
  exact la_eql (pc := 1286) C 1379 dL_law_1286 dL_law_1287 (by decide) (k A B hR)
theorem la_c39 (C : la_Cx p s m meth c D kT ρ ρ2 b Ln xs kc ks) (hR : Rel A B) (hj : j + 6 ≤ Ln) (k : ∀ A' B', Rel A' B' → la_At p l e s m below meth c D kT ρ ρ2 b kc ks 1379 (la_L b ρ ρ2 j) [] A' B') : la_At p l e s m below meth c D kT ρ ρ2 b kc ks 1292 (la_L b ρ ρ2 j) [] A B := by
  obtain ⟨r, h1, h2⟩ := ok_lower hR
  refine la_al1 (pc := 1292) C dL_law_1292 ?_
  refine la_cCl (pc := 1293) (As := []) (rest := []) C (tX4_lower l A r h1) msX4_lower mw_566 rfl rfl ⟨Nat.le_of_ble_eq_true rfl, Nat.le_of_ble_eq_true rfl⟩ rfl rfl rfl (Nat.le_of_ble_eq_true rfl) dL_law_1293 ?_
  refine la_al2 (pc := 1296) C dL_law_1296 ?_
  refine la_cMl (pc := 1297) (As := []) (rest := [.long r]) C (tX5_lower l B r h2) msX5_lower mw_1031 rfl rfl ⟨Nat.le_of_ble_eq_true rfl, Nat.le_of_ble_eq_true rfl⟩ rfl rfl rfl (Nat.le_of_ble_eq_true rfl) dL_law_1297 ?_
  exact la_eql (pc := 1300) C 1379 dL_law_1300 dL_law_1301 (by decide) (k A B hR)
theorem la_c40 (C : la_Cx p s m meth c D kT ρ ρ2 b Ln xs kc ks) (hR : Rel A B) (hj : j + 6 ≤ Ln) (k : ∀ A' B', Rel A' B' → la_At p l e s m below meth c D kT ρ ρ2 b kc ks 1379 (la_L b ρ ρ2 j) [] A' B') : la_At p l e s m below meth c D kT ρ ρ2 b kc ks 1306 (la_L b ρ ρ2 j) [] A B := by
  obtain ⟨r, h1, h2⟩ := ok_count (N := 2000) (by decide) hR (xs (j + 1))
  refine la_al1 (pc := 1306) C dL_law_1306 ?_
  refine la_arg (pc := 1307) (kk := 1) C (by omega) dL_law_1307 dL_law_1308 dL_law_1309 (by decide) dL_law_1310 dL_law_1311 ?_
  refine la_cCi (pc := 1312) (As := [.int (xs (j + 1))]) (rest := []) C (tX4_count l 2000 (xs (j + 1)) A r h1) msX4_count mw_570 rfl rfl ⟨Nat.le_of_ble_eq_true rfl, Nat.le_of_ble_eq_true rfl⟩ rfl rfl rfl (Nat.le_of_ble_eq_true rfl) dL_law_1312 ?_
  refine la_al2 (pc := 1315) C dL_law_1315 ?_
  refine la_arg (pc := 1316) (kk := 1) C (by omega) dL_law_1316 dL_law_1317 dL_law_1318 (by decide) dL_law_1319 dL_law_1320 ?_
  refine la_cMi (pc := 1321) (As := [.int (xs (j + 1))]) (rest := [.int r]) C (tX5_count l 2000 (xs (j + 1)) B r h2) msX5_count mw_1035 rfl rfl ⟨Nat.le_of_ble_eq_true rfl, Nat.le_of_ble_eq_true rfl⟩ rfl rfl rfl (Nat.le_of_ble_eq_true rfl) dL_law_1321 ?_
  exact la_eqi (pc := 1324) C 1379 dL_law_1324 (by decide) (k A B hR)
theorem la_c41 (C : la_Cx p s m meth c D kT ρ ρ2 b Ln xs kc ks) (hR : Rel A B) (hj : j + 6 ≤ Ln) (k : ∀ A' B', Rel A' B' → la_At p l e s m below meth c D kT ρ ρ2 b kc ks 1379 (la_L b ρ ρ2 j) [] A' B') : la_At p l e s m below meth c D kT ρ ρ2 b kc ks 1329 (la_L b ρ ρ2 j) [] A B := by
  obtain ⟨r, h1, h2⟩ := ok_finding hR
  refine la_al1 (pc := 1329) C dL_law_1329 ?_
  refine la_cCi (pc := 1330) (As := []) (rest := []) C (tX4_finding l A r h1) msX4_finding mw_590 rfl rfl ⟨Nat.le_of_ble_eq_true rfl, Nat.le_of_ble_eq_true rfl⟩ rfl rfl rfl (Nat.le_of_ble_eq_true rfl) dL_law_1330 ?_
  refine la_al2 (pc := 1333) C dL_law_1333 ?_
  refine la_cMi (pc := 1334) (As := []) (rest := [.int r]) C (tX5_finding l B r h2) msX5_finding mw_1050 rfl rfl ⟨Nat.le_of_ble_eq_true rfl, Nat.le_of_ble_eq_true rfl⟩ rfl rfl rfl (Nat.le_of_ble_eq_true rfl) dL_law_1334 ?_
  exact la_eqi (pc := 1337) C 1379 dL_law_1337 (by decide) (k A B hR)
theorem la_c42 (C : la_Cx p s m meth c D kT ρ ρ2 b Ln xs kc ks) (hR : Rel A B) (hj : j + 6 ≤ Ln) (k : ∀ A' B', Rel A' B' → la_At p l e s m below meth c D kT ρ ρ2 b kc ks 1379 (la_L b ρ ρ2 j) [] A' B') : la_At p l e s m below meth c D kT ρ ρ2 b kc ks 1342 (la_L b ρ ρ2 j) [] A B := by
  obtain ⟨r, h1, h2⟩ := ok_findings hR (xs (j + 1))
  refine la_al1 (pc := 1342) C dL_law_1342 ?_
  refine la_arg (pc := 1343) (kk := 1) C (by omega) dL_law_1343 dL_law_1344 dL_law_1345 (by decide) dL_law_1346 dL_law_1347 ?_
  refine la_cCi (pc := 1348) (As := [.int (xs (j + 1))]) (rest := []) C (tX4_findings l (xs (j + 1)) A r h1) msX4_findings mw_594 rfl rfl ⟨Nat.le_of_ble_eq_true rfl, Nat.le_of_ble_eq_true rfl⟩ rfl rfl rfl (Nat.le_of_ble_eq_true rfl) dL_law_1348 ?_
  refine la_al2 (pc := 1351) C dL_law_1351 ?_
  refine la_arg (pc := 1352) (kk := 1) C (by omega) dL_law_1352 dL_law_1353 dL_law_1354 (by decide) dL_law_1355 dL_law_1356 ?_
  refine la_cMi (pc := 1357) (As := [.int (xs (j + 1))]) (rest := [.int r]) C (tX5_findings l (xs (j + 1)) B r h2) msX5_findings mw_1054 rfl rfl ⟨Nat.le_of_ble_eq_true rfl, Nat.le_of_ble_eq_true rfl⟩ rfl rfl rfl (Nat.le_of_ble_eq_true rfl) dL_law_1357 ?_
  exact la_eqi (pc := 1360) C 1379 dL_law_1360 (by decide) (k A B hR)
theorem la_c43 (C : la_Cx p s m meth c D kT ρ ρ2 b Ln xs kc ks) (hR : Rel A B) (hj : j + 6 ≤ Ln) (k : ∀ A' B', Rel A' B' → la_At p l e s m below meth c D kT ρ ρ2 b kc ks 1379 (la_L b ρ ρ2 j) [] A' B') : la_At p l e s m below meth c D kT ρ ρ2 b kc ks 1365 (la_L b ρ ρ2 j) [] A B := by
  obtain ⟨r, h1, h2⟩ := ok_digest (N := 2000) (by decide) hR
  refine la_al1 (pc := 1365) C dL_law_1365 ?_
  refine la_cCl (pc := 1366) (As := []) (rest := []) C (tX4_digest l 2000 A r h1) msX4_digest mw_598 rfl rfl ⟨Nat.le_of_ble_eq_true rfl, Nat.le_of_ble_eq_true rfl⟩ rfl rfl rfl (Nat.le_of_ble_eq_true rfl) dL_law_1366 ?_
  refine la_al2 (pc := 1369) C dL_law_1369 ?_
  refine la_cMl (pc := 1370) (As := []) (rest := [.long r]) C (tX5_digest l 2000 B r h2) msX5_digest mw_1058 rfl rfl ⟨Nat.le_of_ble_eq_true rfl, Nat.le_of_ble_eq_true rfl⟩ rfl rfl rfl (Nat.le_of_ble_eq_true rfl) dL_law_1370 ?_
  exact la_eql (pc := 1373) C 1379 dL_law_1373 dL_law_1374 (by decide) (k A B hR)
theorem la_sw (C : la_Cx p s m meth c D kT ρ ρ2 b Ln xs kc ks) (hR : Rel A B) (hj : j + 6 ≤ Ln) (k : ∀ A' B', Rel A' B' → la_At p l e s m below meth c D kT ρ ρ2 b kc ks 1379 (la_L b ρ ρ2 j) [] A' B') (x : Int32) (hx : ∃ i : Nat, i < 64 ∧ x = nI i) : la_At p l e s m below meth c D kT ρ ρ2 b kc ks 33 (la_L b ρ ρ2 j) [.int x] A B := by
  by_cases h0 : x = nI 0
  · subst h0
    exact fun H locs ls hP hQ hS hl => lv_tableIn (off := 191) (tgt := 224) C.1 C.2.1 dL_law_33 (by decide) (by decide) (by decide) (by decide) (la_c0 C hR hj k H locs ls hP hQ hS hl)
  by_cases h1 : x = nI 1
  · subst h1
    exact fun H locs ls hP hQ hS hl => lv_tableIn (off := 224) (tgt := 257) C.1 C.2.1 dL_law_33 (by decide) (by decide) (by decide) (by decide) (la_c1 C hR hj k H locs ls hP hQ hS hl)
  by_cases h2 : x = nI 2
  · subst h2
    exact fun H locs ls hP hQ hS hl => lv_tableIn (off := 267) (tgt := 300) C.1 C.2.1 dL_law_33 (by decide) (by decide) (by decide) (by decide) (la_c2 C hR hj k H locs ls hP hQ hS hl)
  by_cases h3 : x = nI 3
  · subst h3
    exact fun H locs ls hP hQ hS hl => lv_tableIn (off := 300) (tgt := 333) C.1 C.2.1 dL_law_33 (by decide) (by decide) (by decide) (by decide) (la_c3 C hR hj k H locs ls hP hQ hS hl)
  by_cases h4 : x = nI 4
  · subst h4
    exact fun H locs ls hP hQ hS hl => lv_tableIn (off := 323) (tgt := 356) C.1 C.2.1 dL_law_33 (by decide) (by decide) (by decide) (by decide) (la_c4 C hR hj k H locs ls hP hQ hS hl)
  by_cases h5 : x = nI 5
  · subst h5
    exact fun H locs ls hP hQ hS hl => lv_tableIn (off := 386) (tgt := 419) C.1 C.2.1 dL_law_33 (by decide) (by decide) (by decide) (by decide) (la_c5 C hR hj k H locs ls hP hQ hS hl)
  by_cases h6 : x = nI 6
  · subst h6
    exact fun H locs ls hP hQ hS hl => lv_tableIn (off := 409) (tgt := 442) C.1 C.2.1 dL_law_33 (by decide) (by decide) (by decide) (by decide) (la_c6 C hR hj k H locs ls hP hQ hS hl)
  by_cases h7 : x = nI 7
  · subst h7
    exact fun H locs ls hP hQ hS hl => lv_tableIn (off := 442) (tgt := 475) C.1 C.2.1 dL_law_33 (by decide) (by decide) (by decide) (by decide) (la_c7 C hR hj k H locs ls hP hQ hS hl)
  by_cases h8 : x = nI 8
  · subst h8
    exact fun H locs ls hP hQ hS hl => lv_tableIn (off := 485) (tgt := 518) C.1 C.2.1 dL_law_33 (by decide) (by decide) (by decide) (by decide) (la_c8 C hR hj k H locs ls hP hQ hS hl)
  by_cases h9 : x = nI 9
  · subst h9
    exact fun H locs ls hP hQ hS hl => lv_tableIn (off := 508) (tgt := 541) C.1 C.2.1 dL_law_33 (by decide) (by decide) (by decide) (by decide) (la_c9 C hR hj k H locs ls hP hQ hS hl)
  by_cases h10 : x = nI 10
  · subst h10
    exact fun H locs ls hP hQ hS hl => lv_tableIn (off := 531) (tgt := 564) C.1 C.2.1 dL_law_33 (by decide) (by decide) (by decide) (by decide) (la_c10 C hR hj k H locs ls hP hQ hS hl)
  by_cases h11 : x = nI 11
  · subst h11
    exact fun H locs ls hP hQ hS hl => lv_tableIn (off := 564) (tgt := 597) C.1 C.2.1 dL_law_33 (by decide) (by decide) (by decide) (by decide) (la_c11 C hR hj k H locs ls hP hQ hS hl)
  by_cases h12 : x = nI 12
  · subst h12
    exact fun H locs ls hP hQ hS hl => lv_tableIn (off := 597) (tgt := 630) C.1 C.2.1 dL_law_33 (by decide) (by decide) (by decide) (by decide) (la_c12 C hR hj k H locs ls hP hQ hS hl)
  by_cases h13 : x = nI 13
  · subst h13
    exact fun H locs ls hP hQ hS hl => lv_tableIn (off := 610) (tgt := 643) C.1 C.2.1 dL_law_33 (by decide) (by decide) (by decide) (by decide) (la_c13 C hR hj k H locs ls hP hQ hS hl)
  by_cases h14 : x = nI 14
  · subst h14
    exact fun H locs ls hP hQ hS hl => lv_tableIn (off := 633) (tgt := 666) C.1 C.2.1 dL_law_33 (by decide) (by decide) (by decide) (by decide) (la_c14 C hR hj k H locs ls hP hQ hS hl)
  by_cases h15 : x = nI 15
  · subst h15
    exact fun H locs ls hP hQ hS hl => lv_tableIn (off := 656) (tgt := 689) C.1 C.2.1 dL_law_33 (by decide) (by decide) (by decide) (by decide) (la_c15 C hR hj k H locs ls hP hQ hS hl)
  by_cases h16 : x = nI 16
  · subst h16
    exact fun H locs ls hP hQ hS hl => lv_tableIn (off := 679) (tgt := 712) C.1 C.2.1 dL_law_33 (by decide) (by decide) (by decide) (by decide) (la_c16 C hR hj k H locs ls hP hQ hS hl)
  by_cases h17 : x = nI 17
  · subst h17
    exact fun H locs ls hP hQ hS hl => lv_tableIn (off := 702) (tgt := 735) C.1 C.2.1 dL_law_33 (by decide) (by decide) (by decide) (by decide) (la_c17 C hR hj k H locs ls hP hQ hS hl)
  by_cases h18 : x = nI 18
  · subst h18
    exact fun H locs ls hP hQ hS hl => lv_tableIn (off := 725) (tgt := 758) C.1 C.2.1 dL_law_33 (by decide) (by decide) (by decide) (by decide) (la_c18 C hR hj k H locs ls hP hQ hS hl)
  by_cases h19 : x = nI 19
  · subst h19
    exact fun H locs ls hP hQ hS hl => lv_tableIn (off := 748) (tgt := 781) C.1 C.2.1 dL_law_33 (by decide) (by decide) (by decide) (by decide) (la_c19 C hR hj k H locs ls hP hQ hS hl)
  by_cases h20 : x = nI 20
  · subst h20
    exact fun H locs ls hP hQ hS hl => lv_tableIn (off := 771) (tgt := 804) C.1 C.2.1 dL_law_33 (by decide) (by decide) (by decide) (by decide) (la_c20 C hR hj k H locs ls hP hQ hS hl)
  by_cases h21 : x = nI 21
  · subst h21
    exact fun H locs ls hP hQ hS hl => lv_tableIn (off := 814) (tgt := 847) C.1 C.2.1 dL_law_33 (by decide) (by decide) (by decide) (by decide) (la_c21 C hR hj k H locs ls hP hQ hS hl)
  by_cases h22 : x = nI 22
  · subst h22
    exact fun H locs ls hP hQ hS hl => lv_tableIn (off := 837) (tgt := 870) C.1 C.2.1 dL_law_33 (by decide) (by decide) (by decide) (by decide) (la_c22 C hR hj k H locs ls hP hQ hS hl)
  by_cases h23 : x = nI 23
  · subst h23
    exact fun H locs ls hP hQ hS hl => lv_tableIn (off := 870) (tgt := 903) C.1 C.2.1 dL_law_33 (by decide) (by decide) (by decide) (by decide) (la_c23 C hR hj k H locs ls hP hQ hS hl)
  by_cases h24 : x = nI 24
  · subst h24
    exact fun H locs ls hP hQ hS hl => lv_tableIn (off := 893) (tgt := 926) C.1 C.2.1 dL_law_33 (by decide) (by decide) (by decide) (by decide) (la_c24 C hR hj k H locs ls hP hQ hS hl)
  by_cases h25 : x = nI 25
  · subst h25
    exact fun H locs ls hP hQ hS hl => lv_tableIn (off := 916) (tgt := 949) C.1 C.2.1 dL_law_33 (by decide) (by decide) (by decide) (by decide) (la_c25 C hR hj k H locs ls hP hQ hS hl)
  by_cases h26 : x = nI 26
  · subst h26
    exact fun H locs ls hP hQ hS hl => lv_tableIn (off := 939) (tgt := 972) C.1 C.2.1 dL_law_33 (by decide) (by decide) (by decide) (by decide) (la_c26 C hR hj k H locs ls hP hQ hS hl)
  by_cases h27 : x = nI 27
  · subst h27
    exact fun H locs ls hP hQ hS hl => lv_tableIn (off := 972) (tgt := 1005) C.1 C.2.1 dL_law_33 (by decide) (by decide) (by decide) (by decide) (la_c27 C hR hj k H locs ls hP hQ hS hl)
  by_cases h28 : x = nI 28
  · subst h28
    exact fun H locs ls hP hQ hS hl => lv_tableIn (off := 995) (tgt := 1028) C.1 C.2.1 dL_law_33 (by decide) (by decide) (by decide) (by decide) (la_c28 C hR hj k H locs ls hP hQ hS hl)
  by_cases h29 : x = nI 29
  · subst h29
    exact fun H locs ls hP hQ hS hl => lv_tableIn (off := 1018) (tgt := 1051) C.1 C.2.1 dL_law_33 (by decide) (by decide) (by decide) (by decide) (la_c29 C hR hj k H locs ls hP hQ hS hl)
  by_cases h30 : x = nI 30
  · subst h30
    exact fun H locs ls hP hQ hS hl => lv_tableIn (off := 1041) (tgt := 1074) C.1 C.2.1 dL_law_33 (by decide) (by decide) (by decide) (by decide) (la_c30 C hR hj k H locs ls hP hQ hS hl)
  by_cases h31 : x = nI 31
  · subst h31
    exact fun H locs ls hP hQ hS hl => lv_tableIn (off := 1074) (tgt := 1107) C.1 C.2.1 dL_law_33 (by decide) (by decide) (by decide) (by decide) (la_c31 C hR hj k H locs ls hP hQ hS hl)
  by_cases h32 : x = nI 32
  · subst h32
    exact fun H locs ls hP hQ hS hl => lv_tableIn (off := 1097) (tgt := 1130) C.1 C.2.1 dL_law_33 (by decide) (by decide) (by decide) (by decide) (la_c32 C hR hj k H locs ls hP hQ hS hl)
  by_cases h33 : x = nI 33
  · subst h33
    exact fun H locs ls hP hQ hS hl => lv_tableIn (off := 1120) (tgt := 1153) C.1 C.2.1 dL_law_33 (by decide) (by decide) (by decide) (by decide) (la_c33 C hR hj k H locs ls hP hQ hS hl)
  by_cases h34 : x = nI 34
  · subst h34
    exact fun H locs ls hP hQ hS hl => lv_tableIn (off := 1143) (tgt := 1176) C.1 C.2.1 dL_law_33 (by decide) (by decide) (by decide) (by decide) (la_c34 C hR hj k H locs ls hP hQ hS hl)
  by_cases h35 : x = nI 35
  · subst h35
    exact fun H locs ls hP hQ hS hl => lv_tableIn (off := 1176) (tgt := 1209) C.1 C.2.1 dL_law_33 (by decide) (by decide) (by decide) (by decide) (la_c35 C hR hj k H locs ls hP hQ hS hl)
  by_cases h36 : x = nI 36
  · subst h36
    exact fun H locs ls hP hQ hS hl => lv_tableIn (off := 1199) (tgt := 1232) C.1 C.2.1 dL_law_33 (by decide) (by decide) (by decide) (by decide) (la_c36 C hR hj k H locs ls hP hQ hS hl)
  by_cases h37 : x = nI 37
  · subst h37
    exact fun H locs ls hP hQ hS hl => lv_tableIn (off := 1232) (tgt := 1265) C.1 C.2.1 dL_law_33 (by decide) (by decide) (by decide) (by decide) (la_c37 C hR hj k H locs ls hP hQ hS hl)
  by_cases h38 : x = nI 38
  · subst h38
    exact fun H locs ls hP hQ hS hl => lv_tableIn (off := 1245) (tgt := 1278) C.1 C.2.1 dL_law_33 (by decide) (by decide) (by decide) (by decide) (la_c38 C hR hj k H locs ls hP hQ hS hl)
  by_cases h39 : x = nI 39
  · subst h39
    exact fun H locs ls hP hQ hS hl => lv_tableIn (off := 1259) (tgt := 1292) C.1 C.2.1 dL_law_33 (by decide) (by decide) (by decide) (by decide) (la_c39 C hR hj k H locs ls hP hQ hS hl)
  by_cases h40 : x = nI 40
  · subst h40
    exact fun H locs ls hP hQ hS hl => lv_tableIn (off := 1273) (tgt := 1306) C.1 C.2.1 dL_law_33 (by decide) (by decide) (by decide) (by decide) (la_c40 C hR hj k H locs ls hP hQ hS hl)
  by_cases h41 : x = nI 41
  · subst h41
    exact fun H locs ls hP hQ hS hl => lv_tableIn (off := 1296) (tgt := 1329) C.1 C.2.1 dL_law_33 (by decide) (by decide) (by decide) (by decide) (la_c41 C hR hj k H locs ls hP hQ hS hl)
  by_cases h42 : x = nI 42
  · subst h42
    exact fun H locs ls hP hQ hS hl => lv_tableIn (off := 1309) (tgt := 1342) C.1 C.2.1 dL_law_33 (by decide) (by decide) (by decide) (by decide) (la_c42 C hR hj k H locs ls hP hQ hS hl)
  by_cases h43 : x = nI 43
  · subst h43
    exact fun H locs ls hP hQ hS hl => lv_tableIn (off := 1332) (tgt := 1365) C.1 C.2.1 dL_law_33 (by decide) (by decide) (by decide) (by decide) (la_c43 C hR hj k H locs ls hP hQ hS hl)
  obtain ⟨i, hi, rfl⟩ := hx
  have h44 : 43 < i := by
    rcases Nat.lt_or_ge 43 i with h | h
    · exact h
    · exfalso
      match i, h with
      | 0, _ => exact h0 rfl
      | 1, _ => exact h1 rfl
      | 2, _ => exact h2 rfl
      | 3, _ => exact h3 rfl
      | 4, _ => exact h4 rfl
      | 5, _ => exact h5 rfl
      | 6, _ => exact h6 rfl
      | 7, _ => exact h7 rfl
      | 8, _ => exact h8 rfl
      | 9, _ => exact h9 rfl
      | 10, _ => exact h10 rfl
      | 11, _ => exact h11 rfl
      | 12, _ => exact h12 rfl
      | 13, _ => exact h13 rfl
      | 14, _ => exact h14 rfl
      | 15, _ => exact h15 rfl
      | 16, _ => exact h16 rfl
      | 17, _ => exact h17 rfl
      | 18, _ => exact h18 rfl
      | 19, _ => exact h19 rfl
      | 20, _ => exact h20 rfl
      | 21, _ => exact h21 rfl
      | 22, _ => exact h22 rfl
      | 23, _ => exact h23 rfl
      | 24, _ => exact h24 rfl
      | 25, _ => exact h25 rfl
      | 26, _ => exact h26 rfl
      | 27, _ => exact h27 rfl
      | 28, _ => exact h28 rfl
      | 29, _ => exact h29 rfl
      | 30, _ => exact h30 rfl
      | 31, _ => exact h31 rfl
      | 32, _ => exact h32 rfl
      | 33, _ => exact h33 rfl
      | 34, _ => exact h34 rfl
      | 35, _ => exact h35 rfl
      | 36, _ => exact h36 rfl
      | 37, _ => exact h37 rfl
      | 38, _ => exact h38 rfl
      | 39, _ => exact h39 rfl
      | 40, _ => exact h40 rfl
      | 41, _ => exact h41 rfl
      | 42, _ => exact h42 rfl
      | 43, _ => exact h43 rfl
      | i + 44, h => omega
  exact fun H locs ls hP hQ hS hl => lv_tableOut (tgt := 1379) C.1 C.2.1 dL_law_33 (Or.inr (by rw [nI_toInt (by omega)]; omega)) (by decide) (k A B hR H locs ls hP hQ hS hl)
end LC
