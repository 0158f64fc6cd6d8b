-- made by wip/whole/mk_law2.py: the law's cases
section Lc
variable {X : Cx} {l : Launch} {b n : Nat} {xs : Nat → Int32} {j : Nat} {M : Mem}
abbrev LwI (X : Cx) (l : Launch) (b n : Nat) (xs : Nat → Int32) (j : Nat) : Prop := ∀ (w h : Nat) (mp dr hd : Nat → Nat) (wy : Nat) (vt : Nat → Nat) (M : Mem), Sf w h mp dr hd wy vt → CM w h mp dr hd wy vt M → SM w h mp dr hd wy vt M → LW X l b n xs 1045 (nI j) [] M
theorem lc_0 {w h : Nat} {mp dr hd : Nat → Nat} {wy : Nat} {vt : Nat → Nat} (hn : n ≤ 2560) (hj : j + 5 ≤ n) (ih : LwI X l b n xs j) (F : Sf w h mp dr hd wy vt) (C : CM w h mp dr hd wy vt M) (S : SM w h mp dr hd wy vt M) : LW X l b n xs 172 (nI j) [] M := by
  refine LW.ld1 d_law_172 ?_
  refine LW.arg 1 hn (by omega) (by decide) d_law_173 d_law_174 d_law_175 d_law_176 d_law_177 ?_
  refine LW.arg 2 hn (by omega) (by decide) d_law_178 d_law_179 d_law_180 d_law_181 d_law_182 ?_
  refine LW.call (As := [.int (xs (j + 1)), .int (xs (j + 2))]) (rest := []) sL_13 rfl rfl rfl rfl rfl (by decide) rfl d_law_183 (r_field F C (xs (j + 1)) (xs (j + 2))) (fun v M1 hq => ?_)
  obtain ⟨rfl, C1, N1⟩ := hq
  have S1 := S.fn N1
  refine LW.ld2 d_law_186 ?_
  refine LW.arg 1 hn (by omega) (by decide) d_law_187 d_law_188 d_law_189 d_law_190 d_law_191 ?_
  refine LW.arg 2 hn (by omega) (by decide) d_law_192 d_law_193 d_law_194 d_law_195 d_law_196 ?_
  refine LW.call (As := [.int (xs (j + 1)), .int (xs (j + 2))]) (rest := [.int _]) sL_17 rfl rfl rfl rfl rfl (by decide) rfl d_law_197 (p_field F S1 (xs (j + 1)) (xs (j + 2))) (fun v M2 hq => ?_)
  obtain ⟨rfl, S2, N2⟩ := hq
  have C2 := C1.fm N2
  refine LW.eq (tgt := 1045) d_law_200 (by decide) rfl ?_
  exact ih _ _ _ _ _ _ _ M2 (sf_field F (xs (j + 1)) (xs (j + 2))) C2 S2
theorem lc_1 {w h : Nat} {mp dr hd : Nat → Nat} {wy : Nat} {vt : Nat → Nat} (hn : n ≤ 2560) (hj : j + 5 ≤ n) (ih : LwI X l b n xs j) (F : Sf w h mp dr hd wy vt) (C : CM w h mp dr hd wy vt M) (S : SM w h mp dr hd wy vt M) : LW X l b n xs 205 (nI j) [] M := by
  refine LW.ld1 d_law_205 ?_
  refine LW.arg 1 hn (by omega) (by decide) d_law_206 d_law_207 d_law_208 d_law_209 d_law_210 ?_
  refine LW.boo d_law_211 d_law_214 d_law_215 d_law_218 ?_
  refine LW.arg 2 hn (by omega) (by decide) d_law_219 d_law_220 d_law_221 d_law_222 d_law_223 ?_
  refine LW.arg 3 hn (by omega) (by decide) d_law_224 d_law_225 d_law_226 d_law_227 d_law_228 ?_
  refine LW.call (As := [.int (if xs (j + 1) = 0 then 0 else 1), .int (xs (j + 2)), .int (xs (j + 3))]) (rest := []) sL_18 rfl rfl rfl rfl rfl (by decide) rfl d_law_229 (r_give F C (if xs (j + 1) = 0 then 0 else 1) (xs (j + 2)) (xs (j + 3))) (fun v M1 hq => ?_)
  obtain ⟨rfl, C1, N1⟩ := hq
  have S1 := S.fn N1
  refine LW.ld2 d_law_232 ?_
  refine LW.arg 1 hn (by omega) (by decide) d_law_233 d_law_234 d_law_235 d_law_236 d_law_237 ?_
  refine LW.boo d_law_238 d_law_241 d_law_242 d_law_245 ?_
  refine LW.arg 2 hn (by omega) (by decide) d_law_246 d_law_247 d_law_248 d_law_249 d_law_250 ?_
  refine LW.arg 3 hn (by omega) (by decide) d_law_251 d_law_252 d_law_253 d_law_254 d_law_255 ?_
  refine LW.call (As := [.int (if xs (j + 1) = 0 then 0 else 1), .int (xs (j + 2)), .int (xs (j + 3))]) (rest := [.int _]) sL_22 rfl rfl rfl rfl rfl (by decide) rfl d_law_256 (p_give F S1 (if xs (j + 1) = 0 then 0 else 1) (xs (j + 2)) (xs (j + 3))) (fun v M2 hq => ?_)
  obtain ⟨rfl, S2, N2⟩ := hq
  have C2 := C1.fm N2
  refine LW.eq (tgt := 1045) d_law_259 (by decide) rfl ?_
  exact ih _ _ _ _ _ _ _ M2 (sf_give F (if xs (j + 1) = 0 then 0 else 1) (xs (j + 2)) (xs (j + 3))) C2 S2
theorem lc_2 {w h : Nat} {mp dr hd : Nat → Nat} {wy : Nat} {vt : Nat → Nat} (hn : n ≤ 2560) (hj : j + 5 ≤ n) (ih : LwI X l b n xs j) (F : Sf w h mp dr hd wy vt) (C : CM w h mp dr hd wy vt M) (S : SM w h mp dr hd wy vt M) : LW X l b n xs 264 (nI j) [] M := by
  refine LW.ld1 d_law_264 ?_
  refine LW.arg 1 hn (by omega) (by decide) d_law_265 d_law_266 d_law_267 d_law_268 d_law_269 ?_
  refine LW.boo d_law_270 d_law_273 d_law_274 d_law_277 ?_
  refine LW.arg 2 hn (by omega) (by decide) d_law_278 d_law_279 d_law_280 d_law_281 d_law_282 ?_
  refine LW.arg 3 hn (by omega) (by decide) d_law_283 d_law_284 d_law_285 d_law_286 d_law_287 ?_
  refine LW.arg 4 hn (by omega) (by decide) d_law_288 d_law_289 d_law_290 d_law_291 d_law_292 ?_
  refine LW.call (As := [.int (if xs (j + 1) = 0 then 0 else 1), .int (xs (j + 2)), .int (xs (j + 3)), .int (xs (j + 4))]) (rest := []) sL_23 rfl rfl rfl rfl rfl (by decide) rfl d_law_293 (r_box F C (if xs (j + 1) = 0 then 0 else 1) (xs (j + 2)) (xs (j + 3)) (xs (j + 4))) (fun v M1 hq => ?_)
  obtain ⟨rfl, C1, N1⟩ := hq
  have S1 := S.fn N1
  refine LW.ld2 d_law_296 ?_
  refine LW.arg 1 hn (by omega) (by decide) d_law_297 d_law_298 d_law_299 d_law_300 d_law_301 ?_
  refine LW.boo d_law_302 d_law_305 d_law_306 d_law_309 ?_
  refine LW.arg 2 hn (by omega) (by decide) d_law_310 d_law_311 d_law_312 d_law_313 d_law_314 ?_
  refine LW.arg 3 hn (by omega) (by decide) d_law_315 d_law_316 d_law_317 d_law_318 d_law_319 ?_
  refine LW.arg 4 hn (by omega) (by decide) d_law_320 d_law_321 d_law_322 d_law_323 d_law_324 ?_
  refine LW.call (As := [.int (if xs (j + 1) = 0 then 0 else 1), .int (xs (j + 2)), .int (xs (j + 3)), .int (xs (j + 4))]) (rest := [.int _]) sL_27 rfl rfl rfl rfl rfl (by decide) rfl d_law_325 (p_box F S1 (if xs (j + 1) = 0 then 0 else 1) (xs (j + 2)) (xs (j + 3)) (xs (j + 4))) (fun v M2 hq => ?_)
  obtain ⟨rfl, S2, N2⟩ := hq
  have C2 := C1.fm N2
  refine LW.eq (tgt := 1045) d_law_328 (by decide) rfl ?_
  exact ih _ _ _ _ _ _ _ M2 (sf_box F (if xs (j + 1) = 0 then 0 else 1) (xs (j + 2)) (xs (j + 3)) (xs (j + 4))) C2 S2
theorem lc_3 {w h : Nat} {mp dr hd : Nat → Nat} {wy : Nat} {vt : Nat → Nat} (hn : n ≤ 2560) (hj : j + 5 ≤ n) (ih : LwI X l b n xs j) (F : Sf w h mp dr hd wy vt) (C : CM w h mp dr hd wy vt M) (S : SM w h mp dr hd wy vt M) : LW X l b n xs 333 (nI j) [] M := by
  refine LW.ld1 d_law_333 ?_
  refine LW.arg 1 hn (by omega) (by decide) d_law_334 d_law_335 d_law_336 d_law_337 d_law_338 ?_
  refine LW.boo d_law_339 d_law_342 d_law_343 d_law_346 ?_
  refine LW.arg 2 hn (by omega) (by decide) d_law_347 d_law_348 d_law_349 d_law_350 d_law_351 ?_
  refine LW.call (As := [.int (if xs (j + 1) = 0 then 0 else 1), .int (xs (j + 2))]) (rest := []) sL_28 rfl rfl rfl rfl rfl (by decide) rfl d_law_352 (r_at F C (if xs (j + 1) = 0 then 0 else 1) (xs (j + 2))) (fun v M1 hq => ?_)
  obtain ⟨rfl, C1, N1⟩ := hq
  have S1 := S.fn N1
  refine LW.ld2 d_law_355 ?_
  refine LW.arg 1 hn (by omega) (by decide) d_law_356 d_law_357 d_law_358 d_law_359 d_law_360 ?_
  refine LW.boo d_law_361 d_law_364 d_law_365 d_law_368 ?_
  refine LW.arg 2 hn (by omega) (by decide) d_law_369 d_law_370 d_law_371 d_law_372 d_law_373 ?_
  refine LW.call (As := [.int (if xs (j + 1) = 0 then 0 else 1), .int (xs (j + 2))]) (rest := [.int _]) sL_32 rfl rfl rfl rfl rfl (by decide) rfl d_law_374 (p_at F S1 (if xs (j + 1) = 0 then 0 else 1) (xs (j + 2))) (fun v M2 hq => ?_)
  obtain ⟨rfl, S2, N2⟩ := hq
  have C2 := C1.fm N2
  refine LW.eq (tgt := 1045) d_law_377 (by decide) rfl ?_
  exact ih _ _ _ _ _ _ _ M2 F C2 S2
theorem lc_4 {w h : Nat} {mp dr hd : Nat → Nat} {wy : Nat} {vt : Nat → Nat} (hn : n ≤ 2560) (hj : j + 5 ≤ n) (ih : LwI X l b n xs j) (F : Sf w h mp dr hd wy vt) (C : CM w h mp dr hd wy vt M) (S : SM w h mp dr hd wy vt M) : LW X l b n xs 382 (nI j) [] M := by
  refine LW.ld1 d_law_382 ?_
  refine LW.call (As := []) (rest := []) sL_33 rfl rfl rfl rfl rfl (by decide) rfl d_law_383 (r_trace F C ) (fun v M1 hq => ?_)
  obtain ⟨rfl, C1, N1⟩ := hq
  have S1 := S.fn N1
  refine LW.ld2 d_law_386 ?_
  refine LW.call (As := []) (rest := [.int _]) sL_37 rfl rfl rfl rfl rfl (by decide) rfl d_law_387 (p_trace F S1 ) (fun v M2 hq => ?_)
  obtain ⟨rfl, S2, N2⟩ := hq
  have C2 := C1.fm N2
  refine LW.eq (tgt := 1045) d_law_390 (by decide) rfl ?_
  exact ih _ _ _ _ _ _ _ M2 (sf_trace F ) C2 S2
theorem lc_5 {w h : Nat} {mp dr hd : Nat → Nat} {wy : Nat} {vt : Nat → Nat} (hn : n ≤ 2560) (hj : j + 5 ≤ n) (ih : LwI X l b n xs j) (F : Sf w h mp dr hd wy vt) (C : CM w h mp dr hd wy vt M) (S : SM w h mp dr hd wy vt M) : LW X l b n xs 395 (nI j) [] M := by
  refine LW.ld1 d_law_395 ?_
  refine LW.arg 1 hn (by omega) (by decide) d_law_396 d_law_397 d_law_398 d_law_399 d_law_400 ?_
  refine LW.boo d_law_401 d_law_404 d_law_405 d_law_408 ?_
  refine LW.arg 2 hn (by omega) (by decide) d_law_409 d_law_410 d_law_411 d_law_412 d_law_413 ?_
  refine LW.call (As := [.int (if xs (j + 1) = 0 then 0 else 1), .int (xs (j + 2))]) (rest := []) sL_38 rfl rfl rfl rfl rfl (by decide) rfl d_law_414 (r_cells F C (if xs (j + 1) = 0 then 0 else 1) (xs (j + 2))) (fun v M1 hq => ?_)
  obtain ⟨rfl, C1, N1⟩ := hq
  have S1 := S.fn N1
  refine LW.ld2 d_law_417 ?_
  refine LW.arg 1 hn (by omega) (by decide) d_law_418 d_law_419 d_law_420 d_law_421 d_law_422 ?_
  refine LW.boo d_law_423 d_law_426 d_law_427 d_law_430 ?_
  refine LW.arg 2 hn (by omega) (by decide) d_law_431 d_law_432 d_law_433 d_law_434 d_law_435 ?_
  refine LW.call (As := [.int (if xs (j + 1) = 0 then 0 else 1), .int (xs (j + 2))]) (rest := [.int _]) sL_41 rfl rfl rfl rfl rfl (by decide) rfl d_law_436 (p_cells F S1 (if xs (j + 1) = 0 then 0 else 1) (xs (j + 2))) (fun v M2 hq => ?_)
  obtain ⟨rfl, S2, N2⟩ := hq
  have C2 := C1.fm N2
  refine LW.eq (tgt := 1045) d_law_439 (by decide) rfl ?_
  exact ih _ _ _ _ _ _ _ M2 F C2 S2
theorem lc_6 {w h : Nat} {mp dr hd : Nat → Nat} {wy : Nat} {vt : Nat → Nat} (hn : n ≤ 2560) (hj : j + 5 ≤ n) (ih : LwI X l b n xs j) (F : Sf w h mp dr hd wy vt) (C : CM w h mp dr hd wy vt M) (S : SM w h mp dr hd wy vt M) : LW X l b n xs 444 (nI j) [] M := by
  refine LW.ld1 d_law_444 ?_
  refine LW.arg 1 hn (by omega) (by decide) d_law_445 d_law_446 d_law_447 d_law_448 d_law_449 ?_
  refine LW.arg 2 hn (by omega) (by decide) d_law_450 d_law_451 d_law_452 d_law_453 d_law_454 ?_
  refine LW.call (As := [.int (xs (j + 1)), .int (xs (j + 2))]) (rest := []) sL_42 rfl rfl rfl rfl rfl (by decide) rfl d_law_455 (r_heads F C (xs (j + 1)) (xs (j + 2))) (fun v M1 hq => ?_)
  obtain ⟨rfl, C1, N1⟩ := hq
  have S1 := S.fn N1
  refine LW.ld2 d_law_458 ?_
  refine LW.arg 1 hn (by omega) (by decide) d_law_459 d_law_460 d_law_461 d_law_462 d_law_463 ?_
  refine LW.arg 2 hn (by omega) (by decide) d_law_464 d_law_465 d_law_466 d_law_467 d_law_468 ?_
  refine LW.call (As := [.int (xs (j + 1)), .int (xs (j + 2))]) (rest := [.int _]) sL_45 rfl rfl rfl rfl rfl (by decide) rfl d_law_469 (p_heads F S1 (xs (j + 1)) (xs (j + 2))) (fun v M2 hq => ?_)
  obtain ⟨rfl, S2, N2⟩ := hq
  have C2 := C1.fm N2
  refine LW.eq (tgt := 1045) d_law_472 (by decide) rfl ?_
  exact ih _ _ _ _ _ _ _ M2 (sf_heads F (xs (j + 1)) (xs (j + 2))) C2 S2
theorem lc_7 {w h : Nat} {mp dr hd : Nat → Nat} {wy : Nat} {vt : Nat → Nat} (hn : n ≤ 2560) (hj : j + 5 ≤ n) (ih : LwI X l b n xs j) (F : Sf w h mp dr hd wy vt) (C : CM w h mp dr hd wy vt M) (S : SM w h mp dr hd wy vt M) : LW X l b n xs 477 (nI j) [] M := by
  refine LW.ld1 d_law_477 ?_
  refine LW.arg 1 hn (by omega) (by decide) d_law_478 d_law_479 d_law_480 d_law_481 d_law_482 ?_
  refine LW.call (As := [.int (xs (j + 1))]) (rest := []) sL_46 rfl rfl rfl rfl rfl (by decide) rfl d_law_483 (r_way F C (xs (j + 1))) (fun v M1 hq => ?_)
  obtain ⟨rfl, C1, N1⟩ := hq
  have S1 := S.fn N1
  refine LW.ld2 d_law_486 ?_
  refine LW.arg 1 hn (by omega) (by decide) d_law_487 d_law_488 d_law_489 d_law_490 d_law_491 ?_
  refine LW.call (As := [.int (xs (j + 1))]) (rest := [.int _]) sL_50 rfl rfl rfl rfl rfl (by decide) rfl d_law_492 (p_way F S1 (xs (j + 1))) (fun v M2 hq => ?_)
  obtain ⟨rfl, S2, N2⟩ := hq
  have C2 := C1.fm N2
  refine LW.eq (tgt := 1045) d_law_495 (by decide) rfl ?_
  exact ih _ _ _ _ _ _ _ M2 (sf_way F (xs (j + 1))) C2 S2
theorem lc_8 {w h : Nat} {mp dr hd : Nat → Nat} {wy : Nat} {vt : Nat → Nat} (hn : n ≤ 2560) (hj : j + 5 ≤ n) (ih : LwI X l b n xs j) (F : Sf w h mp dr hd wy vt) (C : CM w h mp dr hd wy vt M) (S : SM w h mp dr hd wy vt M) : LW X l b n xs 500 (nI j) [] M := by
  refine LW.ld1 d_law_500 ?_
  refine LW.arg 1 hn (by omega) (by decide) d_law_501 d_law_502 d_law_503 d_law_504 d_law_505 ?_
  refine LW.call (As := [.int (xs (j + 1))]) (rest := []) sL_51 rfl rfl rfl rfl rfl (by decide) rfl d_law_506 (r_due F C (xs (j + 1))) (fun v M1 hq => ?_)
  obtain ⟨rfl, C1, N1⟩ := hq
  have S1 := S.fn N1
  refine LW.ld2 d_law_509 ?_
  refine LW.arg 1 hn (by omega) (by decide) d_law_510 d_law_511 d_law_512 d_law_513 d_law_514 ?_
  refine LW.call (As := [.int (xs (j + 1))]) (rest := [.int _]) sL_54 rfl rfl rfl rfl rfl (by decide) rfl d_law_515 (p_due F S1 (xs (j + 1))) (fun v M2 hq => ?_)
  obtain ⟨rfl, S2, N2⟩ := hq
  have C2 := C1.fm N2
  refine LW.eq (tgt := 1045) d_law_518 (by decide) rfl ?_
  exact ih _ _ _ _ _ _ _ M2 F C2 S2
theorem lc_9 {w h : Nat} {mp dr hd : Nat → Nat} {wy : Nat} {vt : Nat → Nat} (hn : n ≤ 2560) (hj : j + 5 ≤ n) (ih : LwI X l b n xs j) (F : Sf w h mp dr hd wy vt) (C : CM w h mp dr hd wy vt M) (S : SM w h mp dr hd wy vt M) : LW X l b n xs 523 (nI j) [] M := by
  refine LW.ld1 d_law_523 ?_
  refine LW.arg 1 hn (by omega) (by decide) d_law_524 d_law_525 d_law_526 d_law_527 d_law_528 ?_
  refine LW.call (As := [.int (xs (j + 1))]) (rest := []) sL_55 rfl rfl rfl rfl rfl (by decide) rfl d_law_529 (r_parts F C (xs (j + 1))) (fun v M1 hq => ?_)
  obtain ⟨rfl, C1, N1⟩ := hq
  have S1 := S.fn N1
  refine LW.ld2 d_law_532 ?_
  refine LW.arg 1 hn (by omega) (by decide) d_law_533 d_law_534 d_law_535 d_law_536 d_law_537 ?_
  refine LW.call (As := [.int (xs (j + 1))]) (rest := [.int _]) sL_58 rfl rfl rfl rfl rfl (by decide) rfl d_law_538 (p_parts F S1 (xs (j + 1))) (fun v M2 hq => ?_)
  obtain ⟨rfl, S2, N2⟩ := hq
  have C2 := C1.fm N2
  refine LW.eq (tgt := 1045) d_law_541 (by decide) rfl ?_
  exact ih _ _ _ _ _ _ _ M2 F C2 S2
theorem lc_10 {w h : Nat} {mp dr hd : Nat → Nat} {wy : Nat} {vt : Nat → Nat} (hn : n ≤ 2560) (hj : j + 5 ≤ n) (ih : LwI X l b n xs j) (F : Sf w h mp dr hd wy vt) (C : CM w h mp dr hd wy vt M) (S : SM w h mp dr hd wy vt M) : LW X l b n xs 546 (nI j) [] M := by
  refine LW.ld1 d_law_546 ?_
  refine LW.arg 1 hn (by omega) (by decide) d_law_547 d_law_548 d_law_549 d_law_550 d_law_551 ?_
  refine LW.boo d_law_552 d_law_555 d_law_556 d_law_559 ?_
  refine LW.arg 2 hn (by omega) (by decide) d_law_560 d_law_561 d_law_562 d_law_563 d_law_564 ?_
  refine LW.arg 3 hn (by omega) (by decide) d_law_565 d_law_566 d_law_567 d_law_568 d_law_569 ?_
  refine LW.call (As := [.int (if xs (j + 1) = 0 then 0 else 1), .int (xs (j + 2)), .int (xs (j + 3))]) (rest := []) sL_59 rfl rfl rfl rfl rfl (by decide) rfl d_law_570 (r_beside F C (if xs (j + 1) = 0 then 0 else 1) (xs (j + 2)) (xs (j + 3))) (fun v M1 hq => ?_)
  obtain ⟨rfl, C1, N1⟩ := hq
  have S1 := S.fn N1
  refine LW.ld2 d_law_573 ?_
  refine LW.arg 1 hn (by omega) (by decide) d_law_574 d_law_575 d_law_576 d_law_577 d_law_578 ?_
  refine LW.boo d_law_579 d_law_582 d_law_583 d_law_586 ?_
  refine LW.arg 2 hn (by omega) (by decide) d_law_587 d_law_588 d_law_589 d_law_590 d_law_591 ?_
  refine LW.arg 3 hn (by omega) (by decide) d_law_592 d_law_593 d_law_594 d_law_595 d_law_596 ?_
  refine LW.call (As := [.int (if xs (j + 1) = 0 then 0 else 1), .int (xs (j + 2)), .int (xs (j + 3))]) (rest := [.int _]) sL_62 rfl rfl rfl rfl rfl (by decide) rfl d_law_597 (p_beside F S1 (if xs (j + 1) = 0 then 0 else 1) (xs (j + 2)) (xs (j + 3))) (fun v M2 hq => ?_)
  obtain ⟨rfl, S2, N2⟩ := hq
  have C2 := C1.fm N2
  refine LW.eq (tgt := 1045) d_law_600 (by decide) rfl ?_
  exact ih _ _ _ _ _ _ _ M2 F C2 S2
theorem lc_11 {w h : Nat} {mp dr hd : Nat → Nat} {wy : Nat} {vt : Nat → Nat} (hn : n ≤ 2560) (hj : j + 5 ≤ n) (ih : LwI X l b n xs j) (F : Sf w h mp dr hd wy vt) (C : CM w h mp dr hd wy vt M) (S : SM w h mp dr hd wy vt M) : LW X l b n xs 605 (nI j) [] M := by
  refine LW.ld1 d_law_605 ?_
  refine LW.call (As := []) (rest := []) sL_63 rfl rfl rfl rfl rfl (by decide) rfl d_law_606 (r_faults F C ) (fun v M1 hq => ?_)
  obtain ⟨rfl, C1, N1⟩ := hq
  have S1 := S.fn N1
  refine LW.ld2 d_law_609 ?_
  refine LW.call (As := []) (rest := [.int _]) sL_66 rfl rfl rfl rfl rfl (by decide) rfl d_law_610 (p_faults F S1 ) (fun v M2 hq => ?_)
  obtain ⟨rfl, S2, N2⟩ := hq
  have C2 := C1.fm N2
  refine LW.eq (tgt := 1045) d_law_613 (by decide) rfl ?_
  exact ih _ _ _ _ _ _ _ M2 F C2 S2
theorem lc_12 {w h : Nat} {mp dr hd : Nat → Nat} {wy : Nat} {vt : Nat → Nat} (hn : n ≤ 2560) (hj : j + 5 ≤ n) (ih : LwI X l b n xs j) (F : Sf w h mp dr hd wy vt) (C : CM w h mp dr hd wy vt M) (S : SM w h mp dr hd wy vt M) : LW X l b n xs 618 (nI j) [] M := by
  refine LW.ld1 d_law_618 ?_
  refine LW.arg 1 hn (by omega) (by decide) d_law_619 d_law_620 d_law_621 d_law_622 d_law_623 ?_
  refine LW.arg 2 hn (by omega) (by decide) d_law_624 d_law_625 d_law_626 d_law_627 d_law_628 ?_
  refine LW.call (As := [.int (xs (j + 1)), .int (xs (j + 2))]) (rest := []) sL_67 rfl rfl rfl rfl rfl (by decide) rfl d_law_629 (r_would F C (xs (j + 1)) (xs (j + 2))) (fun v M1 hq => ?_)
  obtain ⟨rfl, C1, N1⟩ := hq
  have S1 := S.fn N1
  refine LW.ld2 d_law_632 ?_
  refine LW.arg 1 hn (by omega) (by decide) d_law_633 d_law_634 d_law_635 d_law_636 d_law_637 ?_
  refine LW.arg 2 hn (by omega) (by decide) d_law_638 d_law_639 d_law_640 d_law_641 d_law_642 ?_
  refine LW.call (As := [.int (xs (j + 1)), .int (xs (j + 2))]) (rest := [.int _]) sL_70 rfl rfl rfl rfl rfl (by decide) rfl d_law_643 (p_would F S1 (xs (j + 1)) (xs (j + 2))) (fun v M2 hq => ?_)
  obtain ⟨rfl, S2, N2⟩ := hq
  have C2 := C1.fm N2
  refine LW.eq (tgt := 1045) d_law_646 (by decide) rfl ?_
  exact ih _ _ _ _ _ _ _ M2 F C2 S2
theorem lc_13 {w h : Nat} {mp dr hd : Nat → Nat} {wy : Nat} {vt : Nat → Nat} (hn : n ≤ 2560) (hj : j + 5 ≤ n) (ih : LwI X l b n xs j) (F : Sf w h mp dr hd wy vt) (C : CM w h mp dr hd wy vt M) (S : SM w h mp dr hd wy vt M) : LW X l b n xs 651 (nI j) [] M := by
  refine LW.ld1 d_law_651 ?_
  refine LW.call (As := []) (rest := []) sL_71 rfl rfl rfl rfl rfl (by decide) rfl d_law_652 (r_mend F C ) (fun v M1 hq => ?_)
  obtain ⟨rfl, C1, N1⟩ := hq
  have S1 := S.fn N1
  refine LW.ld2 d_law_655 ?_
  refine LW.call (As := []) (rest := [.int _]) sL_74 rfl rfl rfl rfl rfl (by decide) rfl d_law_656 (p_mend F S1 ) (fun v M2 hq => ?_)
  obtain ⟨rfl, S2, N2⟩ := hq
  have C2 := C1.fm N2
  refine LW.eq (tgt := 1045) d_law_659 (by decide) rfl ?_
  exact ih _ _ _ _ _ _ _ M2 (sf_mend F ) C2 S2
theorem lc_14 {w h : Nat} {mp dr hd : Nat → Nat} {wy : Nat} {vt : Nat → Nat} (hn : n ≤ 2560) (hj : j + 5 ≤ n) (ih : LwI X l b n xs j) (F : Sf w h mp dr hd wy vt) (C : CM w h mp dr hd wy vt M) (S : SM w h mp dr hd wy vt M) : LW X l b n xs 664 (nI j) [] M := by
  refine LW.ld1 d_law_664 ?_
  refine LW.arg 1 hn (by omega) (by decide) d_law_665 d_law_666 d_law_667 d_law_668 d_law_669 ?_
  refine LW.arg 2 hn (by omega) (by decide) d_law_670 d_law_671 d_law_672 d_law_673 d_law_674 ?_
  refine LW.call (As := [.int (xs (j + 1)), .int (xs (j + 2))]) (rest := []) sL_75 rfl rfl rfl rfl rfl (by decide) rfl d_law_675 (r_mayHand F C (xs (j + 1)) (xs (j + 2))) (fun v M1 hq => ?_)
  obtain ⟨rfl, C1, N1⟩ := hq
  have S1 := S.fn N1
  refine LW.ld2 d_law_678 ?_
  refine LW.arg 1 hn (by omega) (by decide) d_law_679 d_law_680 d_law_681 d_law_682 d_law_683 ?_
  refine LW.arg 2 hn (by omega) (by decide) d_law_684 d_law_685 d_law_686 d_law_687 d_law_688 ?_
  refine LW.call (As := [.int (xs (j + 1)), .int (xs (j + 2))]) (rest := [.int _]) sL_78 rfl rfl rfl rfl rfl (by decide) rfl d_law_689 (p_mayHand F S1 (xs (j + 1)) (xs (j + 2))) (fun v M2 hq => ?_)
  obtain ⟨rfl, S2, N2⟩ := hq
  have C2 := C1.fm N2
  refine LW.eq (tgt := 1045) d_law_692 (by decide) rfl ?_
  exact ih _ _ _ _ _ _ _ M2 F C2 S2
theorem lc_15 {w h : Nat} {mp dr hd : Nat → Nat} {wy : Nat} {vt : Nat → Nat} (hn : n ≤ 2560) (hj : j + 5 ≤ n) (ih : LwI X l b n xs j) (F : Sf w h mp dr hd wy vt) (C : CM w h mp dr hd wy vt M) (S : SM w h mp dr hd wy vt M) : LW X l b n xs 697 (nI j) [] M := by
  refine LW.ld1 d_law_697 ?_
  refine LW.arg 1 hn (by omega) (by decide) d_law_698 d_law_699 d_law_700 d_law_701 d_law_702 ?_
  refine LW.arg 2 hn (by omega) (by decide) d_law_703 d_law_704 d_law_705 d_law_706 d_law_707 ?_
  refine LW.call (As := [.int (xs (j + 1)), .int (xs (j + 2))]) (rest := []) sL_79 rfl rfl rfl rfl rfl (by decide) rfl d_law_708 (r_hand F C (xs (j + 1)) (xs (j + 2))) (fun v M1 hq => ?_)
  obtain ⟨rfl, C1, N1⟩ := hq
  have S1 := S.fn N1
  refine LW.ld2 d_law_711 ?_
  refine LW.arg 1 hn (by omega) (by decide) d_law_712 d_law_713 d_law_714 d_law_715 d_law_716 ?_
  refine LW.arg 2 hn (by omega) (by decide) d_law_717 d_law_718 d_law_719 d_law_720 d_law_721 ?_
  refine LW.call (As := [.int (xs (j + 1)), .int (xs (j + 2))]) (rest := [.int _]) sL_82 rfl rfl rfl rfl rfl (by decide) rfl d_law_722 (p_hand F S1 (xs (j + 1)) (xs (j + 2))) (fun v M2 hq => ?_)
  obtain ⟨rfl, S2, N2⟩ := hq
  have C2 := C1.fm N2
  refine LW.eq (tgt := 1045) d_law_725 (by decide) rfl ?_
  exact ih _ _ _ _ _ _ _ M2 (sf_hand F (xs (j + 1)) (xs (j + 2))) C2 S2
theorem lc_16 {w h : Nat} {mp dr hd : Nat → Nat} {wy : Nat} {vt : Nat → Nat} (hn : n ≤ 2560) (hj : j + 5 ≤ n) (ih : LwI X l b n xs j) (F : Sf w h mp dr hd wy vt) (C : CM w h mp dr hd wy vt M) (S : SM w h mp dr hd wy vt M) : LW X l b n xs 730 (nI j) [] M := by
  refine LW.ld1 d_law_730 ?_
  refine LW.call (As := []) (rest := []) sL_83 rfl rfl rfl rfl rfl (by decide) rfl d_law_731 (r_chain F C ) (fun v M1 hq => ?_)
  obtain ⟨rfl, C1, N1⟩ := hq
  have S1 := S.fn N1
  refine LW.ld2 d_law_734 ?_
  refine LW.call (As := []) (rest := [.int _]) sL_86 rfl rfl rfl rfl rfl (by decide) rfl d_law_735 (p_chain F S1 ) (fun v M2 hq => ?_)
  obtain ⟨rfl, S2, N2⟩ := hq
  have C2 := C1.fm N2
  refine LW.eq (tgt := 1045) d_law_738 (by decide) rfl ?_
  exact ih _ _ _ _ _ _ _ M2 F C2 S2
theorem lc_17 {w h : Nat} {mp dr hd : Nat → Nat} {wy : Nat} {vt : Nat → Nat} (hn : n ≤ 2560) (hj : j + 5 ≤ n) (ih : LwI X l b n xs j) (F : Sf w h mp dr hd wy vt) (C : CM w h mp dr hd wy vt M) (S : SM w h mp dr hd wy vt M) : LW X l b n xs 743 (nI j) [] M := by
  refine LW.ld1 d_law_743 ?_
  refine LW.arg 1 hn (by omega) (by decide) d_law_744 d_law_745 d_law_746 d_law_747 d_law_748 ?_
  refine LW.call (As := [.int (xs (j + 1))]) (rest := []) sL_87 rfl rfl rfl rfl rfl (by decide) rfl d_law_749 (r_link F C (xs (j + 1))) (fun v M1 hq => ?_)
  obtain ⟨rfl, C1, N1⟩ := hq
  have S1 := S.fn N1
  refine LW.ld2 d_law_752 ?_
  refine LW.arg 1 hn (by omega) (by decide) d_law_753 d_law_754 d_law_755 d_law_756 d_law_757 ?_
  refine LW.call (As := [.int (xs (j + 1))]) (rest := [.int _]) sL_90 rfl rfl rfl rfl rfl (by decide) rfl d_law_758 (p_link F S1 (xs (j + 1))) (fun v M2 hq => ?_)
  obtain ⟨rfl, S2, N2⟩ := hq
  have C2 := C1.fm N2
  refine LW.eq (tgt := 1045) d_law_761 (by decide) rfl ?_
  exact ih _ _ _ _ _ _ _ M2 F C2 S2
theorem lc_18 {w h : Nat} {mp dr hd : Nat → Nat} {wy : Nat} {vt : Nat → Nat} (hn : n ≤ 2560) (hj : j + 5 ≤ n) (ih : LwI X l b n xs j) (F : Sf w h mp dr hd wy vt) (C : CM w h mp dr hd wy vt M) (S : SM w h mp dr hd wy vt M) : LW X l b n xs 766 (nI j) [] M := by
  refine LW.ld1 d_law_766 ?_
  refine LW.call (As := []) (rest := []) sL_91 rfl rfl rfl rfl rfl (by decide) rfl d_law_767 (r_pass F C ) (fun v M1 hq => ?_)
  obtain ⟨rfl, C1, N1⟩ := hq
  have S1 := S.fn N1
  refine LW.ld2 d_law_770 ?_
  refine LW.call (As := []) (rest := [.int _]) sL_94 rfl rfl rfl rfl rfl (by decide) rfl d_law_771 (p_pass F S1 ) (fun v M2 hq => ?_)
  obtain ⟨rfl, S2, N2⟩ := hq
  have C2 := C1.fm N2
  refine LW.eq (tgt := 1045) d_law_774 (by decide) rfl ?_
  exact ih _ _ _ _ _ _ _ M2 (sf_pass F ) C2 S2
theorem lc_19 {w h : Nat} {mp dr hd : Nat → Nat} {wy : Nat} {vt : Nat → Nat} (hn : n ≤ 2560) (hj : j + 5 ≤ n) (ih : LwI X l b n xs j) (F : Sf w h mp dr hd wy vt) (C : CM w h mp dr hd wy vt M) (S : SM w h mp dr hd wy vt M) : LW X l b n xs 779 (nI j) [] M := by
  refine LW.ld1 d_law_779 ?_
  refine LW.call (As := []) (rest := []) sL_95 rfl rfl rfl rfl rfl (by decide) rfl d_law_780 (r_settle F C ) (fun v M1 hq => ?_)
  obtain ⟨rfl, C1, N1⟩ := hq
  have S1 := S.fn N1
  refine LW.ld2 d_law_783 ?_
  refine LW.call (As := []) (rest := [.int _]) sL_98 rfl rfl rfl rfl rfl (by decide) rfl d_law_784 (p_settle F S1 ) (fun v M2 hq => ?_)
  obtain ⟨rfl, S2, N2⟩ := hq
  have C2 := C1.fm N2
  refine LW.eq (tgt := 1045) d_law_787 (by decide) rfl ?_
  exact ih _ _ _ _ _ _ _ M2 (sf_settle F ) C2 S2
theorem lc_20 {w h : Nat} {mp dr hd : Nat → Nat} {wy : Nat} {vt : Nat → Nat} (hn : n ≤ 2560) (hj : j + 5 ≤ n) (ih : LwI X l b n xs j) (F : Sf w h mp dr hd wy vt) (C : CM w h mp dr hd wy vt M) (S : SM w h mp dr hd wy vt M) : LW X l b n xs 792 (nI j) [] M := by
  refine LW.ld1 d_law_792 ?_
  refine LW.call (As := []) (rest := []) sL_99 rfl rfl rfl rfl rfl (by decide) rfl d_law_793 (r_changed F C ) (fun v M1 hq => ?_)
  obtain ⟨rfl, C1, N1⟩ := hq
  have S1 := S.fn N1
  refine LW.ld2 d_law_796 ?_
  refine LW.call (As := []) (rest := [.int _]) sL_102 rfl rfl rfl rfl rfl (by decide) rfl d_law_797 (p_changed F S1 ) (fun v M2 hq => ?_)
  obtain ⟨rfl, S2, N2⟩ := hq
  have C2 := C1.fm N2
  refine LW.eq (tgt := 1045) d_law_800 (by decide) rfl ?_
  exact ih _ _ _ _ _ _ _ M2 F C2 S2
theorem lc_21 {w h : Nat} {mp dr hd : Nat → Nat} {wy : Nat} {vt : Nat → Nat} (hn : n ≤ 2560) (hj : j + 5 ≤ n) (ih : LwI X l b n xs j) (F : Sf w h mp dr hd wy vt) (C : CM w h mp dr hd wy vt M) (S : SM w h mp dr hd wy vt M) : LW X l b n xs 805 (nI j) [] M := by
  refine LW.ld1 d_law_805 ?_
  refine LW.arg 1 hn (by omega) (by decide) d_law_806 d_law_807 d_law_808 d_law_809 d_law_810 ?_
  refine LW.call (As := [.int (xs (j + 1))]) (rest := []) sL_103 rfl rfl rfl rfl rfl (by decide) rfl d_law_811 (r_carried F C (xs (j + 1))) (fun v M1 hq => ?_)
  obtain ⟨rfl, C1, N1⟩ := hq
  have S1 := S.fn N1
  refine LW.ld2 d_law_814 ?_
  refine LW.arg 1 hn (by omega) (by decide) d_law_815 d_law_816 d_law_817 d_law_818 d_law_819 ?_
  refine LW.call (As := [.int (xs (j + 1))]) (rest := [.int _]) sL_106 rfl rfl rfl rfl rfl (by decide) rfl d_law_820 (p_carried F S1 (xs (j + 1))) (fun v M2 hq => ?_)
  obtain ⟨rfl, S2, N2⟩ := hq
  have C2 := C1.fm N2
  refine LW.eq (tgt := 1045) d_law_823 (by decide) rfl ?_
  exact ih _ _ _ _ _ _ _ M2 F C2 S2
theorem lc_22 {w h : Nat} {mp dr hd : Nat → Nat} {wy : Nat} {vt : Nat → Nat} (hn : n ≤ 2560) (hj : j + 5 ≤ n) (ih : LwI X l b n xs j) (F : Sf w h mp dr hd wy vt) (C : CM w h mp dr hd wy vt M) (S : SM w h mp dr hd wy vt M) : LW X l b n xs 828 (nI j) [] M := by
  refine LW.ld1 d_law_828 ?_
  refine LW.call (As := []) (rest := []) sL_107 rfl rfl rfl rfl rfl (by decide) rfl d_law_829 (r_off F C ) (fun v M1 hq => ?_)
  obtain ⟨rfl, C1, N1⟩ := hq
  have S1 := S.fn N1
  refine LW.ld2 d_law_832 ?_
  refine LW.call (As := []) (rest := [.int _]) sL_110 rfl rfl rfl rfl rfl (by decide) rfl d_law_833 (p_off F S1 ) (fun v M2 hq => ?_)
  obtain ⟨rfl, S2, N2⟩ := hq
  have C2 := C1.fm N2
  refine LW.eq (tgt := 1045) d_law_836 (by decide) rfl ?_
  exact ih _ _ _ _ _ _ _ M2 F C2 S2
theorem lc_23 {w h : Nat} {mp dr hd : Nat → Nat} {wy : Nat} {vt : Nat → Nat} (hn : n ≤ 2560) (hj : j + 5 ≤ n) (ih : LwI X l b n xs j) (F : Sf w h mp dr hd wy vt) (C : CM w h mp dr hd wy vt M) (S : SM w h mp dr hd wy vt M) : LW X l b n xs 841 (nI j) [] M := by
  refine LW.ld1 d_law_841 ?_
  refine LW.arg 1 hn (by omega) (by decide) d_law_842 d_law_843 d_law_844 d_law_845 d_law_846 ?_
  refine LW.call (As := [.int (xs (j + 1))]) (rest := []) sL_111 rfl rfl rfl rfl rfl (by decide) rfl d_law_847 (r_tile F C (xs (j + 1))) (fun v M1 hq => ?_)
  obtain ⟨rfl, C1, N1⟩ := hq
  have S1 := S.fn N1
  refine LW.ld2 d_law_850 ?_
  refine LW.arg 1 hn (by omega) (by decide) d_law_851 d_law_852 d_law_853 d_law_854 d_law_855 ?_
  refine LW.call (As := [.int (xs (j + 1))]) (rest := [.int _]) sL_114 rfl rfl rfl rfl rfl (by decide) rfl d_law_856 (p_tile F S1 (xs (j + 1))) (fun v M2 hq => ?_)
  obtain ⟨rfl, S2, N2⟩ := hq
  have C2 := C1.fm N2
  refine LW.eq (tgt := 1045) d_law_859 (by decide) rfl ?_
  exact ih _ _ _ _ _ _ _ M2 F C2 S2
theorem lc_24 {w h : Nat} {mp dr hd : Nat → Nat} {wy : Nat} {vt : Nat → Nat} (hn : n ≤ 2560) (hj : j + 5 ≤ n) (ih : LwI X l b n xs j) (F : Sf w h mp dr hd wy vt) (C : CM w h mp dr hd wy vt M) (S : SM w h mp dr hd wy vt M) : LW X l b n xs 864 (nI j) [] M := by
  refine LW.ld1 d_law_864 ?_
  refine LW.call (As := []) (rest := []) sL_115 rfl rfl rfl rfl rfl (by decide) rfl d_law_865 (r_kept F C ) (fun v M1 hq => ?_)
  obtain ⟨rfl, C1, N1⟩ := hq
  have S1 := S.fn N1
  refine LW.ld2 d_law_868 ?_
  refine LW.call (As := []) (rest := [.int _]) sL_118 rfl rfl rfl rfl rfl (by decide) rfl d_law_869 (p_kept F S1 ) (fun v M2 hq => ?_)
  obtain ⟨rfl, S2, N2⟩ := hq
  have C2 := C1.fm N2
  refine LW.eq (tgt := 1045) d_law_872 (by decide) rfl ?_
  exact ih _ _ _ _ _ _ _ M2 F C2 S2
theorem lc_25 {w h : Nat} {mp dr hd : Nat → Nat} {wy : Nat} {vt : Nat → Nat} (hn : n ≤ 2560) (hj : j + 5 ≤ n) (ih : LwI X l b n xs j) (F : Sf w h mp dr hd wy vt) (C : CM w h mp dr hd wy vt M) (S : SM w h mp dr hd wy vt M) : LW X l b n xs 877 (nI j) [] M := by
  refine LW.ld1 d_law_877 ?_
  refine LW.arg 1 hn (by omega) (by decide) d_law_878 d_law_879 d_law_880 d_law_881 d_law_882 ?_
  refine LW.arg 2 hn (by omega) (by decide) d_law_883 d_law_884 d_law_885 d_law_886 d_law_887 ?_
  refine LW.arg 3 hn (by omega) (by decide) d_law_888 d_law_889 d_law_890 d_law_891 d_law_892 ?_
  refine LW.call (As := [.int (xs (j + 1)), .int (xs (j + 2)), .int (xs (j + 3))]) (rest := []) sL_119 rfl rfl rfl rfl rfl (by decide) rfl d_law_893 (r_votes F C (xs (j + 1)) (xs (j + 2)) (xs (j + 3))) (fun v M1 hq => ?_)
  obtain ⟨rfl, C1, N1⟩ := hq
  have S1 := S.fn N1
  refine LW.ld2 d_law_896 ?_
  refine LW.arg 1 hn (by omega) (by decide) d_law_897 d_law_898 d_law_899 d_law_900 d_law_901 ?_
  refine LW.arg 2 hn (by omega) (by decide) d_law_902 d_law_903 d_law_904 d_law_905 d_law_906 ?_
  refine LW.arg 3 hn (by omega) (by decide) d_law_907 d_law_908 d_law_909 d_law_910 d_law_911 ?_
  refine LW.call (As := [.int (xs (j + 1)), .int (xs (j + 2)), .int (xs (j + 3))]) (rest := [.int _]) sL_123 rfl rfl rfl rfl rfl (by decide) rfl d_law_912 (p_votes F S1 (xs (j + 1)) (xs (j + 2)) (xs (j + 3))) (fun v M2 hq => ?_)
  obtain ⟨rfl, S2, N2⟩ := hq
  have C2 := C1.fm N2
  refine LW.eq (tgt := 1045) d_law_915 (by decide) rfl ?_
  exact ih _ _ _ _ _ _ _ M2 (sf_votes F (xs (j + 1)) (xs (j + 2)) (xs (j + 3))) C2 S2
theorem lc_26 {w h : Nat} {mp dr hd : Nat → Nat} {wy : Nat} {vt : Nat → Nat} (hn : n ≤ 2560) (hj : j + 5 ≤ n) (ih : LwI X l b n xs j) (F : Sf w h mp dr hd wy vt) (C : CM w h mp dr hd wy vt M) (S : SM w h mp dr hd wy vt M) : LW X l b n xs 920 (nI j) [] M := by
  refine LW.ld1 d_law_920 ?_
  refine LW.arg 1 hn (by omega) (by decide) d_law_921 d_law_922 d_law_923 d_law_924 d_law_925 ?_
  refine LW.call (As := [.int (xs (j + 1))]) (rest := []) sL_124 rfl rfl rfl rfl rfl (by decide) rfl d_law_926 (r_won F C (xs (j + 1))) (fun v M1 hq => ?_)
  obtain ⟨rfl, C1, N1⟩ := hq
  have S1 := S.fn N1
  refine LW.ld2 d_law_929 ?_
  refine LW.arg 1 hn (by omega) (by decide) d_law_930 d_law_931 d_law_932 d_law_933 d_law_934 ?_
  refine LW.call (As := [.int (xs (j + 1))]) (rest := [.int _]) sL_127 rfl rfl rfl rfl rfl (by decide) rfl d_law_935 (p_won F S1 (xs (j + 1))) (fun v M2 hq => ?_)
  obtain ⟨rfl, S2, N2⟩ := hq
  have C2 := C1.fm N2
  refine LW.eq (tgt := 1045) d_law_938 (by decide) rfl ?_
  exact ih _ _ _ _ _ _ _ M2 F C2 S2
theorem lc_27 {w h : Nat} {mp dr hd : Nat → Nat} {wy : Nat} {vt : Nat → Nat} (hn : n ≤ 2560) (hj : j + 5 ≤ n) (ih : LwI X l b n xs j) (F : Sf w h mp dr hd wy vt) (C : CM w h mp dr hd wy vt M) (S : SM w h mp dr hd wy vt M) : LW X l b n xs 943 (nI j) [] M := by
  refine LW.ld1 d_law_943 ?_
  refine LW.arg 1 hn (by omega) (by decide) d_law_944 d_law_945 d_law_946 d_law_947 d_law_948 ?_
  refine LW.arg 2 hn (by omega) (by decide) d_law_949 d_law_950 d_law_951 d_law_952 d_law_953 ?_
  refine LW.call (As := [.int (xs (j + 1)), .int (xs (j + 2))]) (rest := []) sL_128 rfl rfl rfl rfl rfl (by decide) rfl d_law_954 (r_has F C (xs (j + 1)) (xs (j + 2))) (fun v M1 hq => ?_)
  obtain ⟨rfl, C1, N1⟩ := hq
  have S1 := S.fn N1
  refine LW.ld2 d_law_957 ?_
  refine LW.arg 1 hn (by omega) (by decide) d_law_958 d_law_959 d_law_960 d_law_961 d_law_962 ?_
  refine LW.arg 2 hn (by omega) (by decide) d_law_963 d_law_964 d_law_965 d_law_966 d_law_967 ?_
  refine LW.call (As := [.int (xs (j + 1)), .int (xs (j + 2))]) (rest := [.int _]) sL_131 rfl rfl rfl rfl rfl (by decide) rfl d_law_968 (p_has F S1 (xs (j + 1)) (xs (j + 2))) (fun v M2 hq => ?_)
  obtain ⟨rfl, S2, N2⟩ := hq
  have C2 := C1.fm N2
  refine LW.eq (tgt := 1045) d_law_971 (by decide) rfl ?_
  exact ih _ _ _ _ _ _ _ M2 F C2 S2
theorem lc_28 {w h : Nat} {mp dr hd : Nat → Nat} {wy : Nat} {vt : Nat → Nat} (hn : n ≤ 2560) (hj : j + 5 ≤ n) (ih : LwI X l b n xs j) (F : Sf w h mp dr hd wy vt) (C : CM w h mp dr hd wy vt M) (S : SM w h mp dr hd wy vt M) : LW X l b n xs 976 (nI j) [] M := by
  refine LW.ld1 d_law_976 ?_
  refine LW.arg 1 hn (by omega) (by decide) d_law_977 d_law_978 d_law_979 d_law_980 d_law_981 ?_
  refine LW.call (As := [.int (xs (j + 1))]) (rest := []) sL_132 rfl rfl rfl rfl rfl (by decide) rfl d_law_982 (r_ahead F C (xs (j + 1))) (fun v M1 hq => ?_)
  obtain ⟨rfl, C1, N1⟩ := hq
  have S1 := S.fn N1
  refine LW.ld2 d_law_985 ?_
  refine LW.arg 1 hn (by omega) (by decide) d_law_986 d_law_987 d_law_988 d_law_989 d_law_990 ?_
  refine LW.call (As := [.int (xs (j + 1))]) (rest := [.int _]) sL_135 rfl rfl rfl rfl rfl (by decide) rfl d_law_991 (p_ahead F S1 (xs (j + 1))) (fun v M2 hq => ?_)
  obtain ⟨rfl, S2, N2⟩ := hq
  have C2 := C1.fm N2
  refine LW.eq (tgt := 1045) d_law_994 (by decide) rfl ?_
  exact ih _ _ _ _ _ _ _ M2 F C2 S2
theorem lc_29 {w h : Nat} {mp dr hd : Nat → Nat} {wy : Nat} {vt : Nat → Nat} (hn : n ≤ 2560) (hj : j + 5 ≤ n) (ih : LwI X l b n xs j) (F : Sf w h mp dr hd wy vt) (C : CM w h mp dr hd wy vt M) (S : SM w h mp dr hd wy vt M) : LW X l b n xs 999 (nI j) [] M := by
  refine LW.ld1 d_law_999 ?_
  refine LW.arg 1 hn (by omega) (by decide) d_law_1000 d_law_1001 d_law_1002 d_law_1003 d_law_1004 ?_
  refine LW.call (As := [.int (xs (j + 1))]) (rest := []) sL_136 rfl rfl rfl rfl rfl (by decide) rfl d_law_1005 (r_turn F C (xs (j + 1))) (fun v M1 hq => ?_)
  obtain ⟨rfl, C1, N1⟩ := hq
  have S1 := S.fn N1
  refine LW.ld2 d_law_1008 ?_
  refine LW.arg 1 hn (by omega) (by decide) d_law_1009 d_law_1010 d_law_1011 d_law_1012 d_law_1013 ?_
  refine LW.call (As := [.int (xs (j + 1))]) (rest := [.int _]) sL_139 rfl rfl rfl rfl rfl (by decide) rfl d_law_1014 (p_turn F S1 (xs (j + 1))) (fun v M2 hq => ?_)
  obtain ⟨rfl, S2, N2⟩ := hq
  have C2 := C1.fm N2
  refine LW.eq (tgt := 1045) d_law_1017 (by decide) rfl ?_
  exact ih _ _ _ _ _ _ _ M2 F C2 S2
theorem lc_30 {w h : Nat} {mp dr hd : Nat → Nat} {wy : Nat} {vt : Nat → Nat} (hn : n ≤ 2560) (hj : j + 5 ≤ n) (ih : LwI X l b n xs j) (F : Sf w h mp dr hd wy vt) (C : CM w h mp dr hd wy vt M) (S : SM w h mp dr hd wy vt M) : LW X l b n xs 1022 (nI j) [] M := by
  refine LW.ld1 d_law_1022 ?_
  refine LW.arg 1 hn (by omega) (by decide) d_law_1023 d_law_1024 d_law_1025 d_law_1026 d_law_1027 ?_
  refine LW.call (As := [.int (xs (j + 1))]) (rest := []) sL_140 rfl rfl rfl rfl rfl (by decide) rfl d_law_1028 (r_count F C (xs (j + 1))) (fun v M1 hq => ?_)
  obtain ⟨rfl, C1, N1⟩ := hq
  have S1 := S.fn N1
  refine LW.ld2 d_law_1031 ?_
  refine LW.arg 1 hn (by omega) (by decide) d_law_1032 d_law_1033 d_law_1034 d_law_1035 d_law_1036 ?_
  refine LW.call (As := [.int (xs (j + 1))]) (rest := [.int _]) sL_143 rfl rfl rfl rfl rfl (by decide) rfl d_law_1037 (p_count F S1 (xs (j + 1))) (fun v M2 hq => ?_)
  obtain ⟨rfl, S2, N2⟩ := hq
  have C2 := C1.fm N2
  refine LW.eq (tgt := 1045) d_law_1040 (by decide) rfl ?_
  exact ih _ _ _ _ _ _ _ M2 F C2 S2
end Lc
