/-! ===== the law: its cases ===== -/
section LC
variable {x : Cx} {E : Gx} {μ : Mem} {Q : State → Prop} {b L nc ns : Nat} {sx : Nat → Int32} {i : Int}
theorem lc_0 (B : Bd x E 60 7 "SlipCoversLaw") (S : SC x E b L sx nc ns) (hμ : okM μ) (hI : INV μ) (hi : 0 ≤ i ∧ i + 6 ≤ (L : Int)) (kk : ∀ μ2, okM μ2 → INV μ2 → J cL_law x E (zc nc ns) μ2 2094 (lwv E b i) [] Q) : J cL_law x E (zc nc ns) μ 228 (lwv E b i) [] Q := by
  have h : wp_X7_feed (sc sx (i + 1)) (sc sx (i + 2)) (sc sx (i + 3)) (sc sx (i + 4)) (sc sx (i + 5)) μ (fun r1 μ1 => wp_X8_feed (sc sx (i + 1)) (sc sx (i + 2)) (sc sx (i + 3)) (sc sx (i + 4)) (sc sx (i + 5)) μ1 (fun r2 μ2 => r1 = r2 ∧ INV μ2)) := st_feed hI
  refine r_xl1 dL_law_228 ?_
  refine r_arg S (by omega) dL_law_229 dL_law_230 dL_law_232 dL_law_233 dL_law_234 ?_
  refine r_arg S (by omega) dL_law_235 dL_law_236 dL_law_238 dL_law_239 dL_law_240 ?_
  refine r_arg S (by omega) dL_law_241 dL_law_242 dL_law_244 dL_law_245 dL_law_246 ?_
  refine r_arg S (by omega) dL_law_247 dL_law_248 dL_law_250 dL_law_251 dL_law_252 ?_
  refine r_arg S (by omega) dL_law_253 dL_law_254 dL_law_256 dL_law_257 dL_law_258 ?_
  refine r_w5 B S cb_X7_feed lk_L_19 cv_X7_feed kd_0 (c_X7_feed (xl x) E (sc_R _ _) (sc_R _ _) (sc_R _ _) (sc_R _ _) (sc_R _ _) hμ h) rfl rfl dL_law_259 (fun r1 μ1 hr1 m1 h => ?_)
  refine r_xl2 dL_law_262 ?_
  refine r_arg S (by omega) dL_law_263 dL_law_264 dL_law_266 dL_law_267 dL_law_268 ?_
  refine r_arg S (by omega) dL_law_269 dL_law_270 dL_law_272 dL_law_273 dL_law_274 ?_
  refine r_arg S (by omega) dL_law_275 dL_law_276 dL_law_278 dL_law_279 dL_law_280 ?_
  refine r_arg S (by omega) dL_law_281 dL_law_282 dL_law_284 dL_law_285 dL_law_286 ?_
  refine r_arg S (by omega) dL_law_287 dL_law_288 dL_law_290 dL_law_291 dL_law_292 ?_
  refine r_w5 B S cb_X8_feed lk_L_23 cv_X8_feed kd_115 (c_X8_feed (xl x) E (sc_R _ _) (sc_R _ _) (sc_R _ _) (sc_R _ _) (sc_R _ _) m1 h) rfl rfl dL_law_293 (fun r2 μ2 hr2 m2 h => ?_)
  exact r_icmp_eq 2094 dL_law_296 rfl hr1 hr2 (fun _ => kk μ2 m2 h.2) (fun c => absurd h.1 c)
theorem lc_1 (B : Bd x E 60 7 "SlipCoversLaw") (S : SC x E b L sx nc ns) (hμ : okM μ) (hI : INV μ) (hi : 0 ≤ i ∧ i + 6 ≤ (L : Int)) (kk : ∀ μ2, okM μ2 → INV μ2 → J cL_law x E (zc nc ns) μ2 2094 (lwv E b i) [] Q) : J cL_law x E (zc nc ns) μ 301 (lwv E b i) [] Q := by
  have h : wp_X7_text (sc sx (i + 1)) μ (fun r1 μ1 => wp_X8_text (sc sx (i + 1)) μ1 (fun r2 μ2 => r1 = r2 ∧ INV μ2)) := st_text hI
  refine r_xl1 dL_law_301 ?_
  refine r_arg S (by omega) dL_law_302 dL_law_303 dL_law_305 dL_law_306 dL_law_307 ?_
  refine r_w1 B S cb_X7_text lk_L_24 cv_X7_text kd_0 (c_X7_text (xl x) E (sc_R _ _) hμ h) rfl rfl dL_law_308 (fun r1 μ1 hr1 m1 h => ?_)
  refine r_xl2 dL_law_311 ?_
  refine r_arg S (by omega) dL_law_312 dL_law_313 dL_law_315 dL_law_316 dL_law_317 ?_
  refine r_w1 B S cb_X8_text lk_L_28 cv_X8_text kd_115 (c_X8_text (xl x) E (sc_R _ _) m1 h) rfl rfl dL_law_318 (fun r2 μ2 hr2 m2 h => ?_)
  exact r_icmp_eq 2094 dL_law_321 rfl hr1 hr2 (fun _ => kk μ2 m2 h.2) (fun c => absurd h.1 c)
theorem lc_2 (B : Bd x E 60 7 "SlipCoversLaw") (S : SC x E b L sx nc ns) (hμ : okM μ) (hI : INV μ) (hi : 0 ≤ i ∧ i + 6 ≤ (L : Int)) (kk : ∀ μ2, okM μ2 → INV μ2 → J cL_law x E (zc nc ns) μ2 2094 (lwv E b i) [] Q) : J cL_law x E (zc nc ns) μ 326 (lwv E b i) [] Q := by
  have h : wp_X7_fault  μ (fun r1 μ1 => wp_X8_fault  μ1 (fun r2 μ2 => r1 = r2 ∧ INV μ2)) := st_fault hI
  refine r_xl1 dL_law_326 ?_
  refine r_w0 B S cb_X7_fault lk_L_29 cv_X7_fault kd_0 (c_X7_fault (xl x) E  hμ h) rfl rfl dL_law_327 (fun r1 μ1 hr1 m1 h => ?_)
  refine r_xl2 dL_law_330 ?_
  refine r_w0 B S cb_X8_fault lk_L_33 cv_X8_fault kd_115 (c_X8_fault (xl x) E  m1 h) rfl rfl dL_law_331 (fun r2 μ2 hr2 m2 h => ?_)
  exact r_icmp_eq 2094 dL_law_334 rfl hr1 hr2 (fun _ => kk μ2 m2 h.2) (fun c => absurd h.1 c)
theorem lc_3 (B : Bd x E 60 7 "SlipCoversLaw") (S : SC x E b L sx nc ns) (hμ : okM μ) (hI : INV μ) (hi : 0 ≤ i ∧ i + 6 ≤ (L : Int)) (kk : ∀ μ2, okM μ2 → INV μ2 → J cL_law x E (zc nc ns) μ2 2094 (lwv E b i) [] Q) : J cL_law x E (zc nc ns) μ 339 (lwv E b i) [] Q := by
  have h : wp_X7_where  μ (fun r1 μ1 => wp_X8_where  μ1 (fun r2 μ2 => r1 = r2 ∧ INV μ2)) := st_where hI
  refine r_xl1 dL_law_339 ?_
  refine r_w0 B S cb_X7_where lk_L_34 cv_X7_where kd_0 (c_X7_where (xl x) E  hμ h) rfl rfl dL_law_340 (fun r1 μ1 hr1 m1 h => ?_)
  refine r_xl2 dL_law_343 ?_
  refine r_w0 B S cb_X8_where lk_L_37 cv_X8_where kd_115 (c_X8_where (xl x) E  m1 h) rfl rfl dL_law_344 (fun r2 μ2 hr2 m2 h => ?_)
  exact r_icmp_eq 2094 dL_law_347 rfl hr1 hr2 (fun _ => kk μ2 m2 h.2) (fun c => absurd h.1 c)
theorem lc_4 (B : Bd x E 60 7 "SlipCoversLaw") (S : SC x E b L sx nc ns) (hμ : okM μ) (hI : INV μ) (hi : 0 ≤ i ∧ i + 6 ≤ (L : Int)) (kk : ∀ μ2, okM μ2 → INV μ2 → J cL_law x E (zc nc ns) μ2 2094 (lwv E b i) [] Q) : J cL_law x E (zc nc ns) μ 352 (lwv E b i) [] Q := by
  have h : wp_X7_about (sc sx (i + 1)) (sc sx (i + 2)) μ (fun r1 μ1 => wp_X8_about (sc sx (i + 1)) (sc sx (i + 2)) μ1 (fun r2 μ2 => r1 = r2 ∧ INV μ2)) := st_about hI
  refine r_xl1 dL_law_352 ?_
  refine r_arg S (by omega) dL_law_353 dL_law_354 dL_law_356 dL_law_357 dL_law_358 ?_
  refine r_arg S (by omega) dL_law_359 dL_law_360 dL_law_362 dL_law_363 dL_law_364 ?_
  refine r_w2 B S cb_X7_about lk_L_38 cv_X7_about kd_0 (c_X7_about (xl x) E (sc_R _ _) (sc_R _ _) hμ h) rfl rfl dL_law_365 (fun r1 μ1 hr1 m1 h => ?_)
  refine r_xl2 dL_law_368 ?_
  refine r_arg S (by omega) dL_law_369 dL_law_370 dL_law_372 dL_law_373 dL_law_374 ?_
  refine r_arg S (by omega) dL_law_375 dL_law_376 dL_law_378 dL_law_379 dL_law_380 ?_
  refine r_w2 B S cb_X8_about lk_L_41 cv_X8_about kd_115 (c_X8_about (xl x) E (sc_R _ _) (sc_R _ _) m1 h) rfl rfl dL_law_381 (fun r2 μ2 hr2 m2 h => ?_)
  exact r_icmp_eq 2094 dL_law_384 rfl hr1 hr2 (fun _ => kk μ2 m2 h.2) (fun c => absurd h.1 c)
theorem lc_5 (B : Bd x E 60 7 "SlipCoversLaw") (S : SC x E b L sx nc ns) (hμ : okM μ) (hI : INV μ) (hi : 0 ≤ i ∧ i + 6 ≤ (L : Int)) (kk : ∀ μ2, okM μ2 → INV μ2 → J cL_law x E (zc nc ns) μ2 2094 (lwv E b i) [] Q) : J cL_law x E (zc nc ns) μ 389 (lwv E b i) [] Q := by
  have h : wp_X7_place (sc sx (i + 1)) (sc sx (i + 2)) (sc sx (i + 3)) μ (fun r1 μ1 => wp_X8_place (sc sx (i + 1)) (sc sx (i + 2)) (sc sx (i + 3)) μ1 (fun r2 μ2 => r1 = r2 ∧ INV μ2)) := st_place hI
  refine r_xl1 dL_law_389 ?_
  refine r_arg S (by omega) dL_law_390 dL_law_391 dL_law_393 dL_law_394 dL_law_395 ?_
  refine r_arg S (by omega) dL_law_396 dL_law_397 dL_law_399 dL_law_400 dL_law_401 ?_
  refine r_arg S (by omega) dL_law_402 dL_law_403 dL_law_405 dL_law_406 dL_law_407 ?_
  refine r_w3 B S cb_X7_place lk_L_42 cv_X7_place kd_0 (c_X7_place (xl x) E (sc_R _ _) (sc_R _ _) (sc_R _ _) hμ h) rfl rfl dL_law_408 (fun r1 μ1 hr1 m1 h => ?_)
  refine r_xl2 dL_law_411 ?_
  refine r_arg S (by omega) dL_law_412 dL_law_413 dL_law_415 dL_law_416 dL_law_417 ?_
  refine r_arg S (by omega) dL_law_418 dL_law_419 dL_law_421 dL_law_422 dL_law_423 ?_
  refine r_arg S (by omega) dL_law_424 dL_law_425 dL_law_427 dL_law_428 dL_law_429 ?_
  refine r_w3 B S cb_X8_place lk_L_46 cv_X8_place kd_115 (c_X8_place (xl x) E (sc_R _ _) (sc_R _ _) (sc_R _ _) m1 h) rfl rfl dL_law_430 (fun r2 μ2 hr2 m2 h => ?_)
  exact r_icmp_eq 2094 dL_law_433 rfl hr1 hr2 (fun _ => kk μ2 m2 h.2) (fun c => absurd h.1 c)
theorem lc_6 (B : Bd x E 60 7 "SlipCoversLaw") (S : SC x E b L sx nc ns) (hμ : okM μ) (hI : INV μ) (hi : 0 ≤ i ∧ i + 6 ≤ (L : Int)) (kk : ∀ μ2, okM μ2 → INV μ2 → J cL_law x E (zc nc ns) μ2 2094 (lwv E b i) [] Q) : J cL_law x E (zc nc ns) μ 438 (lwv E b i) [] Q := by
  have h : wp_X7_word (sc sx (i + 1)) (sc sx (i + 2)) μ (fun r1 μ1 => wp_X8_word (sc sx (i + 1)) (sc sx (i + 2)) μ1 (fun r2 μ2 => r1 = r2 ∧ INV μ2)) := st_word (sc_R _ _) hI
  refine r_xl1 dL_law_438 ?_
  refine r_arg S (by omega) dL_law_439 dL_law_440 dL_law_442 dL_law_443 dL_law_444 ?_
  refine r_arg S (by omega) dL_law_445 dL_law_446 dL_law_448 dL_law_449 dL_law_450 ?_
  refine r_w2 B S cb_X7_word lk_L_47 cv_X7_word kd_0 (c_X7_word (xl x) E (sc_R _ _) (sc_R _ _) hμ h) rfl rfl dL_law_451 (fun r1 μ1 hr1 m1 h => ?_)
  refine r_xl2 dL_law_454 ?_
  refine r_arg S (by omega) dL_law_455 dL_law_456 dL_law_458 dL_law_459 dL_law_460 ?_
  refine r_arg S (by omega) dL_law_461 dL_law_462 dL_law_464 dL_law_465 dL_law_466 ?_
  refine r_w2 B S cb_X8_word lk_L_50 cv_X8_word kd_115 (c_X8_word (xl x) E (sc_R _ _) (sc_R _ _) m1 h) rfl rfl dL_law_467 (fun r2 μ2 hr2 m2 h => ?_)
  exact r_icmp_eq 2094 dL_law_470 rfl hr1 hr2 (fun _ => kk μ2 m2 h.2) (fun c => absurd h.1 c)
theorem lc_7 (B : Bd x E 60 7 "SlipCoversLaw") (S : SC x E b L sx nc ns) (hμ : okM μ) (hI : INV μ) (hi : 0 ≤ i ∧ i + 6 ≤ (L : Int)) (kk : ∀ μ2, okM μ2 → INV μ2 → J cL_law x E (zc nc ns) μ2 2094 (lwv E b i) [] Q) : J cL_law x E (zc nc ns) μ 475 (lwv E b i) [] Q := by
  have h : wp_X7_has (sc sx (i + 1)) (sc sx (i + 2)) μ (fun r1 μ1 => wp_X8_has (sc sx (i + 1)) (sc sx (i + 2)) μ1 (fun r2 μ2 => r1 = r2 ∧ INV μ2)) := st_has hI
  refine r_xl1 dL_law_475 ?_
  refine r_arg S (by omega) dL_law_476 dL_law_477 dL_law_479 dL_law_480 dL_law_481 ?_
  refine r_arg S (by omega) dL_law_482 dL_law_483 dL_law_485 dL_law_486 dL_law_487 ?_
  refine r_w2 B S cb_X7_has lk_L_51 cv_X7_has kd_0 (c_X7_has (xl x) E (sc_R _ _) (sc_R _ _) hμ h) rfl rfl dL_law_488 (fun r1 μ1 hr1 m1 h => ?_)
  refine r_xl2 dL_law_491 ?_
  refine r_arg S (by omega) dL_law_492 dL_law_493 dL_law_495 dL_law_496 dL_law_497 ?_
  refine r_arg S (by omega) dL_law_498 dL_law_499 dL_law_501 dL_law_502 dL_law_503 ?_
  refine r_w2 B S cb_X8_has lk_L_54 cv_X8_has kd_115 (c_X8_has (xl x) E (sc_R _ _) (sc_R _ _) m1 h) rfl rfl dL_law_504 (fun r2 μ2 hr2 m2 h => ?_)
  exact r_icmp_eq 2094 dL_law_507 rfl hr1 hr2 (fun _ => kk μ2 m2 h.2) (fun c => absurd h.1 c)
theorem lc_8 (B : Bd x E 60 7 "SlipCoversLaw") (S : SC x E b L sx nc ns) (hμ : okM μ) (hI : INV μ) (hi : 0 ≤ i ∧ i + 6 ≤ (L : Int)) (kk : ∀ μ2, okM μ2 → INV μ2 → J cL_law x E (zc nc ns) μ2 2094 (lwv E b i) [] Q) : J cL_law x E (zc nc ns) μ 512 (lwv E b i) [] Q := by
  have h : wp_X7_digit (sc sx (i + 1)) (sc sx (i + 2)) (sc sx (i + 3)) μ (fun r1 μ1 => wp_X8_digit (sc sx (i + 1)) (sc sx (i + 2)) (sc sx (i + 3)) μ1 (fun r2 μ2 => r1 = r2 ∧ INV μ2)) := st_digit hI
  refine r_xl1 dL_law_512 ?_
  refine r_arg S (by omega) dL_law_513 dL_law_514 dL_law_516 dL_law_517 dL_law_518 ?_
  refine r_arg S (by omega) dL_law_519 dL_law_520 dL_law_522 dL_law_523 dL_law_524 ?_
  refine r_arg S (by omega) dL_law_525 dL_law_526 dL_law_528 dL_law_529 dL_law_530 ?_
  refine r_w3 B S cb_X7_digit lk_L_55 cv_X7_digit kd_0 (c_X7_digit (xl x) E (sc_R _ _) (sc_R _ _) (sc_R _ _) hμ h) rfl rfl dL_law_531 (fun r1 μ1 hr1 m1 h => ?_)
  refine r_xl2 dL_law_534 ?_
  refine r_arg S (by omega) dL_law_535 dL_law_536 dL_law_538 dL_law_539 dL_law_540 ?_
  refine r_arg S (by omega) dL_law_541 dL_law_542 dL_law_544 dL_law_545 dL_law_546 ?_
  refine r_arg S (by omega) dL_law_547 dL_law_548 dL_law_550 dL_law_551 dL_law_552 ?_
  refine r_w3 B S cb_X8_digit lk_L_58 cv_X8_digit kd_115 (c_X8_digit (xl x) E (sc_R _ _) (sc_R _ _) (sc_R _ _) m1 h) rfl rfl dL_law_553 (fun r2 μ2 hr2 m2 h => ?_)
  exact r_icmp_eq 2094 dL_law_556 rfl hr1 hr2 (fun _ => kk μ2 m2 h.2) (fun c => absurd h.1 c)
theorem lc_9 (B : Bd x E 60 7 "SlipCoversLaw") (S : SC x E b L sx nc ns) (hμ : okM μ) (hI : INV μ) (hi : 0 ≤ i ∧ i + 6 ≤ (L : Int)) (kk : ∀ μ2, okM μ2 → INV μ2 → J cL_law x E (zc nc ns) μ2 2094 (lwv E b i) [] Q) : J cL_law x E (zc nc ns) μ 561 (lwv E b i) [] Q := by
  have h : wp_X7_far (sc sx (i + 1)) (sc sx (i + 2)) (sc sx (i + 3)) μ (fun r1 μ1 => wp_X8_far (sc sx (i + 1)) (sc sx (i + 2)) (sc sx (i + 3)) μ1 (fun r2 μ2 => r1 = r2 ∧ INV μ2)) := st_far hI
  refine r_xl1 dL_law_561 ?_
  refine r_arg S (by omega) dL_law_562 dL_law_563 dL_law_565 dL_law_566 dL_law_567 ?_
  refine r_arg S (by omega) dL_law_568 dL_law_569 dL_law_571 dL_law_572 dL_law_573 ?_
  refine r_arg S (by omega) dL_law_574 dL_law_575 dL_law_577 dL_law_578 dL_law_579 ?_
  refine r_w3 B S cb_X7_far lk_L_59 cv_X7_far kd_0 (c_X7_far (xl x) E (sc_R _ _) (sc_R _ _) (sc_R _ _) hμ h) rfl rfl dL_law_580 (fun r1 μ1 hr1 m1 h => ?_)
  refine r_xl2 dL_law_583 ?_
  refine r_arg S (by omega) dL_law_584 dL_law_585 dL_law_587 dL_law_588 dL_law_589 ?_
  refine r_arg S (by omega) dL_law_590 dL_law_591 dL_law_593 dL_law_594 dL_law_595 ?_
  refine r_arg S (by omega) dL_law_596 dL_law_597 dL_law_599 dL_law_600 dL_law_601 ?_
  refine r_w3 B S cb_X8_far lk_L_62 cv_X8_far kd_115 (c_X8_far (xl x) E (sc_R _ _) (sc_R _ _) (sc_R _ _) m1 h) rfl rfl dL_law_602 (fun r2 μ2 hr2 m2 h => ?_)
  exact r_icmp_eq 2094 dL_law_605 rfl hr1 hr2 (fun _ => kk μ2 m2 h.2) (fun c => absurd h.1 c)
theorem lc_10 (B : Bd x E 60 7 "SlipCoversLaw") (S : SC x E b L sx nc ns) (hμ : okM μ) (hI : INV μ) (hi : 0 ≤ i ∧ i + 6 ≤ (L : Int)) (kk : ∀ μ2, okM μ2 → INV μ2 → J cL_law x E (zc nc ns) μ2 2094 (lwv E b i) [] Q) : J cL_law x E (zc nc ns) μ 610 (lwv E b i) [] Q := by
  have h : wp_X7_ball (sc sx (i + 1)) (sc sx (i + 2)) μ (fun r1 μ1 => wp_X8_ball (sc sx (i + 1)) (sc sx (i + 2)) μ1 (fun r2 μ2 => r1 = r2 ∧ INV μ2)) := st_ball hI
  refine r_xl1 dL_law_610 ?_
  refine r_arg S (by omega) dL_law_611 dL_law_612 dL_law_614 dL_law_615 dL_law_616 ?_
  refine r_arg S (by omega) dL_law_617 dL_law_618 dL_law_620 dL_law_621 dL_law_622 ?_
  refine r_w2 B S cb_X7_ball lk_L_63 cv_X7_ball kd_0 (c_X7_ball (xl x) E (sc_R _ _) (sc_R _ _) hμ h) rfl rfl dL_law_623 (fun r1 μ1 hr1 m1 h => ?_)
  refine r_xl2 dL_law_626 ?_
  refine r_arg S (by omega) dL_law_627 dL_law_628 dL_law_630 dL_law_631 dL_law_632 ?_
  refine r_arg S (by omega) dL_law_633 dL_law_634 dL_law_636 dL_law_637 dL_law_638 ?_
  refine r_w2 B S cb_X8_ball lk_L_66 cv_X8_ball kd_115 (c_X8_ball (xl x) E (sc_R _ _) (sc_R _ _) m1 h) rfl rfl dL_law_639 (fun r2 μ2 hr2 m2 h => ?_)
  exact r_icmp_eq 2094 dL_law_642 rfl hr1 hr2 (fun _ => kk μ2 m2 h.2) (fun c => absurd h.1 c)
theorem lc_11 (B : Bd x E 60 7 "SlipCoversLaw") (S : SC x E b L sx nc ns) (hμ : okM μ) (hI : INV μ) (hi : 0 ≤ i ∧ i + 6 ≤ (L : Int)) (kk : ∀ μ2, okM μ2 → INV μ2 → J cL_law x E (zc nc ns) μ2 2094 (lwv E b i) [] Q) : J cL_law x E (zc nc ns) μ 647 (lwv E b i) [] Q := by
  have h : wp_X7_ballAt (sc sx (i + 1)) (sc sx (i + 2)) (sc sx (i + 3)) (sc sx (i + 4)) μ (fun r1 μ1 => wp_X8_ballAt (sc sx (i + 1)) (sc sx (i + 2)) (sc sx (i + 3)) (sc sx (i + 4)) μ1 (fun r2 μ2 => r1 = r2 ∧ INV μ2)) := st_ballAt (sc_R _ _) hI
  refine r_xl1 dL_law_647 ?_
  refine r_arg S (by omega) dL_law_648 dL_law_649 dL_law_651 dL_law_652 dL_law_653 ?_
  refine r_arg S (by omega) dL_law_654 dL_law_655 dL_law_657 dL_law_658 dL_law_659 ?_
  refine r_arg S (by omega) dL_law_660 dL_law_661 dL_law_663 dL_law_664 dL_law_665 ?_
  refine r_arg S (by omega) dL_law_666 dL_law_667 dL_law_669 dL_law_670 dL_law_671 ?_
  refine r_w4 B S cb_X7_ballAt lk_L_67 cv_X7_ballAt kd_0 (c_X7_ballAt (xl x) E (sc_R _ _) (sc_R _ _) (sc_R _ _) (sc_R _ _) hμ h) rfl rfl dL_law_672 (fun r1 μ1 hr1 m1 h => ?_)
  refine r_xl2 dL_law_675 ?_
  refine r_arg S (by omega) dL_law_676 dL_law_677 dL_law_679 dL_law_680 dL_law_681 ?_
  refine r_arg S (by omega) dL_law_682 dL_law_683 dL_law_685 dL_law_686 dL_law_687 ?_
  refine r_arg S (by omega) dL_law_688 dL_law_689 dL_law_691 dL_law_692 dL_law_693 ?_
  refine r_arg S (by omega) dL_law_694 dL_law_695 dL_law_697 dL_law_698 dL_law_699 ?_
  refine r_w4 B S cb_X8_ballAt lk_L_71 cv_X8_ballAt kd_115 (c_X8_ballAt (xl x) E (sc_R _ _) (sc_R _ _) (sc_R _ _) (sc_R _ _) m1 h) rfl rfl dL_law_700 (fun r2 μ2 hr2 m2 h => ?_)
  exact r_icmp_eq 2094 dL_law_703 rfl hr1 hr2 (fun _ => kk μ2 m2 h.2) (fun c => absurd h.1 c)
theorem lc_12 (B : Bd x E 60 7 "SlipCoversLaw") (S : SC x E b L sx nc ns) (hμ : okM μ) (hI : INV μ) (hi : 0 ≤ i ∧ i + 6 ≤ (L : Int)) (kk : ∀ μ2, okM μ2 → INV μ2 → J cL_law x E (zc nc ns) μ2 2094 (lwv E b i) [] Q) : J cL_law x E (zc nc ns) μ 708 (lwv E b i) [] Q := by
  have h : wp_X7_covered (sc sx (i + 1)) (sc sx (i + 2)) μ (fun r1 μ1 => wp_X8_covered (sc sx (i + 1)) (sc sx (i + 2)) μ1 (fun r2 μ2 => r1 = r2 ∧ INV μ2)) := st_covered hI
  refine r_xl1 dL_law_708 ?_
  refine r_arg S (by omega) dL_law_709 dL_law_710 dL_law_712 dL_law_713 dL_law_714 ?_
  refine r_arg S (by omega) dL_law_715 dL_law_716 dL_law_718 dL_law_719 dL_law_720 ?_
  refine r_w2 B S cb_X7_covered lk_L_72 cv_X7_covered kd_0 (c_X7_covered (xl x) E (sc_R _ _) (sc_R _ _) hμ h) rfl rfl dL_law_721 (fun r1 μ1 hr1 m1 h => ?_)
  refine r_xl2 dL_law_724 ?_
  refine r_arg S (by omega) dL_law_725 dL_law_726 dL_law_728 dL_law_729 dL_law_730 ?_
  refine r_arg S (by omega) dL_law_731 dL_law_732 dL_law_734 dL_law_735 dL_law_736 ?_
  refine r_w2 B S cb_X8_covered lk_L_75 cv_X8_covered kd_115 (c_X8_covered (xl x) E (sc_R _ _) (sc_R _ _) m1 h) rfl rfl dL_law_737 (fun r2 μ2 hr2 m2 h => ?_)
  exact r_icmp_eq 2094 dL_law_740 rfl hr1 hr2 (fun _ => kk μ2 m2 h.2) (fun c => absurd h.1 c)
theorem lc_13 (B : Bd x E 60 7 "SlipCoversLaw") (S : SC x E b L sx nc ns) (hμ : okM μ) (hI : INV μ) (hi : 0 ≤ i ∧ i + 6 ≤ (L : Int)) (kk : ∀ μ2, okM μ2 → INV μ2 → J cL_law x E (zc nc ns) μ2 2094 (lwv E b i) [] Q) : J cL_law x E (zc nc ns) μ 745 (lwv E b i) [] Q := by
  have h : wp_X7_times (sc sx (i + 1)) (sc sx (i + 2)) (sc sx (i + 3)) μ (fun r1 μ1 => wp_X8_times (sc sx (i + 1)) (sc sx (i + 2)) (sc sx (i + 3)) μ1 (fun r2 μ2 => r1 = r2 ∧ INV μ2)) := st_times hI
  refine r_xl1 dL_law_745 ?_
  refine r_arg S (by omega) dL_law_746 dL_law_747 dL_law_749 dL_law_750 dL_law_751 ?_
  refine r_arg S (by omega) dL_law_752 dL_law_753 dL_law_755 dL_law_756 dL_law_757 ?_
  refine r_arg S (by omega) dL_law_758 dL_law_759 dL_law_761 dL_law_762 dL_law_763 ?_
  refine r_w3 B S cb_X7_times lk_L_76 cv_X7_times kd_0 (c_X7_times (xl x) E (sc_R _ _) (sc_R _ _) (sc_R _ _) hμ h) rfl rfl dL_law_764 (fun r1 μ1 hr1 m1 h => ?_)
  refine r_xl2 dL_law_767 ?_
  refine r_arg S (by omega) dL_law_768 dL_law_769 dL_law_771 dL_law_772 dL_law_773 ?_
  refine r_arg S (by omega) dL_law_774 dL_law_775 dL_law_777 dL_law_778 dL_law_779 ?_
  refine r_arg S (by omega) dL_law_780 dL_law_781 dL_law_783 dL_law_784 dL_law_785 ?_
  refine r_w3 B S cb_X8_times lk_L_79 cv_X8_times kd_115 (c_X8_times (xl x) E (sc_R _ _) (sc_R _ _) (sc_R _ _) m1 h) rfl rfl dL_law_786 (fun r2 μ2 hr2 m2 h => ?_)
  exact r_icmp_eq 2094 dL_law_789 rfl hr1 hr2 (fun _ => kk μ2 m2 h.2) (fun c => absurd h.1 c)
theorem lc_14 (B : Bd x E 60 7 "SlipCoversLaw") (S : SC x E b L sx nc ns) (hμ : okM μ) (hI : INV μ) (hi : 0 ≤ i ∧ i + 6 ≤ (L : Int)) (kk : ∀ μ2, okM μ2 → INV μ2 → J cL_law x E (zc nc ns) μ2 2094 (lwv E b i) [] Q) : J cL_law x E (zc nc ns) μ 794 (lwv E b i) [] Q := by
  have h : wp_X7_table (sc sx (i + 1)) (sc sx (i + 2)) (sc sx (i + 3)) μ (fun r1 μ1 => wp_X8_table (sc sx (i + 1)) (sc sx (i + 2)) (sc sx (i + 3)) μ1 (fun r2 μ2 => r1 = r2 ∧ INV μ2)) := st_table hI
  refine r_xl1 dL_law_794 ?_
  refine r_arg S (by omega) dL_law_795 dL_law_796 dL_law_798 dL_law_799 dL_law_800 ?_
  refine r_arg S (by omega) dL_law_801 dL_law_802 dL_law_804 dL_law_805 dL_law_806 ?_
  refine r_arg S (by omega) dL_law_807 dL_law_808 dL_law_810 dL_law_811 dL_law_812 ?_
  refine r_w3 B S cb_X7_table lk_L_80 cv_X7_table kd_0 (c_X7_table (xl x) E (sc_R _ _) (sc_R _ _) (sc_R _ _) hμ h) rfl rfl dL_law_813 (fun r1 μ1 hr1 m1 h => ?_)
  refine r_xl2 dL_law_816 ?_
  refine r_arg S (by omega) dL_law_817 dL_law_818 dL_law_820 dL_law_821 dL_law_822 ?_
  refine r_arg S (by omega) dL_law_823 dL_law_824 dL_law_826 dL_law_827 dL_law_828 ?_
  refine r_arg S (by omega) dL_law_829 dL_law_830 dL_law_832 dL_law_833 dL_law_834 ?_
  refine r_w3 B S cb_X8_table lk_L_83 cv_X8_table kd_115 (c_X8_table (xl x) E (sc_R _ _) (sc_R _ _) (sc_R _ _) m1 h) rfl rfl dL_law_835 (fun r2 μ2 hr2 m2 h => ?_)
  exact r_icmp_eq 2094 dL_law_838 rfl hr1 hr2 (fun _ => kk μ2 m2 h.2) (fun c => absurd h.1 c)
theorem lc_15 (B : Bd x E 60 7 "SlipCoversLaw") (S : SC x E b L sx nc ns) (hμ : okM μ) (hI : INV μ) (hi : 0 ≤ i ∧ i + 6 ≤ (L : Int)) (kk : ∀ μ2, okM μ2 → INV μ2 → J cL_law x E (zc nc ns) μ2 2094 (lwv E b i) [] Q) : J cL_law x E (zc nc ns) μ 843 (lwv E b i) [] Q := by
  have h : wp_X7_hole (sc sx (i + 1)) (sc sx (i + 2)) (sc sx (i + 3)) μ (fun r1 μ1 => wp_X8_hole (sc sx (i + 1)) (sc sx (i + 2)) (sc sx (i + 3)) μ1 (fun r2 μ2 => r1 = r2 ∧ INV μ2)) := st_hole (sc_R _ _) hI
  refine r_xl1 dL_law_843 ?_
  refine r_arg S (by omega) dL_law_844 dL_law_845 dL_law_847 dL_law_848 dL_law_849 ?_
  refine r_arg S (by omega) dL_law_850 dL_law_851 dL_law_853 dL_law_854 dL_law_855 ?_
  refine r_arg S (by omega) dL_law_856 dL_law_857 dL_law_859 dL_law_860 dL_law_861 ?_
  refine r_w3 B S cb_X7_hole lk_L_84 cv_X7_hole kd_0 (c_X7_hole (xl x) E (sc_R _ _) (sc_R _ _) (sc_R _ _) hμ h) rfl rfl dL_law_862 (fun r1 μ1 hr1 m1 h => ?_)
  refine r_xl2 dL_law_865 ?_
  refine r_arg S (by omega) dL_law_866 dL_law_867 dL_law_869 dL_law_870 dL_law_871 ?_
  refine r_arg S (by omega) dL_law_872 dL_law_873 dL_law_875 dL_law_876 dL_law_877 ?_
  refine r_arg S (by omega) dL_law_878 dL_law_879 dL_law_881 dL_law_882 dL_law_883 ?_
  refine r_w3 B S cb_X8_hole lk_L_87 cv_X8_hole kd_115 (c_X8_hole (xl x) E (sc_R _ _) (sc_R _ _) (sc_R _ _) m1 h) rfl rfl dL_law_884 (fun r2 μ2 hr2 m2 h => ?_)
  exact r_icmp_eq 2094 dL_law_887 rfl hr1 hr2 (fun _ => kk μ2 m2 h.2) (fun c => absurd h.1 c)
theorem lc_16 (B : Bd x E 60 7 "SlipCoversLaw") (S : SC x E b L sx nc ns) (hμ : okM μ) (hI : INV μ) (hi : 0 ≤ i ∧ i + 6 ≤ (L : Int)) (kk : ∀ μ2, okM μ2 → INV μ2 → J cL_law x E (zc nc ns) μ2 2094 (lwv E b i) [] Q) : J cL_law x E (zc nc ns) μ 892 (lwv E b i) [] Q := by
  have h : wp_X7_idle (sc sx (i + 1)) (sc sx (i + 2)) (sc sx (i + 3)) μ (fun r1 μ1 => wp_X8_idle (sc sx (i + 1)) (sc sx (i + 2)) (sc sx (i + 3)) μ1 (fun r2 μ2 => r1 = r2 ∧ INV μ2)) := st_idle (sc_R _ _) hI
  refine r_xl1 dL_law_892 ?_
  refine r_arg S (by omega) dL_law_893 dL_law_894 dL_law_896 dL_law_897 dL_law_898 ?_
  refine r_arg S (by omega) dL_law_899 dL_law_900 dL_law_902 dL_law_903 dL_law_904 ?_
  refine r_arg S (by omega) dL_law_905 dL_law_906 dL_law_908 dL_law_909 dL_law_910 ?_
  refine r_w3 B S cb_X7_idle lk_L_88 cv_X7_idle kd_0 (c_X7_idle (xl x) E (sc_R _ _) (sc_R _ _) (sc_R _ _) hμ h) rfl rfl dL_law_911 (fun r1 μ1 hr1 m1 h => ?_)
  refine r_xl2 dL_law_914 ?_
  refine r_arg S (by omega) dL_law_915 dL_law_916 dL_law_918 dL_law_919 dL_law_920 ?_
  refine r_arg S (by omega) dL_law_921 dL_law_922 dL_law_924 dL_law_925 dL_law_926 ?_
  refine r_arg S (by omega) dL_law_927 dL_law_928 dL_law_930 dL_law_931 dL_law_932 ?_
  refine r_w3 B S cb_X8_idle lk_L_91 cv_X8_idle kd_115 (c_X8_idle (xl x) E (sc_R _ _) (sc_R _ _) (sc_R _ _) m1 h) rfl rfl dL_law_933 (fun r2 μ2 hr2 m2 h => ?_)
  exact r_icmp_eq 2094 dL_law_936 rfl hr1 hr2 (fun _ => kk μ2 m2 h.2) (fun c => absurd h.1 c)
theorem lc_17 (B : Bd x E 60 7 "SlipCoversLaw") (S : SC x E b L sx nc ns) (hμ : okM μ) (hI : INV μ) (hi : 0 ≤ i ∧ i + 6 ≤ (L : Int)) (kk : ∀ μ2, okM μ2 → INV μ2 → J cL_law x E (zc nc ns) μ2 2094 (lwv E b i) [] Q) : J cL_law x E (zc nc ns) μ 941 (lwv E b i) [] Q := by
  have h : wp_X7_excess (sc sx (i + 1)) (sc sx (i + 2)) μ (fun r1 μ1 => wp_X8_excess (sc sx (i + 1)) (sc sx (i + 2)) μ1 (fun r2 μ2 => r1 = r2 ∧ INV μ2)) := st_excess hI
  refine r_xl1 dL_law_941 ?_
  refine r_arg S (by omega) dL_law_942 dL_law_943 dL_law_945 dL_law_946 dL_law_947 ?_
  refine r_arg S (by omega) dL_law_948 dL_law_949 dL_law_951 dL_law_952 dL_law_953 ?_
  refine r_w2 B S cb_X7_excess lk_L_92 cv_X7_excess kd_0 (c_X7_excess (xl x) E (sc_R _ _) (sc_R _ _) hμ h) rfl rfl dL_law_954 (fun r1 μ1 hr1 m1 h => ?_)
  refine r_xl2 dL_law_957 ?_
  refine r_arg S (by omega) dL_law_958 dL_law_959 dL_law_961 dL_law_962 dL_law_963 ?_
  refine r_arg S (by omega) dL_law_964 dL_law_965 dL_law_967 dL_law_968 dL_law_969 ?_
  refine r_w2 B S cb_X8_excess lk_L_95 cv_X8_excess kd_115 (c_X8_excess (xl x) E (sc_R _ _) (sc_R _ _) m1 h) rfl rfl dL_law_970 (fun r2 μ2 hr2 m2 h => ?_)
  exact r_icmp_eq 2094 dL_law_973 rfl hr1 hr2 (fun _ => kk μ2 m2 h.2) (fun c => absurd h.1 c)
theorem lc_18 (B : Bd x E 60 7 "SlipCoversLaw") (S : SC x E b L sx nc ns) (hμ : okM μ) (hI : INV μ) (hi : 0 ≤ i ∧ i + 6 ≤ (L : Int)) (kk : ∀ μ2, okM μ2 → INV μ2 → J cL_law x E (zc nc ns) μ2 2094 (lwv E b i) [] Q) : J cL_law x E (zc nc ns) μ 978 (lwv E b i) [] Q := by
  have h : wp_X7_bound (sc sx (i + 1)) (sc sx (i + 2)) μ (fun r1 μ1 => wp_X8_bound (sc sx (i + 1)) (sc sx (i + 2)) μ1 (fun r2 μ2 => r1 = r2 ∧ INV μ2)) := st_bound hI
  refine r_xl1 dL_law_978 ?_
  refine r_arg S (by omega) dL_law_979 dL_law_980 dL_law_982 dL_law_983 dL_law_984 ?_
  refine r_arg S (by omega) dL_law_985 dL_law_986 dL_law_988 dL_law_989 dL_law_990 ?_
  refine r_w2 B S cb_X7_bound lk_L_96 cv_X7_bound kd_0 (c_X7_bound (xl x) E (sc_R _ _) (sc_R _ _) hμ h) rfl rfl dL_law_991 (fun r1 μ1 hr1 m1 h => ?_)
  refine r_xl2 dL_law_994 ?_
  refine r_arg S (by omega) dL_law_995 dL_law_996 dL_law_998 dL_law_999 dL_law_1000 ?_
  refine r_arg S (by omega) dL_law_1001 dL_law_1002 dL_law_1004 dL_law_1005 dL_law_1006 ?_
  refine r_w2 B S cb_X8_bound lk_L_99 cv_X8_bound kd_115 (c_X8_bound (xl x) E (sc_R _ _) (sc_R _ _) m1 h) rfl rfl dL_law_1007 (fun r2 μ2 hr2 m2 h => ?_)
  exact r_icmp_eq 2094 dL_law_1010 rfl hr1 hr2 (fun _ => kk μ2 m2 h.2) (fun c => absurd h.1 c)
theorem lc_19 (B : Bd x E 60 7 "SlipCoversLaw") (S : SC x E b L sx nc ns) (hμ : okM μ) (hI : INV μ) (hi : 0 ≤ i ∧ i + 6 ≤ (L : Int)) (kk : ∀ μ2, okM μ2 → INV μ2 → J cL_law x E (zc nc ns) μ2 2094 (lwv E b i) [] Q) : J cL_law x E (zc nc ns) μ 1015 (lwv E b i) [] Q := by
  have h : wp_X7_pairs (sc sx (i + 1)) (sc sx (i + 2)) μ (fun r1 μ1 => wp_X8_pairs (sc sx (i + 1)) (sc sx (i + 2)) μ1 (fun r2 μ2 => r1 = r2 ∧ INV μ2)) := st_pairs hI
  refine r_xl1 dL_law_1015 ?_
  refine r_arg S (by omega) dL_law_1016 dL_law_1017 dL_law_1019 dL_law_1020 dL_law_1021 ?_
  refine r_arg S (by omega) dL_law_1022 dL_law_1023 dL_law_1025 dL_law_1026 dL_law_1027 ?_
  refine r_w2 B S cb_X7_pairs lk_L_100 cv_X7_pairs kd_0 (c_X7_pairs (xl x) E (sc_R _ _) (sc_R _ _) hμ h) rfl rfl dL_law_1028 (fun r1 μ1 hr1 m1 h => ?_)
  refine r_xl2 dL_law_1031 ?_
  refine r_arg S (by omega) dL_law_1032 dL_law_1033 dL_law_1035 dL_law_1036 dL_law_1037 ?_
  refine r_arg S (by omega) dL_law_1038 dL_law_1039 dL_law_1041 dL_law_1042 dL_law_1043 ?_
  refine r_w2 B S cb_X8_pairs lk_L_103 cv_X8_pairs kd_115 (c_X8_pairs (xl x) E (sc_R _ _) (sc_R _ _) m1 h) rfl rfl dL_law_1044 (fun r2 μ2 hr2 m2 h => ?_)
  exact r_icmp_eq 2094 dL_law_1047 rfl hr1 hr2 (fun _ => kk μ2 m2 h.2) (fun c => absurd h.1 c)
theorem lc_20 (B : Bd x E 60 7 "SlipCoversLaw") (S : SC x E b L sx nc ns) (hμ : okM μ) (hI : INV μ) (hi : 0 ≤ i ∧ i + 6 ≤ (L : Int)) (kk : ∀ μ2, okM μ2 → INV μ2 → J cL_law x E (zc nc ns) μ2 2094 (lwv E b i) [] Q) : J cL_law x E (zc nc ns) μ 1052 (lwv E b i) [] Q := by
  have h : wp_X7_centre (sc sx (i + 1)) (sc sx (i + 2)) μ (fun r1 μ1 => wp_X8_centre (sc sx (i + 1)) (sc sx (i + 2)) μ1 (fun r2 μ2 => r1 = r2 ∧ INV μ2)) := st_centre hI
  refine r_xl1 dL_law_1052 ?_
  refine r_arg S (by omega) dL_law_1053 dL_law_1054 dL_law_1056 dL_law_1057 dL_law_1058 ?_
  refine r_arg S (by omega) dL_law_1059 dL_law_1060 dL_law_1062 dL_law_1063 dL_law_1064 ?_
  refine r_w2 B S cb_X7_centre lk_L_104 cv_X7_centre kd_0 (c_X7_centre (xl x) E (sc_R _ _) (sc_R _ _) hμ h) rfl rfl dL_law_1065 (fun r1 μ1 hr1 m1 h => ?_)
  refine r_xl2 dL_law_1068 ?_
  refine r_arg S (by omega) dL_law_1069 dL_law_1070 dL_law_1072 dL_law_1073 dL_law_1074 ?_
  refine r_arg S (by omega) dL_law_1075 dL_law_1076 dL_law_1078 dL_law_1079 dL_law_1080 ?_
  refine r_w2 B S cb_X8_centre lk_L_107 cv_X8_centre kd_115 (c_X8_centre (xl x) E (sc_R _ _) (sc_R _ _) m1 h) rfl rfl dL_law_1081 (fun r2 μ2 hr2 m2 h => ?_)
  exact r_icmp_eq 2094 dL_law_1084 rfl hr1 hr2 (fun _ => kk μ2 m2 h.2) (fun c => absurd h.1 c)
theorem lc_21 (B : Bd x E 60 7 "SlipCoversLaw") (S : SC x E b L sx nc ns) (hμ : okM μ) (hI : INV μ) (hi : 0 ≤ i ∧ i + 6 ≤ (L : Int)) (kk : ∀ μ2, okM μ2 → INV μ2 → J cL_law x E (zc nc ns) μ2 2094 (lwv E b i) [] Q) : J cL_law x E (zc nc ns) μ 1089 (lwv E b i) [] Q := by
  have h : wp_X7_nearest (sc sx (i + 1)) (sc sx (i + 2)) μ (fun r1 μ1 => wp_X8_nearest (sc sx (i + 1)) (sc sx (i + 2)) μ1 (fun r2 μ2 => r1 = r2 ∧ INV μ2)) := st_nearest hI
  refine r_xl1 dL_law_1089 ?_
  refine r_arg S (by omega) dL_law_1090 dL_law_1091 dL_law_1093 dL_law_1094 dL_law_1095 ?_
  refine r_arg S (by omega) dL_law_1096 dL_law_1097 dL_law_1099 dL_law_1100 dL_law_1101 ?_
  refine r_w2 B S cb_X7_nearest lk_L_108 cv_X7_nearest kd_0 (c_X7_nearest (xl x) E (sc_R _ _) (sc_R _ _) hμ h) rfl rfl dL_law_1102 (fun r1 μ1 hr1 m1 h => ?_)
  refine r_xl2 dL_law_1105 ?_
  refine r_arg S (by omega) dL_law_1106 dL_law_1107 dL_law_1109 dL_law_1110 dL_law_1111 ?_
  refine r_arg S (by omega) dL_law_1112 dL_law_1113 dL_law_1115 dL_law_1116 dL_law_1117 ?_
  refine r_w2 B S cb_X8_nearest lk_L_111 cv_X8_nearest kd_115 (c_X8_nearest (xl x) E (sc_R _ _) (sc_R _ _) m1 h) rfl rfl dL_law_1118 (fun r2 μ2 hr2 m2 h => ?_)
  exact r_icmp_eq 2094 dL_law_1121 rfl hr1 hr2 (fun _ => kk μ2 m2 h.2) (fun c => absurd h.1 c)
theorem lc_22 (B : Bd x E 60 7 "SlipCoversLaw") (S : SC x E b L sx nc ns) (hμ : okM μ) (hI : INV μ) (hi : 0 ≤ i ∧ i + 6 ≤ (L : Int)) (kk : ∀ μ2, okM μ2 → INV μ2 → J cL_law x E (zc nc ns) μ2 2094 (lwv E b i) [] Q) : J cL_law x E (zc nc ns) μ 1126 (lwv E b i) [] Q := by
  have h : wp_X7_ring (sc sx (i + 1)) (sc sx (i + 2)) (sc sx (i + 3)) μ (fun r1 μ1 => wp_X8_ring (sc sx (i + 1)) (sc sx (i + 2)) (sc sx (i + 3)) μ1 (fun r2 μ2 => r1 = r2 ∧ INV μ2)) := st_ring hI
  refine r_xl1 dL_law_1126 ?_
  refine r_arg S (by omega) dL_law_1127 dL_law_1128 dL_law_1130 dL_law_1131 dL_law_1132 ?_
  refine r_arg S (by omega) dL_law_1133 dL_law_1134 dL_law_1136 dL_law_1137 dL_law_1138 ?_
  refine r_arg S (by omega) dL_law_1139 dL_law_1140 dL_law_1142 dL_law_1143 dL_law_1144 ?_
  refine r_w3 B S cb_X7_ring lk_L_112 cv_X7_ring kd_0 (c_X7_ring (xl x) E (sc_R _ _) (sc_R _ _) (sc_R _ _) hμ h) rfl rfl dL_law_1145 (fun r1 μ1 hr1 m1 h => ?_)
  refine r_xl2 dL_law_1148 ?_
  refine r_arg S (by omega) dL_law_1149 dL_law_1150 dL_law_1152 dL_law_1153 dL_law_1154 ?_
  refine r_arg S (by omega) dL_law_1155 dL_law_1156 dL_law_1158 dL_law_1159 dL_law_1160 ?_
  refine r_arg S (by omega) dL_law_1161 dL_law_1162 dL_law_1164 dL_law_1165 dL_law_1166 ?_
  refine r_w3 B S cb_X8_ring lk_L_115 cv_X8_ring kd_115 (c_X8_ring (xl x) E (sc_R _ _) (sc_R _ _) (sc_R _ _) m1 h) rfl rfl dL_law_1167 (fun r2 μ2 hr2 m2 h => ?_)
  exact r_icmp_eq 2094 dL_law_1170 rfl hr1 hr2 (fun _ => kk μ2 m2 h.2) (fun c => absurd h.1 c)
theorem lc_23 (B : Bd x E 60 7 "SlipCoversLaw") (S : SC x E b L sx nc ns) (hμ : okM μ) (hI : INV μ) (hi : 0 ≤ i ∧ i + 6 ≤ (L : Int)) (kk : ∀ μ2, okM μ2 → INV μ2 → J cL_law x E (zc nc ns) μ2 2094 (lwv E b i) [] Q) : J cL_law x E (zc nc ns) μ 1175 (lwv E b i) [] Q := by
  have h : wp_X7_column (sc sx (i + 1)) (sc sx (i + 2)) (sc sx (i + 3)) μ (fun r1 μ1 => wp_X8_column (sc sx (i + 1)) (sc sx (i + 2)) (sc sx (i + 3)) μ1 (fun r2 μ2 => r1 = r2 ∧ INV μ2)) := st_column hI
  refine r_xl1 dL_law_1175 ?_
  refine r_arg S (by omega) dL_law_1176 dL_law_1177 dL_law_1179 dL_law_1180 dL_law_1181 ?_
  refine r_arg S (by omega) dL_law_1182 dL_law_1183 dL_law_1185 dL_law_1186 dL_law_1187 ?_
  refine r_arg S (by omega) dL_law_1188 dL_law_1189 dL_law_1191 dL_law_1192 dL_law_1193 ?_
  refine r_w3 B S cb_X7_column lk_L_116 cv_X7_column kd_0 (c_X7_column (xl x) E (sc_R _ _) (sc_R _ _) (sc_R _ _) hμ h) rfl rfl dL_law_1194 (fun r1 μ1 hr1 m1 h => ?_)
  refine r_xl2 dL_law_1197 ?_
  refine r_arg S (by omega) dL_law_1198 dL_law_1199 dL_law_1201 dL_law_1202 dL_law_1203 ?_
  refine r_arg S (by omega) dL_law_1204 dL_law_1205 dL_law_1207 dL_law_1208 dL_law_1209 ?_
  refine r_arg S (by omega) dL_law_1210 dL_law_1211 dL_law_1213 dL_law_1214 dL_law_1215 ?_
  refine r_w3 B S cb_X8_column lk_L_119 cv_X8_column kd_115 (c_X8_column (xl x) E (sc_R _ _) (sc_R _ _) (sc_R _ _) m1 h) rfl rfl dL_law_1216 (fun r2 μ2 hr2 m2 h => ?_)
  exact r_icmp_eq 2094 dL_law_1219 rfl hr1 hr2 (fun _ => kk μ2 m2 h.2) (fun c => absurd h.1 c)
theorem lc_24 (B : Bd x E 60 7 "SlipCoversLaw") (S : SC x E b L sx nc ns) (hμ : okM μ) (hI : INV μ) (hi : 0 ≤ i ∧ i + 6 ≤ (L : Int)) (kk : ∀ μ2, okM μ2 → INV μ2 → J cL_law x E (zc nc ns) μ2 2094 (lwv E b i) [] Q) : J cL_law x E (zc nc ns) μ 1224 (lwv E b i) [] Q := by
  have h : wp_X7_worth (sc sx (i + 1)) (sc sx (i + 2)) (sc sx (i + 3)) μ (fun r1 μ1 => wp_X8_worth (sc sx (i + 1)) (sc sx (i + 2)) (sc sx (i + 3)) μ1 (fun r2 μ2 => r1 = r2 ∧ INV μ2)) := st_worth hI
  refine r_xl1 dL_law_1224 ?_
  refine r_arg S (by omega) dL_law_1225 dL_law_1226 dL_law_1228 dL_law_1229 dL_law_1230 ?_
  refine r_arg S (by omega) dL_law_1231 dL_law_1232 dL_law_1234 dL_law_1235 dL_law_1236 ?_
  refine r_arg S (by omega) dL_law_1237 dL_law_1238 dL_law_1240 dL_law_1241 dL_law_1242 ?_
  refine r_w3 B S cb_X7_worth lk_L_120 cv_X7_worth kd_0 (c_X7_worth (xl x) E (sc_R _ _) (sc_R _ _) (sc_R _ _) hμ h) rfl rfl dL_law_1243 (fun r1 μ1 hr1 m1 h => ?_)
  refine r_xl2 dL_law_1246 ?_
  refine r_arg S (by omega) dL_law_1247 dL_law_1248 dL_law_1250 dL_law_1251 dL_law_1252 ?_
  refine r_arg S (by omega) dL_law_1253 dL_law_1254 dL_law_1256 dL_law_1257 dL_law_1258 ?_
  refine r_arg S (by omega) dL_law_1259 dL_law_1260 dL_law_1262 dL_law_1263 dL_law_1264 ?_
  refine r_w3 B S cb_X8_worth lk_L_123 cv_X8_worth kd_115 (c_X8_worth (xl x) E (sc_R _ _) (sc_R _ _) (sc_R _ _) m1 h) rfl rfl dL_law_1265 (fun r2 μ2 hr2 m2 h => ?_)
  exact r_icmp_eq 2094 dL_law_1268 rfl hr1 hr2 (fun _ => kk μ2 m2 h.2) (fun c => absurd h.1 c)
theorem lc_25 (B : Bd x E 60 7 "SlipCoversLaw") (S : SC x E b L sx nc ns) (hμ : okM μ) (hI : INV μ) (hi : 0 ≤ i ∧ i + 6 ≤ (L : Int)) (kk : ∀ μ2, okM μ2 → INV μ2 → J cL_law x E (zc nc ns) μ2 2094 (lwv E b i) [] Q) : J cL_law x E (zc nc ns) μ 1273 (lwv E b i) [] Q := by
  have h : wp_X7_fewest (sc sx (i + 1)) (sc sx (i + 2)) (sc sx (i + 3)) μ (fun r1 μ1 => wp_X8_fewest (sc sx (i + 1)) (sc sx (i + 2)) (sc sx (i + 3)) μ1 (fun r2 μ2 => r1 = r2 ∧ INV μ2)) := st_fewest hI
  refine r_xl1 dL_law_1273 ?_
  refine r_arg S (by omega) dL_law_1274 dL_law_1275 dL_law_1277 dL_law_1278 dL_law_1279 ?_
  refine r_arg S (by omega) dL_law_1280 dL_law_1281 dL_law_1283 dL_law_1284 dL_law_1285 ?_
  refine r_arg S (by omega) dL_law_1286 dL_law_1287 dL_law_1289 dL_law_1290 dL_law_1291 ?_
  refine r_w3 B S cb_X7_fewest lk_L_124 cv_X7_fewest kd_0 (c_X7_fewest (xl x) E (sc_R _ _) (sc_R _ _) (sc_R _ _) hμ h) rfl rfl dL_law_1292 (fun r1 μ1 hr1 m1 h => ?_)
  refine r_xl2 dL_law_1295 ?_
  refine r_arg S (by omega) dL_law_1296 dL_law_1297 dL_law_1299 dL_law_1300 dL_law_1301 ?_
  refine r_arg S (by omega) dL_law_1302 dL_law_1303 dL_law_1305 dL_law_1306 dL_law_1307 ?_
  refine r_arg S (by omega) dL_law_1308 dL_law_1309 dL_law_1311 dL_law_1312 dL_law_1313 ?_
  refine r_w3 B S cb_X8_fewest lk_L_127 cv_X8_fewest kd_115 (c_X8_fewest (xl x) E (sc_R _ _) (sc_R _ _) (sc_R _ _) m1 h) rfl rfl dL_law_1314 (fun r2 μ2 hr2 m2 h => ?_)
  exact r_icmp_eq 2094 dL_law_1317 rfl hr1 hr2 (fun _ => kk μ2 m2 h.2) (fun c => absurd h.1 c)
theorem lc_26 (B : Bd x E 60 7 "SlipCoversLaw") (S : SC x E b L sx nc ns) (hμ : okM μ) (hI : INV μ) (hi : 0 ≤ i ∧ i + 6 ≤ (L : Int)) (kk : ∀ μ2, okM μ2 → INV μ2 → J cL_law x E (zc nc ns) μ2 2094 (lwv E b i) [] Q) : J cL_law x E (zc nc ns) μ 1322 (lwv E b i) [] Q := by
  have main : ∀ (p : Int) (bb : Bool), p = bI bb → inR p → (∀ (st : List Value) (μ' : Mem), (J cL_law x E (zc nc ns) μ' 1349 (lwv E b i) (iv p :: st) Q) → J cL_law x E (zc nc ns) μ' 1341 (lwv E b i) (iv (sc sx (i + 3)) :: st) Q) → (∀ (st : List Value) (μ' : Mem), (J cL_law x E (zc nc ns) μ' 1379 (lwv E b i) (iv p :: st) Q) → J cL_law x E (zc nc ns) μ' 1371 (lwv E b i) (iv (sc sx (i + 3)) :: st) Q) → J cL_law x E (zc nc ns) μ 1322 (lwv E b i) [] Q := by
    intro p bb hp rp f1 f2
    have h := st_set (c := sc sx (i + 1)) (w := sc sx (i + 2)) (p := p) hp hI
    refine r_xl1 dL_law_1322 ?_
    refine r_arg S (by omega) dL_law_1323 dL_law_1324 dL_law_1326 dL_law_1327 dL_law_1328 ?_
    refine r_arg S (by omega) dL_law_1329 dL_law_1330 dL_law_1332 dL_law_1333 dL_law_1334 ?_
    refine r_arg S (by omega) dL_law_1335 dL_law_1336 dL_law_1338 dL_law_1339 dL_law_1340 ?_
    refine f1 _ _ ?_
    refine r_w3 B S cb_X7_set lk_L_128 cv_X7_set kd_0 (c_X7_set (xl x) E (sc_R _ _) (sc_R _ _) rp hμ h) rfl rfl dL_law_1349 (fun r1 μ1 hr1 m1 h => ?_)
    refine r_xl2 dL_law_1352 ?_
    refine r_arg S (by omega) dL_law_1353 dL_law_1354 dL_law_1356 dL_law_1357 dL_law_1358 ?_
    refine r_arg S (by omega) dL_law_1359 dL_law_1360 dL_law_1362 dL_law_1363 dL_law_1364 ?_
    refine r_arg S (by omega) dL_law_1365 dL_law_1366 dL_law_1368 dL_law_1369 dL_law_1370 ?_
    refine f2 _ _ ?_
    refine r_w3 B S cb_X8_set lk_L_132 cv_X8_set kd_115 (c_X8_set (xl x) E (sc_R _ _) (sc_R _ _) rp m1 h) rfl rfl dL_law_1379 (fun r2 μ2 hr2 m2 h => ?_)
    exact r_icmp_eq 2094 dL_law_1382 rfl hr1 hr2 (fun _ => kk μ2 m2 h.2) (fun c => absurd h.1 c)
  by_cases c : sc sx (i + 3) = 0
  · exact main 0 false rfl inR_0 (fun st μ' K => r_if_eq 1348 dL_law_1341 rfl (sc_R _ _) (fun _ => r_iconst dL_law_1348 K) (fun n => absurd c n)) (fun st μ' K => r_if_eq 1378 dL_law_1371 rfl (sc_R _ _) (fun _ => r_iconst dL_law_1378 K) (fun n => absurd c n))
  · exact main 1 true rfl (inR_k rfl) (fun st μ' K => r_if_eq 1348 dL_law_1341 rfl (sc_R _ _) (fun y => absurd y c) (fun _ => r_iconst dL_law_1344 (r_goto 1349 dL_law_1345 rfl K))) (fun st μ' K => r_if_eq 1378 dL_law_1371 rfl (sc_R _ _) (fun y => absurd y c) (fun _ => r_iconst dL_law_1374 (r_goto 1379 dL_law_1375 rfl K)))
theorem lc_27 (B : Bd x E 60 7 "SlipCoversLaw") (S : SC x E b L sx nc ns) (hμ : okM μ) (hI : INV μ) (hi : 0 ≤ i ∧ i + 6 ≤ (L : Int)) (kk : ∀ μ2, okM μ2 → INV μ2 → J cL_law x E (zc nc ns) μ2 2094 (lwv E b i) [] Q) : J cL_law x E (zc nc ns) μ 1387 (lwv E b i) [] Q := by
  have h : wp_X7_greedy (sc sx (i + 1)) (sc sx (i + 2)) μ (fun r1 μ1 => wp_X8_greedy (sc sx (i + 1)) (sc sx (i + 2)) μ1 (fun r2 μ2 => r1 = r2 ∧ INV μ2)) := st_greedy hI
  refine r_xl1 dL_law_1387 ?_
  refine r_arg S (by omega) dL_law_1388 dL_law_1389 dL_law_1391 dL_law_1392 dL_law_1393 ?_
  refine r_arg S (by omega) dL_law_1394 dL_law_1395 dL_law_1397 dL_law_1398 dL_law_1399 ?_
  refine r_w2 B S cb_X7_greedy lk_L_133 cv_X7_greedy kd_0 (c_X7_greedy (xl x) E (sc_R _ _) (sc_R _ _) hμ h) rfl rfl dL_law_1400 (fun r1 μ1 hr1 m1 h => ?_)
  refine r_xl2 dL_law_1403 ?_
  refine r_arg S (by omega) dL_law_1404 dL_law_1405 dL_law_1407 dL_law_1408 dL_law_1409 ?_
  refine r_arg S (by omega) dL_law_1410 dL_law_1411 dL_law_1413 dL_law_1414 dL_law_1415 ?_
  refine r_w2 B S cb_X8_greedy lk_L_136 cv_X8_greedy kd_115 (c_X8_greedy (xl x) E (sc_R _ _) (sc_R _ _) m1 h) rfl rfl dL_law_1416 (fun r2 μ2 hr2 m2 h => ?_)
  exact r_icmp_eq 2094 dL_law_1419 rfl hr1 hr2 (fun _ => kk μ2 m2 h.2) (fun c => absurd h.1 c)
theorem lc_28 (B : Bd x E 60 7 "SlipCoversLaw") (S : SC x E b L sx nc ns) (hμ : okM μ) (hI : INV μ) (hi : 0 ≤ i ∧ i + 6 ≤ (L : Int)) (kk : ∀ μ2, okM μ2 → INV μ2 → J cL_law x E (zc nc ns) μ2 2094 (lwv E b i) [] Q) : J cL_law x E (zc nc ns) μ 1424 (lwv E b i) [] Q := by
  have h : wp_X7_thin (sc sx (i + 1)) (sc sx (i + 2)) μ (fun r1 μ1 => wp_X8_thin (sc sx (i + 1)) (sc sx (i + 2)) μ1 (fun r2 μ2 => r1 = r2 ∧ INV μ2)) := st_thin hI
  refine r_xl1 dL_law_1424 ?_
  refine r_arg S (by omega) dL_law_1425 dL_law_1426 dL_law_1428 dL_law_1429 dL_law_1430 ?_
  refine r_arg S (by omega) dL_law_1431 dL_law_1432 dL_law_1434 dL_law_1435 dL_law_1436 ?_
  refine r_w2 B S cb_X7_thin lk_L_137 cv_X7_thin kd_0 (c_X7_thin (xl x) E (sc_R _ _) (sc_R _ _) hμ h) rfl rfl dL_law_1437 (fun r1 μ1 hr1 m1 h => ?_)
  refine r_xl2 dL_law_1440 ?_
  refine r_arg S (by omega) dL_law_1441 dL_law_1442 dL_law_1444 dL_law_1445 dL_law_1446 ?_
  refine r_arg S (by omega) dL_law_1447 dL_law_1448 dL_law_1450 dL_law_1451 dL_law_1452 ?_
  refine r_w2 B S cb_X8_thin lk_L_140 cv_X8_thin kd_115 (c_X8_thin (xl x) E (sc_R _ _) (sc_R _ _) m1 h) rfl rfl dL_law_1453 (fun r2 μ2 hr2 m2 h => ?_)
  exact r_icmp_eq 2094 dL_law_1456 rfl hr1 hr2 (fun _ => kk μ2 m2 h.2) (fun c => absurd h.1 c)
theorem lc_29 (B : Bd x E 60 7 "SlipCoversLaw") (S : SC x E b L sx nc ns) (hμ : okM μ) (hI : INV μ) (hi : 0 ≤ i ∧ i + 6 ≤ (L : Int)) (kk : ∀ μ2, okM μ2 → INV μ2 → J cL_law x E (zc nc ns) μ2 2094 (lwv E b i) [] Q) : J cL_law x E (zc nc ns) μ 1461 (lwv E b i) [] Q := by
  have h : wp_X7_better (sc sx (i + 1)) (sc sx (i + 2)) μ (fun r1 μ1 => wp_X8_better (sc sx (i + 1)) (sc sx (i + 2)) μ1 (fun r2 μ2 => r1 = r2 ∧ INV μ2)) := st_better hI
  refine r_xl1 dL_law_1461 ?_
  refine r_arg S (by omega) dL_law_1462 dL_law_1463 dL_law_1465 dL_law_1466 dL_law_1467 ?_
  refine r_arg S (by omega) dL_law_1468 dL_law_1469 dL_law_1471 dL_law_1472 dL_law_1473 ?_
  refine r_w2 B S cb_X7_better lk_L_141 cv_X7_better kd_0 (c_X7_better (xl x) E (sc_R _ _) (sc_R _ _) hμ h) rfl rfl dL_law_1474 (fun r1 μ1 hr1 m1 h => ?_)
  refine r_xl2 dL_law_1477 ?_
  refine r_arg S (by omega) dL_law_1478 dL_law_1479 dL_law_1481 dL_law_1482 dL_law_1483 ?_
  refine r_arg S (by omega) dL_law_1484 dL_law_1485 dL_law_1487 dL_law_1488 dL_law_1489 ?_
  refine r_w2 B S cb_X8_better lk_L_144 cv_X8_better kd_115 (c_X8_better (xl x) E (sc_R _ _) (sc_R _ _) m1 h) rfl rfl dL_law_1490 (fun r2 μ2 hr2 m2 h => ?_)
  exact r_icmp_eq 2094 dL_law_1493 rfl hr1 hr2 (fun _ => kk μ2 m2 h.2) (fun c => absurd h.1 c)
theorem lc_30 (B : Bd x E 60 7 "SlipCoversLaw") (S : SC x E b L sx nc ns) (hμ : okM μ) (hI : INV μ) (hi : 0 ≤ i ∧ i + 6 ≤ (L : Int)) (kk : ∀ μ2, okM μ2 → INV μ2 → J cL_law x E (zc nc ns) μ2 2094 (lwv E b i) [] Q) : J cL_law x E (zc nc ns) μ 1498 (lwv E b i) [] Q := by
  have h : wp_X7_sum (sc sx (i + 1)) (sc sx (i + 2)) (sc sx (i + 3)) μ (fun r1 μ1 => wp_X8_sum (sc sx (i + 1)) (sc sx (i + 2)) (sc sx (i + 3)) μ1 (fun r2 μ2 => r1 = r2 ∧ INV μ2)) := st_sum hI
  refine r_xl1 dL_law_1498 ?_
  refine r_arg S (by omega) dL_law_1499 dL_law_1500 dL_law_1502 dL_law_1503 dL_law_1504 ?_
  refine r_arg S (by omega) dL_law_1505 dL_law_1506 dL_law_1508 dL_law_1509 dL_law_1510 ?_
  refine r_arg S (by omega) dL_law_1511 dL_law_1512 dL_law_1514 dL_law_1515 dL_law_1516 ?_
  refine r_w3 B S cb_X7_sum lk_L_145 cv_X7_sum kd_0 (c_X7_sum (xl x) E (sc_R _ _) (sc_R _ _) (sc_R _ _) hμ h) rfl rfl dL_law_1517 (fun r1 μ1 hr1 m1 h => ?_)
  refine r_xl2 dL_law_1520 ?_
  refine r_arg S (by omega) dL_law_1521 dL_law_1522 dL_law_1524 dL_law_1525 dL_law_1526 ?_
  refine r_arg S (by omega) dL_law_1527 dL_law_1528 dL_law_1530 dL_law_1531 dL_law_1532 ?_
  refine r_arg S (by omega) dL_law_1533 dL_law_1534 dL_law_1536 dL_law_1537 dL_law_1538 ?_
  refine r_w3 B S cb_X8_sum lk_L_148 cv_X8_sum kd_115 (c_X8_sum (xl x) E (sc_R _ _) (sc_R _ _) (sc_R _ _) m1 h) rfl rfl dL_law_1539 (fun r2 μ2 hr2 m2 h => ?_)
  exact r_icmp_eq 2094 dL_law_1542 rfl hr1 hr2 (fun _ => kk μ2 m2 h.2) (fun c => absurd h.1 c)
theorem lc_31 (B : Bd x E 60 7 "SlipCoversLaw") (S : SC x E b L sx nc ns) (hμ : okM μ) (hI : INV μ) (hi : 0 ≤ i ∧ i + 6 ≤ (L : Int)) (kk : ∀ μ2, okM μ2 → INV μ2 → J cL_law x E (zc nc ns) μ2 2094 (lwv E b i) [] Q) : J cL_law x E (zc nc ns) μ 1547 (lwv E b i) [] Q := by
  have h : wp_X7_join (sc sx (i + 1)) (sc sx (i + 2)) (sc sx (i + 3)) μ (fun r1 μ1 => wp_X8_join (sc sx (i + 1)) (sc sx (i + 2)) (sc sx (i + 3)) μ1 (fun r2 μ2 => r1 = r2 ∧ INV μ2)) := st_join hI
  refine r_xl1 dL_law_1547 ?_
  refine r_arg S (by omega) dL_law_1548 dL_law_1549 dL_law_1551 dL_law_1552 dL_law_1553 ?_
  refine r_arg S (by omega) dL_law_1554 dL_law_1555 dL_law_1557 dL_law_1558 dL_law_1559 ?_
  refine r_arg S (by omega) dL_law_1560 dL_law_1561 dL_law_1563 dL_law_1564 dL_law_1565 ?_
  refine r_w3 B S cb_X7_join lk_L_149 cv_X7_join kd_0 (c_X7_join (xl x) E (sc_R _ _) (sc_R _ _) (sc_R _ _) hμ h) rfl rfl dL_law_1566 (fun r1 μ1 hr1 m1 h => ?_)
  refine r_xl2 dL_law_1569 ?_
  refine r_arg S (by omega) dL_law_1570 dL_law_1571 dL_law_1573 dL_law_1574 dL_law_1575 ?_
  refine r_arg S (by omega) dL_law_1576 dL_law_1577 dL_law_1579 dL_law_1580 dL_law_1581 ?_
  refine r_arg S (by omega) dL_law_1582 dL_law_1583 dL_law_1585 dL_law_1586 dL_law_1587 ?_
  refine r_w3 B S cb_X8_join lk_L_152 cv_X8_join kd_115 (c_X8_join (xl x) E (sc_R _ _) (sc_R _ _) (sc_R _ _) m1 h) rfl rfl dL_law_1588 (fun r2 μ2 hr2 m2 h => ?_)
  exact r_icmp_eq 2094 dL_law_1591 rfl hr1 hr2 (fun _ => kk μ2 m2 h.2) (fun c => absurd h.1 c)
theorem lc_32 (B : Bd x E 60 7 "SlipCoversLaw") (S : SC x E b L sx nc ns) (hμ : okM μ) (hI : INV μ) (hi : 0 ≤ i ∧ i + 6 ≤ (L : Int)) (kk : ∀ μ2, okM μ2 → INV μ2 → J cL_law x E (zc nc ns) μ2 2094 (lwv E b i) [] Q) : J cL_law x E (zc nc ns) μ 1596 (lwv E b i) [] Q := by
  have h : wp_X7_longer (sc sx (i + 1)) (sc sx (i + 2)) (sc sx (i + 3)) (sc sx (i + 4)) μ (fun r1 μ1 => wp_X8_longer (sc sx (i + 1)) (sc sx (i + 2)) (sc sx (i + 3)) (sc sx (i + 4)) μ1 (fun r2 μ2 => r1 = r2 ∧ INV μ2)) := st_longer hI
  refine r_xl1 dL_law_1596 ?_
  refine r_arg S (by omega) dL_law_1597 dL_law_1598 dL_law_1600 dL_law_1601 dL_law_1602 ?_
  refine r_arg S (by omega) dL_law_1603 dL_law_1604 dL_law_1606 dL_law_1607 dL_law_1608 ?_
  refine r_arg S (by omega) dL_law_1609 dL_law_1610 dL_law_1612 dL_law_1613 dL_law_1614 ?_
  refine r_arg S (by omega) dL_law_1615 dL_law_1616 dL_law_1618 dL_law_1619 dL_law_1620 ?_
  refine r_w4 B S cb_X7_longer lk_L_153 cv_X7_longer kd_0 (c_X7_longer (xl x) E (sc_R _ _) (sc_R _ _) (sc_R _ _) (sc_R _ _) hμ h) rfl rfl dL_law_1621 (fun r1 μ1 hr1 m1 h => ?_)
  refine r_xl2 dL_law_1624 ?_
  refine r_arg S (by omega) dL_law_1625 dL_law_1626 dL_law_1628 dL_law_1629 dL_law_1630 ?_
  refine r_arg S (by omega) dL_law_1631 dL_law_1632 dL_law_1634 dL_law_1635 dL_law_1636 ?_
  refine r_arg S (by omega) dL_law_1637 dL_law_1638 dL_law_1640 dL_law_1641 dL_law_1642 ?_
  refine r_arg S (by omega) dL_law_1643 dL_law_1644 dL_law_1646 dL_law_1647 dL_law_1648 ?_
  refine r_w4 B S cb_X8_longer lk_L_156 cv_X8_longer kd_115 (c_X8_longer (xl x) E (sc_R _ _) (sc_R _ _) (sc_R _ _) (sc_R _ _) m1 h) rfl rfl dL_law_1649 (fun r2 μ2 hr2 m2 h => ?_)
  exact r_icmp_eq 2094 dL_law_1652 rfl hr1 hr2 (fun _ => kk μ2 m2 h.2) (fun c => absurd h.1 c)
theorem lc_33 (B : Bd x E 60 7 "SlipCoversLaw") (S : SC x E b L sx nc ns) (hμ : okM μ) (hI : INV μ) (hi : 0 ≤ i ∧ i + 6 ≤ (L : Int)) (kk : ∀ μ2, okM μ2 → INV μ2 → J cL_law x E (zc nc ns) μ2 2094 (lwv E b i) [] Q) : J cL_law x E (zc nc ns) μ 1657 (lwv E b i) [] Q := by
  have h : wp_X7_shorter (sc sx (i + 1)) (sc sx (i + 2)) (sc sx (i + 3)) (sc sx (i + 4)) μ (fun r1 μ1 => wp_X8_shorter (sc sx (i + 1)) (sc sx (i + 2)) (sc sx (i + 3)) (sc sx (i + 4)) μ1 (fun r2 μ2 => r1 = r2 ∧ INV μ2)) := st_shorter hI
  refine r_xl1 dL_law_1657 ?_
  refine r_arg S (by omega) dL_law_1658 dL_law_1659 dL_law_1661 dL_law_1662 dL_law_1663 ?_
  refine r_arg S (by omega) dL_law_1664 dL_law_1665 dL_law_1667 dL_law_1668 dL_law_1669 ?_
  refine r_arg S (by omega) dL_law_1670 dL_law_1671 dL_law_1673 dL_law_1674 dL_law_1675 ?_
  refine r_arg S (by omega) dL_law_1676 dL_law_1677 dL_law_1679 dL_law_1680 dL_law_1681 ?_
  refine r_w4 B S cb_X7_shorter lk_L_157 cv_X7_shorter kd_0 (c_X7_shorter (xl x) E (sc_R _ _) (sc_R _ _) (sc_R _ _) (sc_R _ _) hμ h) rfl rfl dL_law_1682 (fun r1 μ1 hr1 m1 h => ?_)
  refine r_xl2 dL_law_1685 ?_
  refine r_arg S (by omega) dL_law_1686 dL_law_1687 dL_law_1689 dL_law_1690 dL_law_1691 ?_
  refine r_arg S (by omega) dL_law_1692 dL_law_1693 dL_law_1695 dL_law_1696 dL_law_1697 ?_
  refine r_arg S (by omega) dL_law_1698 dL_law_1699 dL_law_1701 dL_law_1702 dL_law_1703 ?_
  refine r_arg S (by omega) dL_law_1704 dL_law_1705 dL_law_1707 dL_law_1708 dL_law_1709 ?_
  refine r_w4 B S cb_X8_shorter lk_L_160 cv_X8_shorter kd_115 (c_X8_shorter (xl x) E (sc_R _ _) (sc_R _ _) (sc_R _ _) (sc_R _ _) m1 h) rfl rfl dL_law_1710 (fun r2 μ2 hr2 m2 h => ?_)
  exact r_icmp_eq 2094 dL_law_1713 rfl hr1 hr2 (fun _ => kk μ2 m2 h.2) (fun c => absurd h.1 c)
theorem lc_34 (B : Bd x E 60 7 "SlipCoversLaw") (S : SC x E b L sx nc ns) (hμ : okM μ) (hI : INV μ) (hi : 0 ≤ i ∧ i + 6 ≤ (L : Int)) (kk : ∀ μ2, okM μ2 → INV μ2 → J cL_law x E (zc nc ns) μ2 2094 (lwv E b i) [] Q) : J cL_law x E (zc nc ns) μ 1718 (lwv E b i) [] Q := by
  have h : wp_X7_swap (sc sx (i + 1)) (sc sx (i + 2)) (sc sx (i + 3)) (sc sx (i + 4)) μ (fun r1 μ1 => wp_X8_swap (sc sx (i + 1)) (sc sx (i + 2)) (sc sx (i + 3)) (sc sx (i + 4)) μ1 (fun r2 μ2 => r1 = r2 ∧ INV μ2)) := st_swap hI
  refine r_xl1 dL_law_1718 ?_
  refine r_arg S (by omega) dL_law_1719 dL_law_1720 dL_law_1722 dL_law_1723 dL_law_1724 ?_
  refine r_arg S (by omega) dL_law_1725 dL_law_1726 dL_law_1728 dL_law_1729 dL_law_1730 ?_
  refine r_arg S (by omega) dL_law_1731 dL_law_1732 dL_law_1734 dL_law_1735 dL_law_1736 ?_
  refine r_arg S (by omega) dL_law_1737 dL_law_1738 dL_law_1740 dL_law_1741 dL_law_1742 ?_
  refine r_w4 B S cb_X7_swap lk_L_161 cv_X7_swap kd_0 (c_X7_swap (xl x) E (sc_R _ _) (sc_R _ _) (sc_R _ _) (sc_R _ _) hμ h) rfl rfl dL_law_1743 (fun r1 μ1 hr1 m1 h => ?_)
  refine r_xl2 dL_law_1746 ?_
  refine r_arg S (by omega) dL_law_1747 dL_law_1748 dL_law_1750 dL_law_1751 dL_law_1752 ?_
  refine r_arg S (by omega) dL_law_1753 dL_law_1754 dL_law_1756 dL_law_1757 dL_law_1758 ?_
  refine r_arg S (by omega) dL_law_1759 dL_law_1760 dL_law_1762 dL_law_1763 dL_law_1764 ?_
  refine r_arg S (by omega) dL_law_1765 dL_law_1766 dL_law_1768 dL_law_1769 dL_law_1770 ?_
  refine r_w4 B S cb_X8_swap lk_L_165 cv_X8_swap kd_115 (c_X8_swap (xl x) E (sc_R _ _) (sc_R _ _) (sc_R _ _) (sc_R _ _) m1 h) rfl rfl dL_law_1771 (fun r2 μ2 hr2 m2 h => ?_)
  exact r_icmp_eq 2094 dL_law_1774 rfl hr1 hr2 (fun _ => kk μ2 m2 h.2) (fun c => absurd h.1 c)
theorem lc_35 (B : Bd x E 60 7 "SlipCoversLaw") (S : SC x E b L sx nc ns) (hμ : okM μ) (hI : INV μ) (hi : 0 ≤ i ∧ i + 6 ≤ (L : Int)) (kk : ∀ μ2, okM μ2 → INV μ2 → J cL_law x E (zc nc ns) μ2 2094 (lwv E b i) [] Q) : J cL_law x E (zc nc ns) μ 1779 (lwv E b i) [] Q := by
  have h : wp_X7_shift (sc sx (i + 1)) (sc sx (i + 2)) (sc sx (i + 3)) (sc sx (i + 4)) μ (fun r1 μ1 => wp_X8_shift (sc sx (i + 1)) (sc sx (i + 2)) (sc sx (i + 3)) (sc sx (i + 4)) μ1 (fun r2 μ2 => r1 = r2 ∧ INV μ2)) := st_shift hI
  refine r_xl1 dL_law_1779 ?_
  refine r_arg S (by omega) dL_law_1780 dL_law_1781 dL_law_1783 dL_law_1784 dL_law_1785 ?_
  refine r_arg S (by omega) dL_law_1786 dL_law_1787 dL_law_1789 dL_law_1790 dL_law_1791 ?_
  refine r_arg S (by omega) dL_law_1792 dL_law_1793 dL_law_1795 dL_law_1796 dL_law_1797 ?_
  refine r_arg S (by omega) dL_law_1798 dL_law_1799 dL_law_1801 dL_law_1802 dL_law_1803 ?_
  refine r_w4 B S cb_X7_shift lk_L_166 cv_X7_shift kd_0 (c_X7_shift (xl x) E (sc_R _ _) (sc_R _ _) (sc_R _ _) (sc_R _ _) hμ h) rfl rfl dL_law_1804 (fun r1 μ1 hr1 m1 h => ?_)
  refine r_xl2 dL_law_1807 ?_
  refine r_arg S (by omega) dL_law_1808 dL_law_1809 dL_law_1811 dL_law_1812 dL_law_1813 ?_
  refine r_arg S (by omega) dL_law_1814 dL_law_1815 dL_law_1817 dL_law_1818 dL_law_1819 ?_
  refine r_arg S (by omega) dL_law_1820 dL_law_1821 dL_law_1823 dL_law_1824 dL_law_1825 ?_
  refine r_arg S (by omega) dL_law_1826 dL_law_1827 dL_law_1829 dL_law_1830 dL_law_1831 ?_
  refine r_w4 B S cb_X8_shift lk_L_169 cv_X8_shift kd_115 (c_X8_shift (xl x) E (sc_R _ _) (sc_R _ _) (sc_R _ _) (sc_R _ _) m1 h) rfl rfl dL_law_1832 (fun r2 μ2 hr2 m2 h => ?_)
  exact r_icmp_eq 2094 dL_law_1835 rfl hr1 hr2 (fun _ => kk μ2 m2 h.2) (fun c => absurd h.1 c)
theorem lc_36 (B : Bd x E 60 7 "SlipCoversLaw") (S : SC x E b L sx nc ns) (hμ : okM μ) (hI : INV μ) (hi : 0 ≤ i ∧ i + 6 ≤ (L : Int)) (kk : ∀ μ2, okM μ2 → INV μ2 → J cL_law x E (zc nc ns) μ2 2094 (lwv E b i) [] Q) : J cL_law x E (zc nc ns) μ 1840 (lwv E b i) [] Q := by
  have h : wp_X7_mix (sc sx (i + 1)) (sc sx (i + 2)) (sc sx (i + 3)) (sc sx (i + 4)) μ (fun r1 μ1 => wp_X8_mix (sc sx (i + 1)) (sc sx (i + 2)) (sc sx (i + 3)) (sc sx (i + 4)) μ1 (fun r2 μ2 => r1 = r2 ∧ INV μ2)) := st_mix hI
  refine r_xl1 dL_law_1840 ?_
  refine r_arg S (by omega) dL_law_1841 dL_law_1842 dL_law_1844 dL_law_1845 dL_law_1846 ?_
  refine r_arg S (by omega) dL_law_1847 dL_law_1848 dL_law_1850 dL_law_1851 dL_law_1852 ?_
  refine r_arg S (by omega) dL_law_1853 dL_law_1854 dL_law_1856 dL_law_1857 dL_law_1858 ?_
  refine r_arg S (by omega) dL_law_1859 dL_law_1860 dL_law_1862 dL_law_1863 dL_law_1864 ?_
  refine r_w4 B S cb_X7_mix lk_L_170 cv_X7_mix kd_0 (c_X7_mix (xl x) E (sc_R _ _) (sc_R _ _) (sc_R _ _) (sc_R _ _) hμ h) rfl rfl dL_law_1865 (fun r1 μ1 hr1 m1 h => ?_)
  refine r_xl2 dL_law_1868 ?_
  refine r_arg S (by omega) dL_law_1869 dL_law_1870 dL_law_1872 dL_law_1873 dL_law_1874 ?_
  refine r_arg S (by omega) dL_law_1875 dL_law_1876 dL_law_1878 dL_law_1879 dL_law_1880 ?_
  refine r_arg S (by omega) dL_law_1881 dL_law_1882 dL_law_1884 dL_law_1885 dL_law_1886 ?_
  refine r_arg S (by omega) dL_law_1887 dL_law_1888 dL_law_1890 dL_law_1891 dL_law_1892 ?_
  refine r_w4 B S cb_X8_mix lk_L_173 cv_X8_mix kd_115 (c_X8_mix (xl x) E (sc_R _ _) (sc_R _ _) (sc_R _ _) (sc_R _ _) m1 h) rfl rfl dL_law_1893 (fun r2 μ2 hr2 m2 h => ?_)
  exact r_icmp_eq 2094 dL_law_1896 rfl hr1 hr2 (fun _ => kk μ2 m2 h.2) (fun c => absurd h.1 c)
theorem lc_37 (B : Bd x E 60 7 "SlipCoversLaw") (S : SC x E b L sx nc ns) (hμ : okM μ) (hI : INV μ) (hi : 0 ≤ i ∧ i + 6 ≤ (L : Int)) (kk : ∀ μ2, okM μ2 → INV μ2 → J cL_law x E (zc nc ns) μ2 2094 (lwv E b i) [] Q) : J cL_law x E (zc nc ns) μ 1901 (lwv E b i) [] Q := by
  have h : wp_X7_holes (sc sx (i + 1)) (sc sx (i + 2)) (sc sx (i + 3)) μ (fun r1 μ1 => wp_X8_holes (sc sx (i + 1)) (sc sx (i + 2)) (sc sx (i + 3)) μ1 (fun r2 μ2 => r1 = r2 ∧ INV μ2)) := st_holes hI
  refine r_xl1 dL_law_1901 ?_
  refine r_arg S (by omega) dL_law_1902 dL_law_1903 dL_law_1905 dL_law_1906 dL_law_1907 ?_
  refine r_arg S (by omega) dL_law_1908 dL_law_1909 dL_law_1911 dL_law_1912 dL_law_1913 ?_
  refine r_arg S (by omega) dL_law_1914 dL_law_1915 dL_law_1917 dL_law_1918 dL_law_1919 ?_
  refine r_w3 B S cb_X7_holes lk_L_174 cv_X7_holes kd_0 (c_X7_holes (xl x) E (sc_R _ _) (sc_R _ _) (sc_R _ _) hμ h) rfl rfl dL_law_1920 (fun r1 μ1 hr1 m1 h => ?_)
  refine r_xl2 dL_law_1923 ?_
  refine r_arg S (by omega) dL_law_1924 dL_law_1925 dL_law_1927 dL_law_1928 dL_law_1929 ?_
  refine r_arg S (by omega) dL_law_1930 dL_law_1931 dL_law_1933 dL_law_1934 dL_law_1935 ?_
  refine r_arg S (by omega) dL_law_1936 dL_law_1937 dL_law_1939 dL_law_1940 dL_law_1941 ?_
  refine r_w3 B S cb_X8_holes lk_L_177 cv_X8_holes kd_115 (c_X8_holes (xl x) E (sc_R _ _) (sc_R _ _) (sc_R _ _) m1 h) rfl rfl dL_law_1942 (fun r2 μ2 hr2 m2 h => ?_)
  exact r_icmp_eq 2094 dL_law_1945 rfl hr1 hr2 (fun _ => kk μ2 m2 h.2) (fun c => absurd h.1 c)
theorem lc_38 (B : Bd x E 60 7 "SlipCoversLaw") (S : SC x E b L sx nc ns) (hμ : okM μ) (hI : INV μ) (hi : 0 ≤ i ∧ i + 6 ≤ (L : Int)) (kk : ∀ μ2, okM μ2 → INV μ2 → J cL_law x E (zc nc ns) μ2 2094 (lwv E b i) [] Q) : J cL_law x E (zc nc ns) μ 1950 (lwv E b i) [] Q := by
  have h : wp_X7_undo  μ (fun r1 μ1 => wp_X8_undo  μ1 (fun r2 μ2 => r1 = r2 ∧ INV μ2)) := st_undo hI
  refine r_xl1 dL_law_1950 ?_
  refine r_w0 B S cb_X7_undo lk_L_178 cv_X7_undo kd_0 (c_X7_undo (xl x) E  hμ h) rfl rfl dL_law_1951 (fun r1 μ1 hr1 m1 h => ?_)
  refine r_xl2 dL_law_1954 ?_
  refine r_w0 B S cb_X8_undo lk_L_181 cv_X8_undo kd_115 (c_X8_undo (xl x) E  m1 h) rfl rfl dL_law_1955 (fun r2 μ2 hr2 m2 h => ?_)
  exact r_icmp_eq 2094 dL_law_1958 rfl hr1 hr2 (fun _ => kk μ2 m2 h.2) (fun c => absurd h.1 c)
theorem lc_39 (B : Bd x E 60 7 "SlipCoversLaw") (S : SC x E b L sx nc ns) (hμ : okM μ) (hI : INV μ) (hi : 0 ≤ i ∧ i + 6 ≤ (L : Int)) (kk : ∀ μ2, okM μ2 → INV μ2 → J cL_law x E (zc nc ns) μ2 2094 (lwv E b i) [] Q) : J cL_law x E (zc nc ns) μ 1963 (lwv E b i) [] Q := by
  have h : wp_X7_same (sc sx (i + 1)) (sc sx (i + 2)) μ (fun r1 μ1 => wp_X8_same (sc sx (i + 1)) (sc sx (i + 2)) μ1 (fun r2 μ2 => r1 = r2 ∧ INV μ2)) := st_same hI
  refine r_xl1 dL_law_1963 ?_
  refine r_arg S (by omega) dL_law_1964 dL_law_1965 dL_law_1967 dL_law_1968 dL_law_1969 ?_
  refine r_arg S (by omega) dL_law_1970 dL_law_1971 dL_law_1973 dL_law_1974 dL_law_1975 ?_
  refine r_w2 B S cb_X7_same lk_L_182 cv_X7_same kd_0 (c_X7_same (xl x) E (sc_R _ _) (sc_R _ _) hμ h) rfl rfl dL_law_1976 (fun r1 μ1 hr1 m1 h => ?_)
  refine r_xl2 dL_law_1979 ?_
  refine r_arg S (by omega) dL_law_1980 dL_law_1981 dL_law_1983 dL_law_1984 dL_law_1985 ?_
  refine r_arg S (by omega) dL_law_1986 dL_law_1987 dL_law_1989 dL_law_1990 dL_law_1991 ?_
  refine r_w2 B S cb_X8_same lk_L_185 cv_X8_same kd_115 (c_X8_same (xl x) E (sc_R _ _) (sc_R _ _) m1 h) rfl rfl dL_law_1992 (fun r2 μ2 hr2 m2 h => ?_)
  exact r_icmp_eq 2094 dL_law_1995 rfl hr1 hr2 (fun _ => kk μ2 m2 h.2) (fun c => absurd h.1 c)
theorem lc_41 (B : Bd x E 60 7 "SlipCoversLaw") (S : SC x E b L sx nc ns) (hμ : okM μ) (hI : INV μ) (hi : 0 ≤ i ∧ i + 6 ≤ (L : Int)) (kk : ∀ μ2, okM μ2 → INV μ2 → J cL_law x E (zc nc ns) μ2 2094 (lwv E b i) [] Q) : J cL_law x E (zc nc ns) μ 2068 (lwv E b i) [] Q := by
  have h : wp_X7_bytes  μ (fun r1 μ1 => wp_X8_bytes  μ1 (fun r2 μ2 => r1 = r2 ∧ INV μ2)) := st_bytes hI
  refine r_xl1 dL_law_2068 ?_
  refine r_w0 B S cb_X7_bytes lk_L_195 cv_X7_bytes kd_0 (c_X7_bytes (xl x) E  hμ h) rfl rfl dL_law_2069 (fun r1 μ1 hr1 m1 h => ?_)
  refine r_xl2 dL_law_2072 ?_
  refine r_w0 B S cb_X8_bytes lk_L_198 cv_X8_bytes kd_115 (c_X8_bytes (xl x) E  m1 h) rfl rfl dL_law_2073 (fun r2 μ2 hr2 m2 h => ?_)
  exact r_icmp_eq 2094 dL_law_2076 rfl hr1 hr2 (fun _ => kk μ2 m2 h.2) (fun c => absurd h.1 c)
theorem lc_42 (B : Bd x E 60 7 "SlipCoversLaw") (S : SC x E b L sx nc ns) (hμ : okM μ) (hI : INV μ) (hi : 0 ≤ i ∧ i + 6 ≤ (L : Int)) (kk : ∀ μ2, okM μ2 → INV μ2 → J cL_law x E (zc nc ns) μ2 2094 (lwv E b i) [] Q) : J cL_law x E (zc nc ns) μ 2081 (lwv E b i) [] Q := by
  have h : wp_X7_trouble  μ (fun r1 μ1 => wp_X8_trouble  μ1 (fun r2 μ2 => r1 = r2 ∧ INV μ2)) := st_trouble hI
  refine r_xl1 dL_law_2081 ?_
  refine r_w0 B S cb_X7_trouble lk_L_199 cv_X7_trouble kd_0 (c_X7_trouble (xl x) E  hμ h) rfl rfl dL_law_2082 (fun r1 μ1 hr1 m1 h => ?_)
  refine r_xl2 dL_law_2085 ?_
  refine r_w0 B S cb_X8_trouble lk_L_202 cv_X8_trouble kd_115 (c_X8_trouble (xl x) E  m1 h) rfl rfl dL_law_2086 (fun r2 μ2 hr2 m2 h => ?_)
  exact r_icmp_eq 2094 dL_law_2089 rfl hr1 hr2 (fun _ => kk μ2 m2 h.2) (fun c => absurd h.1 c)
end LC
