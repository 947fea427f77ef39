/-! the law: calls 8 to 15 -/
theorem dL_430 : decode code 430 = .ok (.aload_n 1, 1) := by decide +kernel
theorem dL_431 : decode code 431 = .ok (.aload_n 0, 1) := by decide +kernel
theorem dL_432 : decode code 432 = .ok (.iload_n 3, 1) := by decide +kernel
theorem dL_433 : decode code 433 = .ok (.iconst 1, 1) := by decide +kernel
theorem dL_434 : decode code 434 = .ok (.iadd, 1) := by decide +kernel
theorem dL_435 : decode code 435 = .ok (.iaload, 1) := by decide +kernel
theorem dL_436 : decode code 436 = .ok (.invokevirtual 51, 3) := by decide +kernel
theorem dL_439 : decode code 439 = .ok (.aload_n 2, 1) := by decide +kernel
theorem dL_440 : decode code 440 = .ok (.aload_n 0, 1) := by decide +kernel
theorem dL_441 : decode code 441 = .ok (.iload_n 3, 1) := by decide +kernel
theorem dL_442 : decode code 442 = .ok (.iconst 1, 1) := by decide +kernel
theorem dL_443 : decode code 443 = .ok (.iadd, 1) := by decide +kernel
theorem dL_444 : decode code 444 = .ok (.iaload, 1) := by decide +kernel
theorem dL_445 : decode code 445 = .ok (.invokevirtual 55, 3) := by decide +kernel
theorem dL_448 : decode code 448 = .ok (.lcmp, 1) := by decide +kernel
theorem dL_449 : decode code 449 = .ok (.ifCond .eq 615, 3) := by decide +kernel
theorem lc_8 {C : Ct} {i : Nat} {I1 : Ii} {J1 : Jj} {I2 : Ii} {J2 : Jj} {sc : Sx} {L : Nat → List Nat} {s : Sx} {ps : Nat → Sx} {g : Sx} (hi : i + 6 ≤ CL C) (hL : CL C ≤ 3072) (hX : EnX I1 sc L s ps g) (hM : EnM I2 J2 sc L s ps g) (h : ∀ I1' J1' I2' J2' sc' L' s' ps' g', EnX I1' sc' L' s' ps' g' → EnM I2' J2' sc' L' s' ps' g' → LW C 1064 (lsC C i) [] I1' J1' I2' J2') : LW C 430 (lsC C i) [] I1 J1 I2 J2 := by
  refine l_aload dL_430 1 1 rfl rfl ?_
  refine l_aload dL_431 0 0 rfl rfl ?_
  refine l_iload dL_432 3 3 rfl rfl ?_
  refine l_iconst (v := nI 1) dL_433 rfl ?_
  refine l_iadd (z := nI (i + 1)) dL_434 (nI_add i 1) ?_
  refine l_iald dL_435 (by omega) hL ?_
  refine l_callX (As := [.int (Cx C (i + 1))]) (rest := []) dL_436 ml_L_51 md_X12_marks mv_X12_marks rfl rfl (fun _ => rfl) rfl (by decide) (by decide) (x_marks (d := 0) (K := fun x I' _ => x = (r_marks sc s (Cx C (i + 1))) ∧ EnX I' sc L s ps g) hX ⟨rfl, hX⟩) (fun r I' J' q => ?_)
  obtain ⟨x, rfl, rfl, hX1⟩ := q
  refine ⟨fun _ => rfl, ?_⟩
  refine l_aload dL_439 2 2 rfl rfl ?_
  refine l_aload dL_440 0 0 rfl rfl ?_
  refine l_iload dL_441 3 3 rfl rfl ?_
  refine l_iconst (v := nI 1) dL_442 rfl ?_
  refine l_iadd (z := nI (i + 1)) dL_443 (nI_add i 1) ?_
  refine l_iald dL_444 (by omega) hL ?_
  refine l_callM (As := [.int (Cx C (i + 1))]) (rest := [.long ((r_marks sc s (Cx C (i + 1))))]) dL_445 ml_L_55 md_X13_marks mv_X13_marks rfl rfl (fun _ => rfl) rfl (Nat.le_of_ble_eq_true rfl) (by decide) (y_marks (d := 0) (K := fun x I' J' => x = (r_marks sc s (Cx C (i + 1))) ∧ EnM I' J' sc L s ps g) hM ⟨rfl, hM⟩) (fun r I2' J2' q => ?_)
  obtain ⟨x, rfl, rfl, hM1⟩ := q
  refine ⟨fun _ => rfl, ?_⟩
  refine l_lcmp dL_448 ?_
  exact l_zero dL_449 rfl ((lgc_eq _ _).mpr rfl) (h _ _ _ _ _ _ _ _ _ hX1 hM1)
theorem dL_454 : decode code 454 = .ok (.aload_n 1, 1) := by decide +kernel
theorem dL_455 : decode code 455 = .ok (.aload_n 0, 1) := by decide +kernel
theorem dL_456 : decode code 456 = .ok (.iload_n 3, 1) := by decide +kernel
theorem dL_457 : decode code 457 = .ok (.iconst 1, 1) := by decide +kernel
theorem dL_458 : decode code 458 = .ok (.iadd, 1) := by decide +kernel
theorem dL_459 : decode code 459 = .ok (.iaload, 1) := by decide +kernel
theorem dL_460 : decode code 460 = .ok (.invokevirtual 56, 3) := by decide +kernel
theorem dL_463 : decode code 463 = .ok (.aload_n 2, 1) := by decide +kernel
theorem dL_464 : decode code 464 = .ok (.aload_n 0, 1) := by decide +kernel
theorem dL_465 : decode code 465 = .ok (.iload_n 3, 1) := by decide +kernel
theorem dL_466 : decode code 466 = .ok (.iconst 1, 1) := by decide +kernel
theorem dL_467 : decode code 467 = .ok (.iadd, 1) := by decide +kernel
theorem dL_468 : decode code 468 = .ok (.iaload, 1) := by decide +kernel
theorem dL_469 : decode code 469 = .ok (.invokevirtual 59, 3) := by decide +kernel
theorem dL_472 : decode code 472 = .ok (.if_icmp .eq 592, 3) := by decide +kernel
theorem lc_9 {C : Ct} {i : Nat} {I1 : Ii} {J1 : Jj} {I2 : Ii} {J2 : Jj} {sc : Sx} {L : Nat → List Nat} {s : Sx} {ps : Nat → Sx} {g : Sx} (hi : i + 6 ≤ CL C) (hL : CL C ≤ 3072) (hX : EnX I1 sc L s ps g) (hM : EnM I2 J2 sc L s ps g) (h : ∀ I1' J1' I2' J2' sc' L' s' ps' g', EnX I1' sc' L' s' ps' g' → EnM I2' J2' sc' L' s' ps' g' → LW C 1064 (lsC C i) [] I1' J1' I2' J2') : LW C 454 (lsC C i) [] I1 J1 I2 J2 := by
  refine l_aload dL_454 1 1 rfl rfl ?_
  refine l_aload dL_455 0 0 rfl rfl ?_
  refine l_iload dL_456 3 3 rfl rfl ?_
  refine l_iconst (v := nI 1) dL_457 rfl ?_
  refine l_iadd (z := nI (i + 1)) dL_458 (nI_add i 1) ?_
  refine l_iald dL_459 (by omega) hL ?_
  refine l_callX (As := [.int (Cx C (i + 1))]) (rest := []) dL_460 ml_L_56 md_X12_next mv_X12_next rfl rfl (fun _ => rfl) rfl (by decide) (by decide) (x_next (d := 0) (K := fun x I' _ => x = (r_next sc L s (Cx C (i + 1))) ∧ EnX I' sc L s ps g) hX (fun I' h9 => ⟨rfl, h9⟩)) (fun r I' J' q => ?_)
  obtain ⟨x, rfl, rfl, hX1⟩ := q
  refine ⟨fun _ => rfl, ?_⟩
  refine l_aload dL_463 2 2 rfl rfl ?_
  refine l_aload dL_464 0 0 rfl rfl ?_
  refine l_iload dL_465 3 3 rfl rfl ?_
  refine l_iconst (v := nI 1) dL_466 rfl ?_
  refine l_iadd (z := nI (i + 1)) dL_467 (nI_add i 1) ?_
  refine l_iald dL_468 (by omega) hL ?_
  refine l_callM (As := [.int (Cx C (i + 1))]) (rest := [.int ((r_next sc L s (Cx C (i + 1))))]) dL_469 ml_L_59 md_X13_next mv_X13_next rfl rfl (fun _ => rfl) rfl (Nat.le_of_ble_eq_true rfl) (by decide) (y_next (d := 0) (K := fun x I' J' => x = (r_next sc L s (Cx C (i + 1))) ∧ EnM I' J' sc L s ps g) hM (fun I' J' h9 => ⟨rfl, h9⟩)) (fun r I2' J2' q => ?_)
  obtain ⟨x, rfl, rfl, hM1⟩ := q
  refine ⟨fun _ => rfl, ?_⟩
  exact l_same dL_472 rfl (h _ _ _ _ _ _ _ _ _ hX1 hM1)
theorem dL_477 : decode code 477 = .ok (.aload_n 1, 1) := by decide +kernel
theorem dL_478 : decode code 478 = .ok (.aload_n 0, 1) := by decide +kernel
theorem dL_479 : decode code 479 = .ok (.iload_n 3, 1) := by decide +kernel
theorem dL_480 : decode code 480 = .ok (.iconst 1, 1) := by decide +kernel
theorem dL_481 : decode code 481 = .ok (.iadd, 1) := by decide +kernel
theorem dL_482 : decode code 482 = .ok (.iaload, 1) := by decide +kernel
theorem dL_483 : decode code 483 = .ok (.aload_n 0, 1) := by decide +kernel
theorem dL_484 : decode code 484 = .ok (.iload_n 3, 1) := by decide +kernel
theorem dL_485 : decode code 485 = .ok (.iconst 2, 1) := by decide +kernel
theorem dL_486 : decode code 486 = .ok (.iadd, 1) := by decide +kernel
theorem dL_487 : decode code 487 = .ok (.iaload, 1) := by decide +kernel
theorem dL_488 : decode code 488 = .ok (.invokevirtual 60, 3) := by decide +kernel
theorem dL_491 : decode code 491 = .ok (.aload_n 2, 1) := by decide +kernel
theorem dL_492 : decode code 492 = .ok (.aload_n 0, 1) := by decide +kernel
theorem dL_493 : decode code 493 = .ok (.iload_n 3, 1) := by decide +kernel
theorem dL_494 : decode code 494 = .ok (.iconst 1, 1) := by decide +kernel
theorem dL_495 : decode code 495 = .ok (.iadd, 1) := by decide +kernel
theorem dL_496 : decode code 496 = .ok (.iaload, 1) := by decide +kernel
theorem dL_497 : decode code 497 = .ok (.aload_n 0, 1) := by decide +kernel
theorem dL_498 : decode code 498 = .ok (.iload_n 3, 1) := by decide +kernel
theorem dL_499 : decode code 499 = .ok (.iconst 2, 1) := by decide +kernel
theorem dL_500 : decode code 500 = .ok (.iadd, 1) := by decide +kernel
theorem dL_501 : decode code 501 = .ok (.iaload, 1) := by decide +kernel
theorem dL_502 : decode code 502 = .ok (.invokevirtual 63, 3) := by decide +kernel
theorem dL_505 : decode code 505 = .ok (.if_icmp .eq 559, 3) := by decide +kernel
theorem lc_10 {C : Ct} {i : Nat} {I1 : Ii} {J1 : Jj} {I2 : Ii} {J2 : Jj} {sc : Sx} {L : Nat → List Nat} {s : Sx} {ps : Nat → Sx} {g : Sx} (hi : i + 6 ≤ CL C) (hL : CL C ≤ 3072) (hX : EnX I1 sc L s ps g) (hM : EnM I2 J2 sc L s ps g) (h : ∀ I1' J1' I2' J2' sc' L' s' ps' g', EnX I1' sc' L' s' ps' g' → EnM I2' J2' sc' L' s' ps' g' → LW C 1064 (lsC C i) [] I1' J1' I2' J2') : LW C 477 (lsC C i) [] I1 J1 I2 J2 := by
  refine l_aload dL_477 1 1 rfl rfl ?_
  refine l_aload dL_478 0 0 rfl rfl ?_
  refine l_iload dL_479 3 3 rfl rfl ?_
  refine l_iconst (v := nI 1) dL_480 rfl ?_
  refine l_iadd (z := nI (i + 1)) dL_481 (nI_add i 1) ?_
  refine l_iald dL_482 (by omega) hL ?_
  refine l_aload dL_483 0 0 rfl rfl ?_
  refine l_iload dL_484 3 3 rfl rfl ?_
  refine l_iconst (v := nI 2) dL_485 rfl ?_
  refine l_iadd (z := nI (i + 2)) dL_486 (nI_add i 2) ?_
  refine l_iald dL_487 (by omega) hL ?_
  refine l_callX (As := [.int (Cx C (i + 1)), .int (Cx C (i + 2))]) (rest := []) dL_488 ml_L_60 md_X12_kept mv_X12_kept rfl rfl (fun _ => rfl) rfl (by decide) (by decide) (x_kept (d := 0) (K := fun x I' _ => x = (r_kept s (Cx C (i + 1)) (Cx C (i + 2))) ∧ EnX I' sc L s ps g) hX ⟨rfl, hX⟩) (fun r I' J' q => ?_)
  obtain ⟨x, rfl, rfl, hX1⟩ := q
  refine ⟨fun _ => rfl, ?_⟩
  refine l_aload dL_491 2 2 rfl rfl ?_
  refine l_aload dL_492 0 0 rfl rfl ?_
  refine l_iload dL_493 3 3 rfl rfl ?_
  refine l_iconst (v := nI 1) dL_494 rfl ?_
  refine l_iadd (z := nI (i + 1)) dL_495 (nI_add i 1) ?_
  refine l_iald dL_496 (by omega) hL ?_
  refine l_aload dL_497 0 0 rfl rfl ?_
  refine l_iload dL_498 3 3 rfl rfl ?_
  refine l_iconst (v := nI 2) dL_499 rfl ?_
  refine l_iadd (z := nI (i + 2)) dL_500 (nI_add i 2) ?_
  refine l_iald dL_501 (by omega) hL ?_
  refine l_callM (As := [.int (Cx C (i + 1)), .int (Cx C (i + 2))]) (rest := [.int ((r_kept s (Cx C (i + 1)) (Cx C (i + 2))))]) dL_502 ml_L_63 md_X13_kept mv_X13_kept rfl rfl (fun _ => rfl) rfl (Nat.le_of_ble_eq_true rfl) (by decide) (y_kept (d := 0) (K := fun x I' J' => x = (r_kept s (Cx C (i + 1)) (Cx C (i + 2))) ∧ EnM I' J' sc L s ps g) hM ⟨rfl, hM⟩) (fun r I2' J2' q => ?_)
  obtain ⟨x, rfl, rfl, hM1⟩ := q
  refine ⟨fun _ => rfl, ?_⟩
  exact l_same dL_505 rfl (h _ _ _ _ _ _ _ _ _ hX1 hM1)
theorem dL_510 : decode code 510 = .ok (.aload_n 1, 1) := by decide +kernel
theorem dL_511 : decode code 511 = .ok (.aload_n 0, 1) := by decide +kernel
theorem dL_512 : decode code 512 = .ok (.iload_n 3, 1) := by decide +kernel
theorem dL_513 : decode code 513 = .ok (.iconst 1, 1) := by decide +kernel
theorem dL_514 : decode code 514 = .ok (.iadd, 1) := by decide +kernel
theorem dL_515 : decode code 515 = .ok (.iaload, 1) := by decide +kernel
theorem dL_516 : decode code 516 = .ok (.aload_n 0, 1) := by decide +kernel
theorem dL_517 : decode code 517 = .ok (.iload_n 3, 1) := by decide +kernel
theorem dL_518 : decode code 518 = .ok (.iconst 2, 1) := by decide +kernel
theorem dL_519 : decode code 519 = .ok (.iadd, 1) := by decide +kernel
theorem dL_520 : decode code 520 = .ok (.iaload, 1) := by decide +kernel
theorem dL_521 : decode code 521 = .ok (.invokevirtual 64, 3) := by decide +kernel
theorem dL_524 : decode code 524 = .ok (.aload_n 2, 1) := by decide +kernel
theorem dL_525 : decode code 525 = .ok (.aload_n 0, 1) := by decide +kernel
theorem dL_526 : decode code 526 = .ok (.iload_n 3, 1) := by decide +kernel
theorem dL_527 : decode code 527 = .ok (.iconst 1, 1) := by decide +kernel
theorem dL_528 : decode code 528 = .ok (.iadd, 1) := by decide +kernel
theorem dL_529 : decode code 529 = .ok (.iaload, 1) := by decide +kernel
theorem dL_530 : decode code 530 = .ok (.aload_n 0, 1) := by decide +kernel
theorem dL_531 : decode code 531 = .ok (.iload_n 3, 1) := by decide +kernel
theorem dL_532 : decode code 532 = .ok (.iconst 2, 1) := by decide +kernel
theorem dL_533 : decode code 533 = .ok (.iadd, 1) := by decide +kernel
theorem dL_534 : decode code 534 = .ok (.iaload, 1) := by decide +kernel
theorem dL_535 : decode code 535 = .ok (.invokevirtual 67, 3) := by decide +kernel
theorem dL_538 : decode code 538 = .ok (.if_icmp .eq 526, 3) := by decide +kernel
theorem lc_11 {C : Ct} {i : Nat} {I1 : Ii} {J1 : Jj} {I2 : Ii} {J2 : Jj} {sc : Sx} {L : Nat → List Nat} {s : Sx} {ps : Nat → Sx} {g : Sx} (hi : i + 6 ≤ CL C) (hL : CL C ≤ 3072) (hX : EnX I1 sc L s ps g) (hM : EnM I2 J2 sc L s ps g) (h : ∀ I1' J1' I2' J2' sc' L' s' ps' g', EnX I1' sc' L' s' ps' g' → EnM I2' J2' sc' L' s' ps' g' → LW C 1064 (lsC C i) [] I1' J1' I2' J2') : LW C 510 (lsC C i) [] I1 J1 I2 J2 := by
  refine l_aload dL_510 1 1 rfl rfl ?_
  refine l_aload dL_511 0 0 rfl rfl ?_
  refine l_iload dL_512 3 3 rfl rfl ?_
  refine l_iconst (v := nI 1) dL_513 rfl ?_
  refine l_iadd (z := nI (i + 1)) dL_514 (nI_add i 1) ?_
  refine l_iald dL_515 (by omega) hL ?_
  refine l_aload dL_516 0 0 rfl rfl ?_
  refine l_iload dL_517 3 3 rfl rfl ?_
  refine l_iconst (v := nI 2) dL_518 rfl ?_
  refine l_iadd (z := nI (i + 2)) dL_519 (nI_add i 2) ?_
  refine l_iald dL_520 (by omega) hL ?_
  refine l_callX (As := [.int (Cx C (i + 1)), .int (Cx C (i + 2))]) (rest := []) dL_521 ml_L_64 md_X12_later mv_X12_later rfl rfl (fun _ => rfl) rfl (by decide) (by decide) (x_later (d := 0) (K := fun x I' _ => x = (r_later sc L s (Cx C (i + 1)) (Cx C (i + 2))) ∧ EnX I' sc L s ps g) hX (fun I' h9 => ⟨rfl, h9⟩)) (fun r I' J' q => ?_)
  obtain ⟨x, rfl, rfl, hX1⟩ := q
  refine ⟨fun _ => rfl, ?_⟩
  refine l_aload dL_524 2 2 rfl rfl ?_
  refine l_aload dL_525 0 0 rfl rfl ?_
  refine l_iload dL_526 3 3 rfl rfl ?_
  refine l_iconst (v := nI 1) dL_527 rfl ?_
  refine l_iadd (z := nI (i + 1)) dL_528 (nI_add i 1) ?_
  refine l_iald dL_529 (by omega) hL ?_
  refine l_aload dL_530 0 0 rfl rfl ?_
  refine l_iload dL_531 3 3 rfl rfl ?_
  refine l_iconst (v := nI 2) dL_532 rfl ?_
  refine l_iadd (z := nI (i + 2)) dL_533 (nI_add i 2) ?_
  refine l_iald dL_534 (by omega) hL ?_
  refine l_callM (As := [.int (Cx C (i + 1)), .int (Cx C (i + 2))]) (rest := [.int ((r_later sc L s (Cx C (i + 1)) (Cx C (i + 2))))]) dL_535 ml_L_67 md_X13_later mv_X13_later rfl rfl (fun _ => rfl) rfl (Nat.le_of_ble_eq_true rfl) (by decide) (y_later (d := 0) (K := fun x I' J' => x = (r_later sc L s (Cx C (i + 1)) (Cx C (i + 2))) ∧ EnM I' J' sc L s ps g) hM (fun I' J' h9 => ⟨rfl, h9⟩)) (fun r I2' J2' q => ?_)
  obtain ⟨x, rfl, rfl, hM1⟩ := q
  refine ⟨fun _ => rfl, ?_⟩
  exact l_same dL_538 rfl (h _ _ _ _ _ _ _ _ _ hX1 hM1)
theorem dL_543 : decode code 543 = .ok (.aload_n 1, 1) := by decide +kernel
theorem dL_544 : decode code 544 = .ok (.aload_n 0, 1) := by decide +kernel
theorem dL_545 : decode code 545 = .ok (.iload_n 3, 1) := by decide +kernel
theorem dL_546 : decode code 546 = .ok (.iconst 1, 1) := by decide +kernel
theorem dL_547 : decode code 547 = .ok (.iadd, 1) := by decide +kernel
theorem dL_548 : decode code 548 = .ok (.iaload, 1) := by decide +kernel
theorem dL_549 : decode code 549 = .ok (.invokevirtual 68, 3) := by decide +kernel
theorem dL_552 : decode code 552 = .ok (.aload_n 2, 1) := by decide +kernel
theorem dL_553 : decode code 553 = .ok (.aload_n 0, 1) := by decide +kernel
theorem dL_554 : decode code 554 = .ok (.iload_n 3, 1) := by decide +kernel
theorem dL_555 : decode code 555 = .ok (.iconst 1, 1) := by decide +kernel
theorem dL_556 : decode code 556 = .ok (.iadd, 1) := by decide +kernel
theorem dL_557 : decode code 557 = .ok (.iaload, 1) := by decide +kernel
theorem dL_558 : decode code 558 = .ok (.invokevirtual 71, 3) := by decide +kernel
theorem dL_561 : decode code 561 = .ok (.if_icmp .eq 503, 3) := by decide +kernel
theorem lc_12 {C : Ct} {i : Nat} {I1 : Ii} {J1 : Jj} {I2 : Ii} {J2 : Jj} {sc : Sx} {L : Nat → List Nat} {s : Sx} {ps : Nat → Sx} {g : Sx} (hi : i + 6 ≤ CL C) (hL : CL C ≤ 3072) (hX : EnX I1 sc L s ps g) (hM : EnM I2 J2 sc L s ps g) (h : ∀ I1' J1' I2' J2' sc' L' s' ps' g', EnX I1' sc' L' s' ps' g' → EnM I2' J2' sc' L' s' ps' g' → LW C 1064 (lsC C i) [] I1' J1' I2' J2') : LW C 543 (lsC C i) [] I1 J1 I2 J2 := by
  refine l_aload dL_543 1 1 rfl rfl ?_
  refine l_aload dL_544 0 0 rfl rfl ?_
  refine l_iload dL_545 3 3 rfl rfl ?_
  refine l_iconst (v := nI 1) dL_546 rfl ?_
  refine l_iadd (z := nI (i + 1)) dL_547 (nI_add i 1) ?_
  refine l_iald dL_548 (by omega) hL ?_
  refine l_callX (As := [.int (Cx C (i + 1))]) (rest := []) dL_549 ml_L_68 md_X12_doctor mv_X12_doctor rfl rfl (fun _ => rfl) rfl (by decide) (by decide) (x_doctor (d := 0) (K := fun x I' _ => x = (r_doctor sc L s (Cx C (i + 1))) ∧ EnX I' sc L s ps g) hX (fun I' h9 => ⟨rfl, h9⟩)) (fun r I' J' q => ?_)
  obtain ⟨x, rfl, rfl, hX1⟩ := q
  refine ⟨fun _ => rfl, ?_⟩
  refine l_aload dL_552 2 2 rfl rfl ?_
  refine l_aload dL_553 0 0 rfl rfl ?_
  refine l_iload dL_554 3 3 rfl rfl ?_
  refine l_iconst (v := nI 1) dL_555 rfl ?_
  refine l_iadd (z := nI (i + 1)) dL_556 (nI_add i 1) ?_
  refine l_iald dL_557 (by omega) hL ?_
  refine l_callM (As := [.int (Cx C (i + 1))]) (rest := [.int ((r_doctor sc L s (Cx C (i + 1))))]) dL_558 ml_L_71 md_X13_doctor mv_X13_doctor rfl rfl (fun _ => rfl) rfl (Nat.le_of_ble_eq_true rfl) (by decide) (y_doctor (d := 0) (K := fun x I' J' => x = (r_doctor sc L s (Cx C (i + 1))) ∧ EnM I' J' sc L s ps g) hM (fun I' J' h9 => ⟨rfl, h9⟩)) (fun r I2' J2' q => ?_)
  obtain ⟨x, rfl, rfl, hM1⟩ := q
  refine ⟨fun _ => rfl, ?_⟩
  exact l_same dL_561 rfl (h _ _ _ _ _ _ _ _ _ hX1 hM1)
theorem dL_566 : decode code 566 = .ok (.aload_n 1, 1) := by decide +kernel
theorem dL_567 : decode code 567 = .ok (.aload_n 0, 1) := by decide +kernel
theorem dL_568 : decode code 568 = .ok (.iload_n 3, 1) := by decide +kernel
theorem dL_569 : decode code 569 = .ok (.iconst 1, 1) := by decide +kernel
theorem dL_570 : decode code 570 = .ok (.iadd, 1) := by decide +kernel
theorem dL_571 : decode code 571 = .ok (.iaload, 1) := by decide +kernel
theorem dL_572 : decode code 572 = .ok (.invokevirtual 72, 3) := by decide +kernel
theorem dL_575 : decode code 575 = .ok (.aload_n 2, 1) := by decide +kernel
theorem dL_576 : decode code 576 = .ok (.aload_n 0, 1) := by decide +kernel
theorem dL_577 : decode code 577 = .ok (.iload_n 3, 1) := by decide +kernel
theorem dL_578 : decode code 578 = .ok (.iconst 1, 1) := by decide +kernel
theorem dL_579 : decode code 579 = .ok (.iadd, 1) := by decide +kernel
theorem dL_580 : decode code 580 = .ok (.iaload, 1) := by decide +kernel
theorem dL_581 : decode code 581 = .ok (.invokevirtual 75, 3) := by decide +kernel
theorem dL_584 : decode code 584 = .ok (.if_icmp .eq 480, 3) := by decide +kernel
theorem lc_13 {C : Ct} {i : Nat} {I1 : Ii} {J1 : Jj} {I2 : Ii} {J2 : Jj} {sc : Sx} {L : Nat → List Nat} {s : Sx} {ps : Nat → Sx} {g : Sx} (hi : i + 6 ≤ CL C) (hL : CL C ≤ 3072) (hX : EnX I1 sc L s ps g) (hM : EnM I2 J2 sc L s ps g) (h : ∀ I1' J1' I2' J2' sc' L' s' ps' g', EnX I1' sc' L' s' ps' g' → EnM I2' J2' sc' L' s' ps' g' → LW C 1064 (lsC C i) [] I1' J1' I2' J2') : LW C 566 (lsC C i) [] I1 J1 I2 J2 := by
  refine l_aload dL_566 1 1 rfl rfl ?_
  refine l_aload dL_567 0 0 rfl rfl ?_
  refine l_iload dL_568 3 3 rfl rfl ?_
  refine l_iconst (v := nI 1) dL_569 rfl ?_
  refine l_iadd (z := nI (i + 1)) dL_570 (nI_add i 1) ?_
  refine l_iald dL_571 (by omega) hL ?_
  refine l_callX (As := [.int (Cx C (i + 1))]) (rest := []) dL_572 ml_L_72 md_X12_lost mv_X12_lost rfl rfl (fun _ => rfl) rfl (by decide) (by decide) (x_lost (d := 0) (K := fun x I' _ => x = (r_lost sc L s (Cx C (i + 1))) ∧ EnX I' sc L s ps g) hX (fun I' h9 => ⟨rfl, h9⟩)) (fun r I' J' q => ?_)
  obtain ⟨x, rfl, rfl, hX1⟩ := q
  refine ⟨fun _ => rfl, ?_⟩
  refine l_aload dL_575 2 2 rfl rfl ?_
  refine l_aload dL_576 0 0 rfl rfl ?_
  refine l_iload dL_577 3 3 rfl rfl ?_
  refine l_iconst (v := nI 1) dL_578 rfl ?_
  refine l_iadd (z := nI (i + 1)) dL_579 (nI_add i 1) ?_
  refine l_iald dL_580 (by omega) hL ?_
  refine l_callM (As := [.int (Cx C (i + 1))]) (rest := [.int ((r_lost sc L s (Cx C (i + 1))))]) dL_581 ml_L_75 md_X13_lost mv_X13_lost rfl rfl (fun _ => rfl) rfl (Nat.le_of_ble_eq_true rfl) (by decide) (y_lost (d := 0) (K := fun x I' J' => x = (r_lost sc L s (Cx C (i + 1))) ∧ EnM I' J' sc L s ps g) hM (fun I' J' h9 => ⟨rfl, h9⟩)) (fun r I2' J2' q => ?_)
  obtain ⟨x, rfl, rfl, hM1⟩ := q
  refine ⟨fun _ => rfl, ?_⟩
  exact l_same dL_584 rfl (h _ _ _ _ _ _ _ _ _ hX1 hM1)
theorem dL_589 : decode code 589 = .ok (.aload_n 1, 1) := by decide +kernel
theorem dL_590 : decode code 590 = .ok (.aload_n 0, 1) := by decide +kernel
theorem dL_591 : decode code 591 = .ok (.iload_n 3, 1) := by decide +kernel
theorem dL_592 : decode code 592 = .ok (.iconst 1, 1) := by decide +kernel
theorem dL_593 : decode code 593 = .ok (.iadd, 1) := by decide +kernel
theorem dL_594 : decode code 594 = .ok (.iaload, 1) := by decide +kernel
theorem dL_595 : decode code 595 = .ok (.aload_n 0, 1) := by decide +kernel
theorem dL_596 : decode code 596 = .ok (.iload_n 3, 1) := by decide +kernel
theorem dL_597 : decode code 597 = .ok (.iconst 2, 1) := by decide +kernel
theorem dL_598 : decode code 598 = .ok (.iadd, 1) := by decide +kernel
theorem dL_599 : decode code 599 = .ok (.iaload, 1) := by decide +kernel
theorem dL_600 : decode code 600 = .ok (.invokevirtual 76, 3) := by decide +kernel
theorem dL_603 : decode code 603 = .ok (.aload_n 2, 1) := by decide +kernel
theorem dL_604 : decode code 604 = .ok (.aload_n 0, 1) := by decide +kernel
theorem dL_605 : decode code 605 = .ok (.iload_n 3, 1) := by decide +kernel
theorem dL_606 : decode code 606 = .ok (.iconst 1, 1) := by decide +kernel
theorem dL_607 : decode code 607 = .ok (.iadd, 1) := by decide +kernel
theorem dL_608 : decode code 608 = .ok (.iaload, 1) := by decide +kernel
theorem dL_609 : decode code 609 = .ok (.aload_n 0, 1) := by decide +kernel
theorem dL_610 : decode code 610 = .ok (.iload_n 3, 1) := by decide +kernel
theorem dL_611 : decode code 611 = .ok (.iconst 2, 1) := by decide +kernel
theorem dL_612 : decode code 612 = .ok (.iadd, 1) := by decide +kernel
theorem dL_613 : decode code 613 = .ok (.iaload, 1) := by decide +kernel
theorem dL_614 : decode code 614 = .ok (.invokevirtual 79, 3) := by decide +kernel
theorem dL_617 : decode code 617 = .ok (.if_icmp .eq 447, 3) := by decide +kernel
theorem lc_14 {C : Ct} {i : Nat} {I1 : Ii} {J1 : Jj} {I2 : Ii} {J2 : Jj} {sc : Sx} {L : Nat → List Nat} {s : Sx} {ps : Nat → Sx} {g : Sx} (hi : i + 6 ≤ CL C) (hL : CL C ≤ 3072) (hX : EnX I1 sc L s ps g) (hM : EnM I2 J2 sc L s ps g) (h : ∀ I1' J1' I2' J2' sc' L' s' ps' g', EnX I1' sc' L' s' ps' g' → EnM I2' J2' sc' L' s' ps' g' → LW C 1064 (lsC C i) [] I1' J1' I2' J2') : LW C 589 (lsC C i) [] I1 J1 I2 J2 := by
  refine l_aload dL_589 1 1 rfl rfl ?_
  refine l_aload dL_590 0 0 rfl rfl ?_
  refine l_iload dL_591 3 3 rfl rfl ?_
  refine l_iconst (v := nI 1) dL_592 rfl ?_
  refine l_iadd (z := nI (i + 1)) dL_593 (nI_add i 1) ?_
  refine l_iald dL_594 (by omega) hL ?_
  refine l_aload dL_595 0 0 rfl rfl ?_
  refine l_iload dL_596 3 3 rfl rfl ?_
  refine l_iconst (v := nI 2) dL_597 rfl ?_
  refine l_iadd (z := nI (i + 2)) dL_598 (nI_add i 2) ?_
  refine l_iald dL_599 (by omega) hL ?_
  refine l_callX (As := [.int (Cx C (i + 1)), .int (Cx C (i + 2))]) (rest := []) dL_600 ml_L_76 md_X12_master mv_X12_master rfl rfl (fun _ => rfl) rfl (by decide) (by decide) (x_master (d := 0) (K := fun x I' _ => x = (r_master sc L s (Cx C (i + 1)) (Cx C (i + 2))) ∧ EnX I' sc L s ps g) hX (fun I' h9 => ⟨rfl, h9⟩)) (fun r I' J' q => ?_)
  obtain ⟨x, rfl, rfl, hX1⟩ := q
  refine ⟨fun _ => rfl, ?_⟩
  refine l_aload dL_603 2 2 rfl rfl ?_
  refine l_aload dL_604 0 0 rfl rfl ?_
  refine l_iload dL_605 3 3 rfl rfl ?_
  refine l_iconst (v := nI 1) dL_606 rfl ?_
  refine l_iadd (z := nI (i + 1)) dL_607 (nI_add i 1) ?_
  refine l_iald dL_608 (by omega) hL ?_
  refine l_aload dL_609 0 0 rfl rfl ?_
  refine l_iload dL_610 3 3 rfl rfl ?_
  refine l_iconst (v := nI 2) dL_611 rfl ?_
  refine l_iadd (z := nI (i + 2)) dL_612 (nI_add i 2) ?_
  refine l_iald dL_613 (by omega) hL ?_
  refine l_callM (As := [.int (Cx C (i + 1)), .int (Cx C (i + 2))]) (rest := [.int ((r_master sc L s (Cx C (i + 1)) (Cx C (i + 2))))]) dL_614 ml_L_79 md_X13_master mv_X13_master rfl rfl (fun _ => rfl) rfl (Nat.le_of_ble_eq_true rfl) (by decide) (y_master (d := 0) (K := fun x I' J' => x = (r_master sc L s (Cx C (i + 1)) (Cx C (i + 2))) ∧ EnM I' J' sc L s ps g) hM (fun I' J' h9 => ⟨rfl, h9⟩)) (fun r I2' J2' q => ?_)
  obtain ⟨x, rfl, rfl, hM1⟩ := q
  refine ⟨fun _ => rfl, ?_⟩
  exact l_same dL_617 rfl (h _ _ _ _ _ _ _ _ _ hX1 hM1)
theorem dL_622 : decode code 622 = .ok (.aload_n 1, 1) := by decide +kernel
theorem dL_623 : decode code 623 = .ok (.aload_n 0, 1) := by decide +kernel
theorem dL_624 : decode code 624 = .ok (.iload_n 3, 1) := by decide +kernel
theorem dL_625 : decode code 625 = .ok (.iconst 1, 1) := by decide +kernel
theorem dL_626 : decode code 626 = .ok (.iadd, 1) := by decide +kernel
theorem dL_627 : decode code 627 = .ok (.iaload, 1) := by decide +kernel
theorem dL_628 : decode code 628 = .ok (.aload_n 0, 1) := by decide +kernel
theorem dL_629 : decode code 629 = .ok (.iload_n 3, 1) := by decide +kernel
theorem dL_630 : decode code 630 = .ok (.iconst 2, 1) := by decide +kernel
theorem dL_631 : decode code 631 = .ok (.iadd, 1) := by decide +kernel
theorem dL_632 : decode code 632 = .ok (.iaload, 1) := by decide +kernel
theorem dL_633 : decode code 633 = .ok (.aload_n 0, 1) := by decide +kernel
theorem dL_634 : decode code 634 = .ok (.iload_n 3, 1) := by decide +kernel
theorem dL_635 : decode code 635 = .ok (.iconst 3, 1) := by decide +kernel
theorem dL_636 : decode code 636 = .ok (.iadd, 1) := by decide +kernel
theorem dL_637 : decode code 637 = .ok (.iaload, 1) := by decide +kernel
theorem dL_638 : decode code 638 = .ok (.invokevirtual 80, 3) := by decide +kernel
theorem dL_641 : decode code 641 = .ok (.aload_n 2, 1) := by decide +kernel
theorem dL_642 : decode code 642 = .ok (.aload_n 0, 1) := by decide +kernel
theorem dL_643 : decode code 643 = .ok (.iload_n 3, 1) := by decide +kernel
theorem dL_644 : decode code 644 = .ok (.iconst 1, 1) := by decide +kernel
theorem dL_645 : decode code 645 = .ok (.iadd, 1) := by decide +kernel
theorem dL_646 : decode code 646 = .ok (.iaload, 1) := by decide +kernel
theorem dL_647 : decode code 647 = .ok (.aload_n 0, 1) := by decide +kernel
theorem dL_648 : decode code 648 = .ok (.iload_n 3, 1) := by decide +kernel
theorem dL_649 : decode code 649 = .ok (.iconst 2, 1) := by decide +kernel
theorem dL_650 : decode code 650 = .ok (.iadd, 1) := by decide +kernel
theorem dL_651 : decode code 651 = .ok (.iaload, 1) := by decide +kernel
theorem dL_652 : decode code 652 = .ok (.aload_n 0, 1) := by decide +kernel
theorem dL_653 : decode code 653 = .ok (.iload_n 3, 1) := by decide +kernel
theorem dL_654 : decode code 654 = .ok (.iconst 3, 1) := by decide +kernel
theorem dL_655 : decode code 655 = .ok (.iadd, 1) := by decide +kernel
theorem dL_656 : decode code 656 = .ok (.iaload, 1) := by decide +kernel
theorem dL_657 : decode code 657 = .ok (.invokevirtual 83, 3) := by decide +kernel
theorem dL_660 : decode code 660 = .ok (.if_icmp .eq 404, 3) := by decide +kernel
theorem lc_15 {C : Ct} {i : Nat} {I1 : Ii} {J1 : Jj} {I2 : Ii} {J2 : Jj} {sc : Sx} {L : Nat → List Nat} {s : Sx} {ps : Nat → Sx} {g : Sx} (hi : i + 6 ≤ CL C) (hL : CL C ≤ 3072) (hX : EnX I1 sc L s ps g) (hM : EnM I2 J2 sc L s ps g) (h : ∀ I1' J1' I2' J2' sc' L' s' ps' g', EnX I1' sc' L' s' ps' g' → EnM I2' J2' sc' L' s' ps' g' → LW C 1064 (lsC C i) [] I1' J1' I2' J2') : LW C 622 (lsC C i) [] I1 J1 I2 J2 := by
  refine l_aload dL_622 1 1 rfl rfl ?_
  refine l_aload dL_623 0 0 rfl rfl ?_
  refine l_iload dL_624 3 3 rfl rfl ?_
  refine l_iconst (v := nI 1) dL_625 rfl ?_
  refine l_iadd (z := nI (i + 1)) dL_626 (nI_add i 1) ?_
  refine l_iald dL_627 (by omega) hL ?_
  refine l_aload dL_628 0 0 rfl rfl ?_
  refine l_iload dL_629 3 3 rfl rfl ?_
  refine l_iconst (v := nI 2) dL_630 rfl ?_
  refine l_iadd (z := nI (i + 2)) dL_631 (nI_add i 2) ?_
  refine l_iald dL_632 (by omega) hL ?_
  refine l_aload dL_633 0 0 rfl rfl ?_
  refine l_iload dL_634 3 3 rfl rfl ?_
  refine l_iconst (v := nI 3) dL_635 rfl ?_
  refine l_iadd (z := nI (i + 3)) dL_636 (nI_add i 3) ?_
  refine l_iald dL_637 (by omega) hL ?_
  refine l_callX (As := [.int (Cx C (i + 1)), .int (Cx C (i + 2)), .int (Cx C (i + 3))]) (rest := []) dL_638 ml_L_80 md_X12_gift mv_X12_gift rfl rfl (fun _ => rfl) rfl (by decide) (by decide) (x_gift (d := 0) (K := fun x I' _ => x = (r_gift sc L s (Cx C (i + 1)) (Cx C (i + 2)) (Cx C (i + 3))) ∧ EnX I' sc L s ps g) hX (fun I' h9 => ⟨rfl, h9⟩)) (fun r I' J' q => ?_)
  obtain ⟨x, rfl, rfl, hX1⟩ := q
  refine ⟨fun _ => rfl, ?_⟩
  refine l_aload dL_641 2 2 rfl rfl ?_
  refine l_aload dL_642 0 0 rfl rfl ?_
  refine l_iload dL_643 3 3 rfl rfl ?_
  refine l_iconst (v := nI 1) dL_644 rfl ?_
  refine l_iadd (z := nI (i + 1)) dL_645 (nI_add i 1) ?_
  refine l_iald dL_646 (by omega) hL ?_
  refine l_aload dL_647 0 0 rfl rfl ?_
  refine l_iload dL_648 3 3 rfl rfl ?_
  refine l_iconst (v := nI 2) dL_649 rfl ?_
  refine l_iadd (z := nI (i + 2)) dL_650 (nI_add i 2) ?_
  refine l_iald dL_651 (by omega) hL ?_
  refine l_aload dL_652 0 0 rfl rfl ?_
  refine l_iload dL_653 3 3 rfl rfl ?_
  refine l_iconst (v := nI 3) dL_654 rfl ?_
  refine l_iadd (z := nI (i + 3)) dL_655 (nI_add i 3) ?_
  refine l_iald dL_656 (by omega) hL ?_
  refine l_callM (As := [.int (Cx C (i + 1)), .int (Cx C (i + 2)), .int (Cx C (i + 3))]) (rest := [.int ((r_gift sc L s (Cx C (i + 1)) (Cx C (i + 2)) (Cx C (i + 3))))]) dL_657 ml_L_83 md_X13_gift mv_X13_gift rfl rfl (fun _ => rfl) rfl (Nat.le_of_ble_eq_true rfl) (by decide) (y_gift (d := 0) (K := fun x I' J' => x = (r_gift sc L s (Cx C (i + 1)) (Cx C (i + 2)) (Cx C (i + 3))) ∧ EnM I' J' sc L s ps g) hM (fun I' J' h9 => ⟨rfl, h9⟩)) (fun r I2' J2' q => ?_)
  obtain ⟨x, rfl, rfl, hM1⟩ := q
  refine ⟨fun _ => rfl, ?_⟩
  exact l_same dL_660 rfl (h _ _ _ _ _ _ _ _ _ hX1 hM1)
