/-! THE LAW: its cases -/
set_option maxHeartbeats 4000000 in
set_option maxRecDepth 4000 in
theorem lc_part {A d n k z : Nat} {N i : Int} {w : Nat → Int} {dy : Nat → Shp} {g : Hp} {P : Pst} (hs : Sq A N w g) (hw : ∀ q, i3 (w q)) (hi : 0 ≤ i ∧ i + 6 ≤ N) (hI : Inv g) (hC : Ca n dy g g) (hk : k + 1 ≤ 601024) (hz : z + 16 ≤ 7293034) (hN : Nx (d + 123) P A N w i k z) : V miL_law (d + 123) 614 (LW A i) [] n (W0 dy) g k z P := by
  have hn : 100 ≤ n := hC.1
  refine v_aload_n 331 1 lr_331 rfl rfl ?_
  refine l_arg 332 lr_332 lr_333 lr_334 lr_335 lr_336 hs (by omega) ?_
  refine l_arg 337 lr_337 lr_338 lr_339 lr_340 lr_341 hs (by omega) ?_
  refine v_callV (M' := miX11_part) (st := []) [I_ (w (i + 1).toNat), I_ (w (i + 2).toNat)] 342 lr_342 lvL_64 ⟨by omega, by omega⟩ (wk1 dy) (by decide) rfl (show k + 0 ≤ 601024 by omega) (show z + 0 ≤ 7293034 by omega) ?_
  refine cs_part hC hI (hw _) (hw _) (fun v a' g1 e hC1 hK => ?_)
  show V miL_law (d + 123) 630 (LW A i) [I_ v] n (W0 dy) g1 (k + 0) (z + 0) P
  have hs1 := hs.kr hK
  have hI1 := hI.kr hK
  have hn1 : 100 ≤ n := hC1.1
  refine v_aload_n 343 2 lr_343 rfl rfl ?_
  refine l_arg 344 lr_344 lr_345 lr_346 lr_347 lr_348 hs1 (by omega) ?_
  refine l_arg 349 lr_349 lr_350 lr_351 lr_352 lr_353 hs1 (by omega) ?_
  refine v_callV (M' := miX12_part) (st := [I_ v]) [I_ (w (i + 1).toNat), I_ (w (i + 2).toNat)] 354 lr_354 lvL_67 ⟨by omega, by omega⟩ (wk53 dy) (by decide) rfl (show k + 0 + 0 ≤ 601024 by omega) (show z + 0 + 0 ≤ 7293034 by omega) ?_
  refine rs_part hn1 hI1.rf (hw _) (hw _) (fun v' g2 e2 => ?_)
  obtain ⟨ev, hI2, hC2, hK2⟩ := ja (op := fun g => opPart g (w (i + 1).toNat) (w (i + 2).toNat)) (fun g g1 h => opPart_cg h _ _) (fun g => opPart_kc g _ _) (fun a h => inv_part h _ _) hI hK e hC1 e2
  subst ev
  show V miL_law (d + 123) 646 (LW A i) [I_ v', I_ v'] n (W0 dy) g2 (k + 0 + 0) (z + 0 + 0) P
  refine v_ieq_same (tgt := 1519) 355 lr_355 (by decide) ?_
  exact hN _ _ _ _ _ hI2 hC2 (hs1.kc hK2) (by omega) (by omega)
set_option maxHeartbeats 4000000 in
set_option maxRecDepth 4000 in
theorem lc_rodAt {A d n k z : Nat} {N i : Int} {w : Nat → Int} {dy : Nat → Shp} {g : Hp} {P : Pst} (hs : Sq A N w g) (hw : ∀ q, i3 (w q)) (hi : 0 ≤ i ∧ i + 6 ≤ N) (hI : Inv g) (hC : Ca n dy g g) (hk : k + 1 ≤ 601024) (hz : z + 16 ≤ 7293034) (hN : Nx (d + 123) P A N w i k z) : V miL_law (d + 123) 651 (LW A i) [] n (W0 dy) g k z P := by
  have hn : 100 ≤ n := hC.1
  refine v_aload_n 358 1 lr_358 rfl rfl ?_
  refine l_arg 359 lr_359 lr_360 lr_361 lr_362 lr_363 hs (by omega) ?_
  refine l_arg 364 lr_364 lr_365 lr_366 lr_367 lr_368 hs (by omega) ?_
  refine v_callV (M' := miX11_rodAt) (st := []) [I_ (w (i + 1).toNat), I_ (w (i + 2).toNat)] 369 lr_369 lvL_68 ⟨by omega, by omega⟩ (wk1 dy) (by decide) rfl (show k + 0 ≤ 601024 by omega) (show z + 0 ≤ 7293034 by omega) ?_
  refine cs_rodAt hC hI (hw _) (hw _) (fun v a' g1 e hC1 hK => ?_)
  show V miL_law (d + 123) 667 (LW A i) [L_ v] n (W0 dy) g1 (k + 0) (z + 0) P
  have hs1 := hs.kr hK
  have hI1 := hI.kr hK
  have hn1 : 100 ≤ n := hC1.1
  refine v_aload_n 370 2 lr_370 rfl rfl ?_
  refine l_arg 371 lr_371 lr_372 lr_373 lr_374 lr_375 hs1 (by omega) ?_
  refine l_arg 376 lr_376 lr_377 lr_378 lr_379 lr_380 hs1 (by omega) ?_
  refine v_callV (M' := miX12_rodAt) (st := [L_ v]) [I_ (w (i + 1).toNat), I_ (w (i + 2).toNat)] 381 lr_381 lvL_71 ⟨by omega, by omega⟩ (wk53 dy) (by decide) rfl (show k + 0 + 0 ≤ 601024 by omega) (show z + 0 + 0 ≤ 7293034 by omega) ?_
  refine rs_rodAt hn1 hI1.rf (hw _) (hw _) (fun v' g2 e2 => ?_)
  obtain ⟨ev, hI2, hC2, hK2⟩ := jb (op := fun g => opRodAt g (w (i + 1).toNat) (w (i + 2).toNat)) (fun g g1 h => opRodAt_cg h _ _) (fun g => opRodAt_kc g _ _) (fun a h => inv_rodAt h _ _) hI hK e hC1 e2
  subst ev
  show V miL_law (d + 123) 683 (LW A i) [L_ v', L_ v'] n (W0 dy) g2 (k + 0 + 0) (z + 0 + 0) P
  refine v_leq_same (tgt := 1519) 382 lr_382 lr_383 (by decide) ?_
  exact hN _ _ _ _ _ hI2 hC2 (hs1.kc hK2) (by omega) (by omega)
set_option maxHeartbeats 4000000 in
set_option maxRecDepth 4000 in
theorem lc_middle {A d n k z : Nat} {N i : Int} {w : Nat → Int} {dy : Nat → Shp} {g : Hp} {P : Pst} (hs : Sq A N w g) (hw : ∀ q, i3 (w q)) (hi : 0 ≤ i ∧ i + 6 ≤ N) (hI : Inv g) (hC : Ca n dy g g) (hk : k + 1 ≤ 601024) (hz : z + 16 ≤ 7293034) (hN : Nx (d + 123) P A N w i k z) : V miL_law (d + 123) 689 (LW A i) [] n (W0 dy) g k z P := by
  have hn : 100 ≤ n := hC.1
  refine v_aload_n 386 1 lr_386 rfl rfl ?_
  refine l_arg 387 lr_387 lr_388 lr_389 lr_390 lr_391 hs (by omega) ?_
  refine l_arg 392 lr_392 lr_393 lr_394 lr_395 lr_396 hs (by omega) ?_
  refine v_callV (M' := miX11_middle) (st := []) [I_ (w (i + 1).toNat), I_ (w (i + 2).toNat)] 397 lr_397 lvL_72 ⟨by omega, by omega⟩ (wk1 dy) (by decide) rfl (show k + 0 ≤ 601024 by omega) (show z + 0 ≤ 7293034 by omega) ?_
  refine cs_middle hC hI (hw _) (hw _) (fun v a' g1 e hC1 hK => ?_)
  show V miL_law (d + 123) 705 (LW A i) [L_ v] n (W0 dy) g1 (k + 0) (z + 0) P
  have hs1 := hs.kr hK
  have hI1 := hI.kr hK
  have hn1 : 100 ≤ n := hC1.1
  refine v_aload_n 398 2 lr_398 rfl rfl ?_
  refine l_arg 399 lr_399 lr_400 lr_401 lr_402 lr_403 hs1 (by omega) ?_
  refine l_arg 404 lr_404 lr_405 lr_406 lr_407 lr_408 hs1 (by omega) ?_
  refine v_callV (M' := miX12_middle) (st := [L_ v]) [I_ (w (i + 1).toNat), I_ (w (i + 2).toNat)] 409 lr_409 lvL_75 ⟨by omega, by omega⟩ (wk53 dy) (by decide) rfl (show k + 0 + 0 ≤ 601024 by omega) (show z + 0 + 0 ≤ 7293034 by omega) ?_
  refine rs_middle hn1 hI1 (hw _) (hw _) (fun v' g2 e2 => ?_)
  obtain ⟨ev, hI2, hC2, hK2⟩ := ja (op := fun g => opMiddle g (w (i + 1).toNat) (w (i + 2).toNat)) (fun g g1 h => opMiddle_cg h _ _) (fun g => opMiddle_kc g _ _) (fun a h => inv_middle h _ _) hI hK e hC1 e2
  subst ev
  show V miL_law (d + 123) 721 (LW A i) [L_ v', L_ v'] n (W0 dy) g2 (k + 0 + 0) (z + 0 + 0) P
  refine v_leq_same (tgt := 1519) 410 lr_410 lr_411 (by decide) ?_
  exact hN _ _ _ _ _ hI2 hC2 (hs1.kc hK2) (by omega) (by omega)
set_option maxHeartbeats 4000000 in
set_option maxRecDepth 4000 in
theorem lc_hang {A d n k z : Nat} {N i : Int} {w : Nat → Int} {dy : Nat → Shp} {g : Hp} {P : Pst} (hs : Sq A N w g) (hw : ∀ q, i3 (w q)) (hi : 0 ≤ i ∧ i + 6 ≤ N) (hI : Inv g) (hC : Ca n dy g g) (hk : k + 1 ≤ 601024) (hz : z + 16 ≤ 7293034) (hN : Nx (d + 123) P A N w i k z) : V miL_law (d + 123) 727 (LW A i) [] n (W0 dy) g k z P := by
  have hn : 100 ≤ n := hC.1
  refine v_aload_n 414 1 lr_414 rfl rfl ?_
  refine l_arg 415 lr_415 lr_416 lr_417 lr_418 lr_419 hs (by omega) ?_
  refine l_arg 420 lr_420 lr_421 lr_422 lr_423 lr_424 hs (by omega) ?_
  refine l_arg 425 lr_425 lr_426 lr_427 lr_428 lr_429 hs (by omega) ?_
  refine l_arg 430 lr_430 lr_431 lr_432 lr_433 lr_434 hs (by omega) ?_
  refine v_callV (M' := miX11_hang) (st := []) [I_ (w (i + 1).toNat), I_ (w (i + 2).toNat), I_ (w (i + 3).toNat), I_ (w (i + 4).toNat)] 435 lr_435 lvL_76 ⟨by omega, by omega⟩ (wk1 dy) (by decide) rfl (show k + 0 ≤ 601024 by omega) (show z + 0 ≤ 7293034 by omega) ?_
  refine cs_hang hC hI (hw _) (hw _) (hw _) (hw _) (fun v a' g1 e hC1 hK => ?_)
  show V miL_law (d + 123) 755 (LW A i) [I_ v] n (W0 dy) g1 (k + 0) (z + 0) P
  have hs1 := hs.kr hK
  have hI1 := hI.kr hK
  have hn1 : 100 ≤ n := hC1.1
  refine v_aload_n 436 2 lr_436 rfl rfl ?_
  refine l_arg 437 lr_437 lr_438 lr_439 lr_440 lr_441 hs1 (by omega) ?_
  refine l_arg 442 lr_442 lr_443 lr_444 lr_445 lr_446 hs1 (by omega) ?_
  refine l_arg 447 lr_447 lr_448 lr_449 lr_450 lr_451 hs1 (by omega) ?_
  refine l_arg 452 lr_452 lr_453 lr_454 lr_455 lr_456 hs1 (by omega) ?_
  refine v_callV (M' := miX12_hang) (st := [I_ v]) [I_ (w (i + 1).toNat), I_ (w (i + 2).toNat), I_ (w (i + 3).toNat), I_ (w (i + 4).toNat)] 457 lr_457 lvL_80 ⟨by omega, by omega⟩ (wk53 dy) (by decide) rfl (show k + 0 + 0 ≤ 601024 by omega) (show z + 0 + 0 ≤ 7293034 by omega) ?_
  refine rs_hang hn1 hI1.rf (hw _) (hw _) (hw _) (hw _) (fun v' g2 e2 => ?_)
  obtain ⟨ev, hI2, hC2, hK2⟩ := ja (op := fun g => opHang g (w (i + 1).toNat) (w (i + 2).toNat) (w (i + 3).toNat) (w (i + 4).toNat)) (fun g g1 h => opHang_cg h _ _ _ _) (fun g => opHang_kc g _ _ _ _) (fun a h => inv_hang h _ _ _ _) hI hK e hC1 e2
  subst ev
  show V miL_law (d + 123) 783 (LW A i) [I_ v', I_ v'] n (W0 dy) g2 (k + 0 + 0) (z + 0 + 0) P
  refine v_ieq_same (tgt := 1519) 458 lr_458 (by decide) ?_
  exact hN _ _ _ _ _ hI2 hC2 (hs1.kc hK2) (by omega) (by omega)
set_option maxHeartbeats 4000000 in
set_option maxRecDepth 4000 in
theorem lc_take {A d n k z : Nat} {N i : Int} {w : Nat → Int} {dy : Nat → Shp} {g : Hp} {P : Pst} (hs : Sq A N w g) (hw : ∀ q, i3 (w q)) (hi : 0 ≤ i ∧ i + 6 ≤ N) (hI : Inv g) (hC : Ca n dy g g) (hk : k + 1 ≤ 601024) (hz : z + 16 ≤ 7293034) (hN : Nx (d + 123) P A N w i k z) : V miL_law (d + 123) 788 (LW A i) [] n (W0 dy) g k z P := by
  have hn : 100 ≤ n := hC.1
  refine v_aload_n 461 1 lr_461 rfl rfl ?_
  refine l_arg 462 lr_462 lr_463 lr_464 lr_465 lr_466 hs (by omega) ?_
  refine v_callV (M' := miX11_take) (st := []) [I_ (w (i + 1).toNat)] 467 lr_467 lvL_81 ⟨by omega, by omega⟩ (wk1 dy) (by decide) rfl (show k + 0 ≤ 601024 by omega) (show z + 0 ≤ 7293034 by omega) ?_
  refine cs_take hC hI (hw _) (fun v a' g1 e hC1 hK => ?_)
  show V miL_law (d + 123) 798 (LW A i) [I_ v] n (W0 dy) g1 (k + 0) (z + 0) P
  have hs1 := hs.kr hK
  have hI1 := hI.kr hK
  have hn1 : 100 ≤ n := hC1.1
  refine v_aload_n 468 2 lr_468 rfl rfl ?_
  refine l_arg 469 lr_469 lr_470 lr_471 lr_472 lr_473 hs1 (by omega) ?_
  refine v_callV (M' := miX12_take) (st := [I_ v]) [I_ (w (i + 1).toNat)] 474 lr_474 lvL_85 ⟨by omega, by omega⟩ (wk53 dy) (by decide) rfl (show k + 0 + 0 ≤ 601024 by omega) (show z + 0 + 0 ≤ 7293034 by omega) ?_
  refine rs_take hn1 hI1.rf (hw _) (fun v' g2 e2 => ?_)
  obtain ⟨ev, hI2, hC2, hK2⟩ := ja (op := fun g => opTake g (w (i + 1).toNat)) (fun g g1 h => opTake_cg h _) (fun g => opTake_kc g _) (fun a h => inv_take h _) hI hK e hC1 e2
  subst ev
  show V miL_law (d + 123) 808 (LW A i) [I_ v', I_ v'] n (W0 dy) g2 (k + 0 + 0) (z + 0 + 0) P
  refine v_ieq_same (tgt := 1519) 475 lr_475 (by decide) ?_
  exact hN _ _ _ _ _ hI2 hC2 (hs1.kc hK2) (by omega) (by omega)
set_option maxHeartbeats 4000000 in
set_option maxRecDepth 4000 in
theorem lc_thread {A d n k z : Nat} {N i : Int} {w : Nat → Int} {dy : Nat → Shp} {g : Hp} {P : Pst} (hs : Sq A N w g) (hw : ∀ q, i3 (w q)) (hi : 0 ≤ i ∧ i + 6 ≤ N) (hI : Inv g) (hC : Ca n dy g g) (hk : k + 1 ≤ 601024) (hz : z + 16 ≤ 7293034) (hN : Nx (d + 123) P A N w i k z) : V miL_law (d + 123) 813 (LW A i) [] n (W0 dy) g k z P := by
  have hn : 100 ≤ n := hC.1
  refine v_aload_n 478 1 lr_478 rfl rfl ?_
  refine l_arg 479 lr_479 lr_480 lr_481 lr_482 lr_483 hs (by omega) ?_
  refine l_arg 484 lr_484 lr_485 lr_486 lr_487 lr_488 hs (by omega) ?_
  refine v_callV (M' := miX11_thread) (st := []) [I_ (w (i + 1).toNat), I_ (w (i + 2).toNat)] 489 lr_489 lvL_86 ⟨by omega, by omega⟩ (wk1 dy) (by decide) rfl (show k + 0 ≤ 601024 by omega) (show z + 0 ≤ 7293034 by omega) ?_
  refine cs_thread hC hI (hw _) (hw _) (fun v a' g1 e hC1 hK => ?_)
  show V miL_law (d + 123) 829 (LW A i) [I_ v] n (W0 dy) g1 (k + 0) (z + 0) P
  have hs1 := hs.kr hK
  have hI1 := hI.kr hK
  have hn1 : 100 ≤ n := hC1.1
  refine v_aload_n 490 2 lr_490 rfl rfl ?_
  refine l_arg 491 lr_491 lr_492 lr_493 lr_494 lr_495 hs1 (by omega) ?_
  refine l_arg 496 lr_496 lr_497 lr_498 lr_499 lr_500 hs1 (by omega) ?_
  refine v_callV (M' := miX12_thread) (st := [I_ v]) [I_ (w (i + 1).toNat), I_ (w (i + 2).toNat)] 501 lr_501 lvL_90 ⟨by omega, by omega⟩ (wk53 dy) (by decide) rfl (show k + 0 + 0 ≤ 601024 by omega) (show z + 0 + 0 ≤ 7293034 by omega) ?_
  refine rs_thread hn1 hI1.rf (hw _) (hw _) (fun v' g2 e2 => ?_)
  obtain ⟨ev, hI2, hC2, hK2⟩ := ja (op := fun g => opThread g (w (i + 1).toNat) (w (i + 2).toNat)) (fun g g1 h => opThread_cg h _ _) (fun g => opThread_kc g _ _) (fun a h => inv_thread h _ _) hI hK e hC1 e2
  subst ev
  show V miL_law (d + 123) 845 (LW A i) [I_ v', I_ v'] n (W0 dy) g2 (k + 0 + 0) (z + 0 + 0) P
  refine v_ieq_same (tgt := 1519) 502 lr_502 (by decide) ?_
  exact hN _ _ _ _ _ hI2 hC2 (hs1.kc hK2) (by omega) (by omega)
set_option maxHeartbeats 4000000 in
set_option maxRecDepth 4000 in
theorem lc_tied {A d n k z : Nat} {N i : Int} {w : Nat → Int} {dy : Nat → Shp} {g : Hp} {P : Pst} (hs : Sq A N w g) (hw : ∀ q, i3 (w q)) (hi : 0 ≤ i ∧ i + 6 ≤ N) (hI : Inv g) (hC : Ca n dy g g) (hk : k + 1 ≤ 601024) (hz : z + 16 ≤ 7293034) (hN : Nx (d + 123) P A N w i k z) : V miL_law (d + 123) 850 (LW A i) [] n (W0 dy) g k z P := by
  have hn : 100 ≤ n := hC.1
  refine v_aload_n 505 1 lr_505 rfl rfl ?_
  refine l_arg 506 lr_506 lr_507 lr_508 lr_509 lr_510 hs (by omega) ?_
  refine l_arg 511 lr_511 lr_512 lr_513 lr_514 lr_515 hs (by omega) ?_
  refine l_arg 516 lr_516 lr_517 lr_518 lr_519 lr_520 hs (by omega) ?_
  refine v_callV (M' := miX11_tied) (st := []) [I_ (w (i + 1).toNat), I_ (w (i + 2).toNat), I_ (w (i + 3).toNat)] 521 lr_521 lvL_91 ⟨by omega, by omega⟩ (wk1 dy) (by decide) rfl (show k + 0 ≤ 601024 by omega) (show z + 0 ≤ 7293034 by omega) ?_
  refine cs_tied hC hI (hw _) (hw _) (hw _) (fun v a' g1 e hC1 hK => ?_)
  show V miL_law (d + 123) 872 (LW A i) [I_ v] n (W0 dy) g1 (k + 0) (z + 0) P
  have hs1 := hs.kr hK
  have hI1 := hI.kr hK
  have hn1 : 100 ≤ n := hC1.1
  refine v_aload_n 522 2 lr_522 rfl rfl ?_
  refine l_arg 523 lr_523 lr_524 lr_525 lr_526 lr_527 hs1 (by omega) ?_
  refine l_arg 528 lr_528 lr_529 lr_530 lr_531 lr_532 hs1 (by omega) ?_
  refine l_arg 533 lr_533 lr_534 lr_535 lr_536 lr_537 hs1 (by omega) ?_
  refine v_callV (M' := miX12_tied) (st := [I_ v]) [I_ (w (i + 1).toNat), I_ (w (i + 2).toNat), I_ (w (i + 3).toNat)] 538 lr_538 lvL_94 ⟨by omega, by omega⟩ (wk53 dy) (by decide) rfl (show k + 0 + 0 ≤ 601024 by omega) (show z + 0 + 0 ≤ 7293034 by omega) ?_
  refine rs_tied hn1 hI1.rf (hw _) (hw _) (hw _) (fun v' g2 e2 => ?_)
  obtain ⟨ev, hI2, hC2, hK2⟩ := jb (op := fun g => opTied g (w (i + 1).toNat) (w (i + 2).toNat) (w (i + 3).toNat)) (fun g g1 h => opTied_cg h _ _ _) (fun g => opTied_kc g _ _ _) (fun a h => inv_tied h _ _ _) hI hK e hC1 e2
  subst ev
  show V miL_law (d + 123) 894 (LW A i) [I_ v', I_ v'] n (W0 dy) g2 (k + 0 + 0) (z + 0 + 0) P
  refine v_ieq_same (tgt := 1519) 539 lr_539 (by decide) ?_
  exact hN _ _ _ _ _ hI2 hC2 (hs1.kc hK2) (by omega) (by omega)
set_option maxHeartbeats 4000000 in
set_option maxRecDepth 4000 in
theorem lc_swap {A d n k z : Nat} {N i : Int} {w : Nat → Int} {dy : Nat → Shp} {g : Hp} {P : Pst} (hs : Sq A N w g) (hw : ∀ q, i3 (w q)) (hi : 0 ≤ i ∧ i + 6 ≤ N) (hI : Inv g) (hC : Ca n dy g g) (hk : k + 1 ≤ 601024) (hz : z + 16 ≤ 7293034) (hN : Nx (d + 123) P A N w i k z) : V miL_law (d + 123) 899 (LW A i) [] n (W0 dy) g k z P := by
  have hn : 100 ≤ n := hC.1
  refine v_aload_n 542 1 lr_542 rfl rfl ?_
  refine l_arg 543 lr_543 lr_544 lr_545 lr_546 lr_547 hs (by omega) ?_
  refine v_callV (M' := miX11_swap) (st := []) [I_ (w (i + 1).toNat)] 548 lr_548 lvL_95 ⟨by omega, by omega⟩ (wk1 dy) (by decide) rfl (show k + 0 ≤ 601024 by omega) (show z + 0 ≤ 7293034 by omega) ?_
  refine cs_swap hC hI (hw _) (fun v a' g1 e hC1 hK => ?_)
  show V miL_law (d + 123) 909 (LW A i) [I_ v] n (W0 dy) g1 (k + 0) (z + 0) P
  have hs1 := hs.kr hK
  have hI1 := hI.kr hK
  have hn1 : 100 ≤ n := hC1.1
  refine v_aload_n 549 2 lr_549 rfl rfl ?_
  refine l_arg 550 lr_550 lr_551 lr_552 lr_553 lr_554 hs1 (by omega) ?_
  refine v_callV (M' := miX12_swap) (st := [I_ v]) [I_ (w (i + 1).toNat)] 555 lr_555 lvL_98 ⟨by omega, by omega⟩ (wk53 dy) (by decide) rfl (show k + 0 + 0 ≤ 601024 by omega) (show z + 0 + 0 ≤ 7293034 by omega) ?_
  refine rs_swap hn1 hI1.rf hI1.lk60 (hw _) (fun v' g2 e2 => ?_)
  obtain ⟨ev, hI2, hC2, hK2⟩ := jb (op := fun g => opSwap g (w (i + 1).toNat)) (fun g g1 h => opSwap_cg h _) (fun g => opSwap_kc g _) (fun a h => inv_swap h _) hI hK e hC1 e2
  subst ev
  show V miL_law (d + 123) 919 (LW A i) [I_ v', I_ v'] n (W0 dy) g2 (k + 0 + 0) (z + 0 + 0) P
  refine v_ieq_same (tgt := 1519) 556 lr_556 (by decide) ?_
  exact hN _ _ _ _ _ hI2 hC2 (hs1.kc hK2) (by omega) (by omega)
set_option maxHeartbeats 4000000 in
set_option maxRecDepth 4000 in
theorem lc_bears {A d n k z : Nat} {N i : Int} {w : Nat → Int} {dy : Nat → Shp} {g : Hp} {P : Pst} (hs : Sq A N w g) (hw : ∀ q, i3 (w q)) (hi : 0 ≤ i ∧ i + 6 ≤ N) (hI : Inv g) (hC : Ca n dy g g) (hk : k + 1 ≤ 601024) (hz : z + 16 ≤ 7293034) (hN : Nx (d + 123) P A N w i k z) : V miL_law (d + 123) 924 (LW A i) [] n (W0 dy) g k z P := by
  have hn : 100 ≤ n := hC.1
  refine v_aload_n 559 1 lr_559 rfl rfl ?_
  refine l_arg 560 lr_560 lr_561 lr_562 lr_563 lr_564 hs (by omega) ?_
  refine v_callV (M' := miX11_bears) (st := []) [I_ (w (i + 1).toNat)] 565 lr_565 lvL_99 ⟨by omega, by omega⟩ (wk1 dy) (by decide) rfl (show k + 0 ≤ 601024 by omega) (show z + 0 ≤ 7293034 by omega) ?_
  refine cs_bears hC hI (hw _) (fun v a' g1 e hC1 hK => ?_)
  show V miL_law (d + 123) 934 (LW A i) [L_ v] n (W0 dy) g1 (k + 0) (z + 0) P
  have hs1 := hs.kr hK
  have hI1 := hI.kr hK
  have hn1 : 100 ≤ n := hC1.1
  refine v_aload_n 566 2 lr_566 rfl rfl ?_
  refine l_arg 567 lr_567 lr_568 lr_569 lr_570 lr_571 hs1 (by omega) ?_
  refine v_callV (M' := miX12_bears) (st := [L_ v]) [I_ (w (i + 1).toNat)] 572 lr_572 lvL_103 ⟨by omega, by omega⟩ (wk53 dy) (by decide) rfl (show k + 0 + 0 ≤ 601024 by omega) (show z + 0 + 0 ≤ 7293034 by omega) ?_
  refine rs_bears hn1 hI1 (hw _) (fun v' g2 b' e2 hb hk2 => ?_)
  obtain ⟨ev, hI2, hC2, hK2⟩ := jc (op := fun g => opBears g (w (i + 1).toNat)) (fun g g1 h => opBears_cg h _) (fun a h => inv_bears h _) hI hK e hC1 e2 hb hk2
  subst ev
  show V miL_law (d + 123) 944 (LW A i) [L_ v', L_ v'] n (W0 dy) g2 (k + 0 + 0) (z + 0 + 0) P
  refine v_leq_same (tgt := 1519) 573 lr_573 lr_574 (by decide) ?_
  exact hN _ _ _ _ _ hI2 hC2 (hs1.kc hK2) (by omega) (by omega)
