theorem dL_law_438 : decode code 438 = .ok (.aload_n 1, 1) := by decide +kernel
theorem dL_law_439 : decode code 439 = .ok (.aload_n 0, 1) := by decide +kernel
theorem dL_law_440 : decode code 440 = .ok (.iload_n 3, 1) := by decide +kernel
theorem dL_law_441 : decode code 441 = .ok (.iconst 1, 1) := by decide +kernel
theorem dL_law_442 : decode code 442 = .ok (.iadd, 1) := by decide +kernel
theorem dL_law_443 : decode code 443 = .ok (.iaload, 1) := by decide +kernel
theorem dL_law_444 : decode code 444 = .ok (.aload_n 0, 1) := by decide +kernel
theorem dL_law_445 : decode code 445 = .ok (.iload_n 3, 1) := by decide +kernel
theorem dL_law_446 : decode code 446 = .ok (.iconst 2, 1) := by decide +kernel
theorem dL_law_447 : decode code 447 = .ok (.iadd, 1) := by decide +kernel
theorem dL_law_448 : decode code 448 = .ok (.iaload, 1) := by decide +kernel
theorem dL_law_449 : decode code 449 = .ok (.invokevirtual 65, 3) := by decide +kernel
theorem dL_law_452 : decode code 452 = .ok (.aload_n 2, 1) := by decide +kernel
theorem dL_law_453 : decode code 453 = .ok (.aload_n 0, 1) := by decide +kernel
theorem dL_law_454 : decode code 454 = .ok (.iload_n 3, 1) := by decide +kernel
theorem dL_law_455 : decode code 455 = .ok (.iconst 1, 1) := by decide +kernel
theorem dL_law_456 : decode code 456 = .ok (.iadd, 1) := by decide +kernel
theorem dL_law_457 : decode code 457 = .ok (.iaload, 1) := by decide +kernel
theorem dL_law_458 : decode code 458 = .ok (.aload_n 0, 1) := by decide +kernel
theorem dL_law_459 : decode code 459 = .ok (.iload_n 3, 1) := by decide +kernel
theorem dL_law_460 : decode code 460 = .ok (.iconst 2, 1) := by decide +kernel
theorem dL_law_461 : decode code 461 = .ok (.iadd, 1) := by decide +kernel
theorem dL_law_462 : decode code 462 = .ok (.iaload, 1) := by decide +kernel
theorem dL_law_463 : decode code 463 = .ok (.invokevirtual 68, 3) := by decide +kernel
theorem dL_law_466 : decode code 466 = .ok (.if_icmp .eq 613, 3) := by decide +kernel
theorem dL_law_471 : decode code 471 = .ok (.aload_n 1, 1) := by decide +kernel
theorem dL_law_472 : decode code 472 = .ok (.aload_n 0, 1) := by decide +kernel
theorem dL_law_473 : decode code 473 = .ok (.iload_n 3, 1) := by decide +kernel
theorem dL_law_474 : decode code 474 = .ok (.iconst 1, 1) := by decide +kernel
theorem dL_law_475 : decode code 475 = .ok (.iadd, 1) := by decide +kernel
theorem dL_law_476 : decode code 476 = .ok (.iaload, 1) := by decide +kernel
theorem dL_law_477 : decode code 477 = .ok (.aload_n 0, 1) := by decide +kernel
theorem dL_law_478 : decode code 478 = .ok (.iload_n 3, 1) := by decide +kernel
theorem dL_law_479 : decode code 479 = .ok (.iconst 2, 1) := by decide +kernel
theorem dL_law_480 : decode code 480 = .ok (.iadd, 1) := by decide +kernel
theorem dL_law_481 : decode code 481 = .ok (.iaload, 1) := by decide +kernel
theorem dL_law_482 : decode code 482 = .ok (.aload_n 0, 1) := by decide +kernel
theorem dL_law_483 : decode code 483 = .ok (.iload_n 3, 1) := by decide +kernel
theorem dL_law_484 : decode code 484 = .ok (.iconst 3, 1) := by decide +kernel
theorem dL_law_485 : decode code 485 = .ok (.iadd, 1) := by decide +kernel
theorem dL_law_486 : decode code 486 = .ok (.iaload, 1) := by decide +kernel
theorem dL_law_487 : decode code 487 = .ok (.invokevirtual 69, 3) := by decide +kernel
theorem dL_law_490 : decode code 490 = .ok (.aload_n 2, 1) := by decide +kernel
theorem dL_law_491 : decode code 491 = .ok (.aload_n 0, 1) := by decide +kernel
theorem dL_law_492 : decode code 492 = .ok (.iload_n 3, 1) := by decide +kernel
theorem dL_law_493 : decode code 493 = .ok (.iconst 1, 1) := by decide +kernel
theorem dL_law_494 : decode code 494 = .ok (.iadd, 1) := by decide +kernel
theorem dL_law_495 : decode code 495 = .ok (.iaload, 1) := by decide +kernel
theorem dL_law_496 : decode code 496 = .ok (.aload_n 0, 1) := by decide +kernel
theorem dL_law_497 : decode code 497 = .ok (.iload_n 3, 1) := by decide +kernel
theorem dL_law_498 : decode code 498 = .ok (.iconst 2, 1) := by decide +kernel
theorem dL_law_499 : decode code 499 = .ok (.iadd, 1) := by decide +kernel
theorem dL_law_500 : decode code 500 = .ok (.iaload, 1) := by decide +kernel
theorem dL_law_501 : decode code 501 = .ok (.aload_n 0, 1) := by decide +kernel
theorem dL_law_502 : decode code 502 = .ok (.iload_n 3, 1) := by decide +kernel
theorem dL_law_503 : decode code 503 = .ok (.iconst 3, 1) := by decide +kernel
theorem dL_law_504 : decode code 504 = .ok (.iadd, 1) := by decide +kernel
theorem dL_law_505 : decode code 505 = .ok (.iaload, 1) := by decide +kernel
theorem dL_law_506 : decode code 506 = .ok (.invokevirtual 72, 3) := by decide +kernel
theorem dL_law_509 : decode code 509 = .ok (.if_icmp .eq 570, 3) := by decide +kernel
theorem dL_law_514 : decode code 514 = .ok (.aload_n 1, 1) := by decide +kernel
theorem dL_law_515 : decode code 515 = .ok (.aload_n 0, 1) := by decide +kernel
theorem dL_law_516 : decode code 516 = .ok (.iload_n 3, 1) := by decide +kernel
theorem dL_law_517 : decode code 517 = .ok (.iconst 1, 1) := by decide +kernel
theorem dL_law_518 : decode code 518 = .ok (.iadd, 1) := by decide +kernel
theorem dL_law_519 : decode code 519 = .ok (.iaload, 1) := by decide +kernel
theorem dL_law_520 : decode code 520 = .ok (.invokevirtual 73, 3) := by decide +kernel
theorem dL_law_523 : decode code 523 = .ok (.aload_n 2, 1) := by decide +kernel
theorem dL_law_524 : decode code 524 = .ok (.aload_n 0, 1) := by decide +kernel
theorem dL_law_525 : decode code 525 = .ok (.iload_n 3, 1) := by decide +kernel
theorem dL_law_526 : decode code 526 = .ok (.iconst 1, 1) := by decide +kernel
theorem dL_law_527 : decode code 527 = .ok (.iadd, 1) := by decide +kernel
theorem dL_law_528 : decode code 528 = .ok (.iaload, 1) := by decide +kernel
theorem dL_law_529 : decode code 529 = .ok (.invokevirtual 76, 3) := by decide +kernel
theorem dL_law_532 : decode code 532 = .ok (.if_icmp .eq 547, 3) := by decide +kernel
theorem dL_law_537 : decode code 537 = .ok (.aload_n 1, 1) := by decide +kernel
theorem dL_law_538 : decode code 538 = .ok (.aload_n 0, 1) := by decide +kernel
theorem dL_law_539 : decode code 539 = .ok (.iload_n 3, 1) := by decide +kernel
theorem dL_law_540 : decode code 540 = .ok (.iconst 1, 1) := by decide +kernel
theorem dL_law_541 : decode code 541 = .ok (.iadd, 1) := by decide +kernel
theorem dL_law_542 : decode code 542 = .ok (.iaload, 1) := by decide +kernel
theorem dL_law_543 : decode code 543 = .ok (.aload_n 0, 1) := by decide +kernel
theorem dL_law_544 : decode code 544 = .ok (.iload_n 3, 1) := by decide +kernel
theorem dL_law_545 : decode code 545 = .ok (.iconst 2, 1) := by decide +kernel
theorem dL_law_546 : decode code 546 = .ok (.iadd, 1) := by decide +kernel
theorem dL_law_547 : decode code 547 = .ok (.iaload, 1) := by decide +kernel
theorem dL_law_548 : decode code 548 = .ok (.invokevirtual 77, 3) := by decide +kernel
theorem dL_law_551 : decode code 551 = .ok (.aload_n 2, 1) := by decide +kernel
theorem dL_law_552 : decode code 552 = .ok (.aload_n 0, 1) := by decide +kernel
theorem dL_law_553 : decode code 553 = .ok (.iload_n 3, 1) := by decide +kernel
theorem dL_law_554 : decode code 554 = .ok (.iconst 1, 1) := by decide +kernel
theorem dL_law_555 : decode code 555 = .ok (.iadd, 1) := by decide +kernel
theorem dL_law_556 : decode code 556 = .ok (.iaload, 1) := by decide +kernel
theorem dL_law_557 : decode code 557 = .ok (.aload_n 0, 1) := by decide +kernel
theorem dL_law_558 : decode code 558 = .ok (.iload_n 3, 1) := by decide +kernel
theorem dL_law_559 : decode code 559 = .ok (.iconst 2, 1) := by decide +kernel
theorem dL_law_560 : decode code 560 = .ok (.iadd, 1) := by decide +kernel
theorem dL_law_561 : decode code 561 = .ok (.iaload, 1) := by decide +kernel
theorem dL_law_562 : decode code 562 = .ok (.invokevirtual 80, 3) := by decide +kernel
theorem dL_law_565 : decode code 565 = .ok (.if_icmp .eq 514, 3) := by decide +kernel
section
variable {p : Program} {l : Launch} {e : Env} {s : State} {m : MethodId} {below : List Frame} {meth : Method} {c : Code} {E : VE} {b L : Nat} {xs : Nat → Int32} {a : Nat → Nat → Nat} {am : Nat → Nat} {t : Nat → St} {x : St} {j : Nat}
set_option maxHeartbeats 4000000 in
set_option maxRecDepth 100000 in
theorem lwc12 (X : LX p s m meth c E b L xs) (hr : Rel t x) (hj : j + 7 ≤ L) (hback : ∀ (t' : Nat → St) (x' : St), Rel t' x' → VL p l e s m below meth c E b (wBig E a t' ++ fl [bModel E am x']) 1079 [(3, .int (nI j)), (2, .ref (am 0)), (1, .ref (a 0 0)), (0, .ref b)] []) : VL p l e s m below meth c E b (wBig E a t ++ fl [bModel E am x]) 438 [(3, .int (nI j)), (2, .ref (am 0)), (1, .ref (a 0 0)), (0, .ref b)] [] := by
  obtain ⟨C, hX, hbl, hL⟩ := X
  have hbA : ¬ (fun q : Nat => s.heap.size ≤ q) b := Nat.not_le.mpr hbl
  refine v_aload_n (pc := 438) C 2 rfl rfl dL_law_438 ?_
  refine v_arg (pc := 439) C hX hbl hbA hL 1 (by omega) kn_1 dL_law_439 dL_law_440 dL_law_441 dL_law_442 dL_law_443 ?_
  refine v_arg (pc := 444) C hX hbl hbA hL 2 (by omega) kn_2 dL_law_444 dL_law_445 dL_law_446 dL_law_447 dL_law_448 ?_
  refine v_goLi (pc := 449) C (fun u => wBig E a u) (fun _ => rfl) (v_runL (pc := 449) C [.int (xs (j + 1)), .int (xs (j + 2))] [] (fun sz => ctX11_about l E a (xs (j + 1)) (xs (j + 2)) t (s_about hr (xs (j + 1)) (xs (j + 2))) sz) mfX11_about mvX11_about wmL_65 rfl ⟨Nat.le_of_ble_eq_true rfl, Nat.le_of_ble_eq_true rfl⟩ ⟨rfl, rfl⟩ 0 (ci := 11) (qc := (RX11, TX11, 15)) rfl rfl rfl rfl (Nat.le_of_ble_eq_true rfl) ⟨Nat.le_of_ble_eq_true rfl, Nat.le_of_ble_eq_true rfl⟩ dL_law_449) (fun r t' hw => ?_)
  have hw : wpX12_about (xs (j + 1)) (xs (j + 2)) x (fun r' x' => r = r' ∧ Rel t' x') := hw
  refine v_aload_n (pc := 452) C 1 rfl rfl dL_law_452 ?_
  refine v_arg (pc := 453) C hX hbl hbA hL 1 (by omega) kn_1 dL_law_453 dL_law_454 dL_law_455 dL_law_456 dL_law_457 ?_
  refine v_arg (pc := 458) C hX hbl hbA hL 2 (by omega) kn_2 dL_law_458 dL_law_459 dL_law_460 dL_law_461 dL_law_462 ?_
  refine v_goRi (pc := 463) C (fun u => fl [bModel E am u]) (fun _ => rfl) (v_runR (pc := 463) C [.int (xs (j + 1)), .int (xs (j + 2))] [.int r] (fun sz => ctX12_about l E am (xs (j + 1)) (xs (j + 2)) x hw sz) mfX12_about mvX12_about wmL_68 rfl ⟨Nat.le_of_ble_eq_true rfl, Nat.le_of_ble_eq_true rfl⟩ ⟨rfl, rfl⟩ 0 (ci := 12) (qc := (RX12, TX12, 30)) rfl rfl rfl rfl (Nat.le_of_ble_eq_true rfl) ⟨Nat.le_of_ble_eq_true rfl, Nat.le_of_ble_eq_true rfl⟩ dL_law_463) (fun r' x' h => ?_)
  obtain ⟨e1, hr'⟩ := h
  refine v_icmp_eq (pc := 466) C 1079 rfl dL_law_466 (fun _ => hback t' x' hr') (fun h => absurd e1 h)
set_option maxHeartbeats 4000000 in
set_option maxRecDepth 100000 in
theorem lwc13 (X : LX p s m meth c E b L xs) (hr : Rel t x) (hj : j + 7 ≤ L) (hback : ∀ (t' : Nat → St) (x' : St), Rel t' x' → VL p l e s m below meth c E b (wBig E a t' ++ fl [bModel E am x']) 1079 [(3, .int (nI j)), (2, .ref (am 0)), (1, .ref (a 0 0)), (0, .ref b)] []) : VL p l e s m below meth c E b (wBig E a t ++ fl [bModel E am x]) 471 [(3, .int (nI j)), (2, .ref (am 0)), (1, .ref (a 0 0)), (0, .ref b)] [] := by
  obtain ⟨C, hX, hbl, hL⟩ := X
  have hbA : ¬ (fun q : Nat => s.heap.size ≤ q) b := Nat.not_le.mpr hbl
  refine v_aload_n (pc := 471) C 2 rfl rfl dL_law_471 ?_
  refine v_arg (pc := 472) C hX hbl hbA hL 1 (by omega) kn_1 dL_law_472 dL_law_473 dL_law_474 dL_law_475 dL_law_476 ?_
  refine v_arg (pc := 477) C hX hbl hbA hL 2 (by omega) kn_2 dL_law_477 dL_law_478 dL_law_479 dL_law_480 dL_law_481 ?_
  refine v_arg (pc := 482) C hX hbl hbA hL 3 (by omega) kn_3 dL_law_482 dL_law_483 dL_law_484 dL_law_485 dL_law_486 ?_
  refine v_goLi (pc := 487) C (fun u => wBig E a u) (fun _ => rfl) (v_runL (pc := 487) C [.int (xs (j + 1)), .int (xs (j + 2)), .int (xs (j + 3))] [] (fun sz => ctX11_force l E a (xs (j + 1)) (xs (j + 2)) (xs (j + 3)) t (s_force hr (xs (j + 1)) (xs (j + 2)) (xs (j + 3))) sz) mfX11_force mvX11_force wmL_69 rfl ⟨Nat.le_of_ble_eq_true rfl, Nat.le_of_ble_eq_true rfl⟩ ⟨rfl, rfl⟩ 0 (ci := 11) (qc := (RX11, TX11, 15)) rfl rfl rfl rfl (Nat.le_of_ble_eq_true rfl) ⟨Nat.le_of_ble_eq_true rfl, Nat.le_of_ble_eq_true rfl⟩ dL_law_487) (fun r t' hw => ?_)
  have hw : wpX12_force (xs (j + 1)) (xs (j + 2)) (xs (j + 3)) x (fun r' x' => r = r' ∧ Rel t' x') := hw
  refine v_aload_n (pc := 490) C 1 rfl rfl dL_law_490 ?_
  refine v_arg (pc := 491) C hX hbl hbA hL 1 (by omega) kn_1 dL_law_491 dL_law_492 dL_law_493 dL_law_494 dL_law_495 ?_
  refine v_arg (pc := 496) C hX hbl hbA hL 2 (by omega) kn_2 dL_law_496 dL_law_497 dL_law_498 dL_law_499 dL_law_500 ?_
  refine v_arg (pc := 501) C hX hbl hbA hL 3 (by omega) kn_3 dL_law_501 dL_law_502 dL_law_503 dL_law_504 dL_law_505 ?_
  refine v_goRi (pc := 506) C (fun u => fl [bModel E am u]) (fun _ => rfl) (v_runR (pc := 506) C [.int (xs (j + 1)), .int (xs (j + 2)), .int (xs (j + 3))] [.int r] (fun sz => ctX12_force l E am (xs (j + 1)) (xs (j + 2)) (xs (j + 3)) x hw sz) mfX12_force mvX12_force wmL_72 rfl ⟨Nat.le_of_ble_eq_true rfl, Nat.le_of_ble_eq_true rfl⟩ ⟨rfl, rfl⟩ 0 (ci := 12) (qc := (RX12, TX12, 30)) rfl rfl rfl rfl (Nat.le_of_ble_eq_true rfl) ⟨Nat.le_of_ble_eq_true rfl, Nat.le_of_ble_eq_true rfl⟩ dL_law_506) (fun r' x' h => ?_)
  obtain ⟨e1, hr'⟩ := h
  refine v_icmp_eq (pc := 509) C 1079 rfl dL_law_509 (fun _ => hback t' x' hr') (fun h => absurd e1 h)
set_option maxHeartbeats 4000000 in
set_option maxRecDepth 100000 in
theorem lwc14 (X : LX p s m meth c E b L xs) (hr : Rel t x) (hj : j + 7 ≤ L) (hback : ∀ (t' : Nat → St) (x' : St), Rel t' x' → VL p l e s m below meth c E b (wBig E a t' ++ fl [bModel E am x']) 1079 [(3, .int (nI j)), (2, .ref (am 0)), (1, .ref (a 0 0)), (0, .ref b)] []) : VL p l e s m below meth c E b (wBig E a t ++ fl [bModel E am x]) 514 [(3, .int (nI j)), (2, .ref (am 0)), (1, .ref (a 0 0)), (0, .ref b)] [] := by
  obtain ⟨C, hX, hbl, hL⟩ := X
  have hbA : ¬ (fun q : Nat => s.heap.size ≤ q) b := Nat.not_le.mpr hbl
  refine v_aload_n (pc := 514) C 2 rfl rfl dL_law_514 ?_
  refine v_arg (pc := 515) C hX hbl hbA hL 1 (by omega) kn_1 dL_law_515 dL_law_516 dL_law_517 dL_law_518 dL_law_519 ?_
  refine v_goLi (pc := 520) C (fun u => wBig E a u) (fun _ => rfl) (v_runL (pc := 520) C [.int (xs (j + 1))] [] (fun sz => ctX11_whose l E a (xs (j + 1)) t (s_whose hr (xs (j + 1))) sz) mfX11_whose mvX11_whose wmL_73 rfl ⟨Nat.le_of_ble_eq_true rfl, Nat.le_of_ble_eq_true rfl⟩ ⟨rfl, rfl⟩ 0 (ci := 11) (qc := (RX11, TX11, 15)) rfl rfl rfl rfl (Nat.le_of_ble_eq_true rfl) ⟨Nat.le_of_ble_eq_true rfl, Nat.le_of_ble_eq_true rfl⟩ dL_law_520) (fun r t' hw => ?_)
  have hw : wpX12_whose (xs (j + 1)) x (fun r' x' => r = r' ∧ Rel t' x') := hw
  refine v_aload_n (pc := 523) C 1 rfl rfl dL_law_523 ?_
  refine v_arg (pc := 524) C hX hbl hbA hL 1 (by omega) kn_1 dL_law_524 dL_law_525 dL_law_526 dL_law_527 dL_law_528 ?_
  refine v_goRi (pc := 529) C (fun u => fl [bModel E am u]) (fun _ => rfl) (v_runR (pc := 529) C [.int (xs (j + 1))] [.int r] (fun sz => ctX12_whose l E am (xs (j + 1)) x hw sz) mfX12_whose mvX12_whose wmL_76 rfl ⟨Nat.le_of_ble_eq_true rfl, Nat.le_of_ble_eq_true rfl⟩ ⟨rfl, rfl⟩ 0 (ci := 12) (qc := (RX12, TX12, 30)) rfl rfl rfl rfl (Nat.le_of_ble_eq_true rfl) ⟨Nat.le_of_ble_eq_true rfl, Nat.le_of_ble_eq_true rfl⟩ dL_law_529) (fun r' x' h => ?_)
  obtain ⟨e1, hr'⟩ := h
  refine v_icmp_eq (pc := 532) C 1079 rfl dL_law_532 (fun _ => hback t' x' hr') (fun h => absurd e1 h)
set_option maxHeartbeats 4000000 in
set_option maxRecDepth 100000 in
theorem lwc15 (X : LX p s m meth c E b L xs) (hr : Rel t x) (hj : j + 7 ≤ L) (hback : ∀ (t' : Nat → St) (x' : St), Rel t' x' → VL p l e s m below meth c E b (wBig E a t' ++ fl [bModel E am x']) 1079 [(3, .int (nI j)), (2, .ref (am 0)), (1, .ref (a 0 0)), (0, .ref b)] []) : VL p l e s m below meth c E b (wBig E a t ++ fl [bModel E am x]) 537 [(3, .int (nI j)), (2, .ref (am 0)), (1, .ref (a 0 0)), (0, .ref b)] [] := by
  obtain ⟨C, hX, hbl, hL⟩ := X
  have hbA : ¬ (fun q : Nat => s.heap.size ≤ q) b := Nat.not_le.mpr hbl
  refine v_aload_n (pc := 537) C 2 rfl rfl dL_law_537 ?_
  refine v_arg (pc := 538) C hX hbl hbA hL 1 (by omega) kn_1 dL_law_538 dL_law_539 dL_law_540 dL_law_541 dL_law_542 ?_
  refine v_arg (pc := 543) C hX hbl hbA hL 2 (by omega) kn_2 dL_law_543 dL_law_544 dL_law_545 dL_law_546 dL_law_547 ?_
  refine v_goLi (pc := 548) C (fun u => wBig E a u) (fun _ => rfl) (v_runL (pc := 548) C [.int (xs (j + 1)), .int (xs (j + 2))] [] (fun sz => ctX11_own l E a (xs (j + 1)) (xs (j + 2)) t (s_own hr (xs (j + 1)) (xs (j + 2))) sz) mfX11_own mvX11_own wmL_77 rfl ⟨Nat.le_of_ble_eq_true rfl, Nat.le_of_ble_eq_true rfl⟩ ⟨rfl, rfl⟩ 0 (ci := 11) (qc := (RX11, TX11, 15)) rfl rfl rfl rfl (Nat.le_of_ble_eq_true rfl) ⟨Nat.le_of_ble_eq_true rfl, Nat.le_of_ble_eq_true rfl⟩ dL_law_548) (fun r t' hw => ?_)
  have hw : wpX12_own (xs (j + 1)) (xs (j + 2)) x (fun r' x' => r = r' ∧ Rel t' x') := hw
  refine v_aload_n (pc := 551) C 1 rfl rfl dL_law_551 ?_
  refine v_arg (pc := 552) C hX hbl hbA hL 1 (by omega) kn_1 dL_law_552 dL_law_553 dL_law_554 dL_law_555 dL_law_556 ?_
  refine v_arg (pc := 557) C hX hbl hbA hL 2 (by omega) kn_2 dL_law_557 dL_law_558 dL_law_559 dL_law_560 dL_law_561 ?_
  refine v_goRi (pc := 562) C (fun u => fl [bModel E am u]) (fun _ => rfl) (v_runR (pc := 562) C [.int (xs (j + 1)), .int (xs (j + 2))] [.int r] (fun sz => ctX12_own l E am (xs (j + 1)) (xs (j + 2)) x hw sz) mfX12_own mvX12_own wmL_80 rfl ⟨Nat.le_of_ble_eq_true rfl, Nat.le_of_ble_eq_true rfl⟩ ⟨rfl, rfl⟩ 0 (ci := 12) (qc := (RX12, TX12, 30)) rfl rfl rfl rfl (Nat.le_of_ble_eq_true rfl) ⟨Nat.le_of_ble_eq_true rfl, Nat.le_of_ble_eq_true rfl⟩ dL_law_562) (fun r' x' h => ?_)
  obtain ⟨e1, hr'⟩ := h
  refine v_icmp_eq (pc := 565) C 1079 rfl dL_law_565 (fun _ => hback t' x' hr') (fun h => absurd e1 h)
end
