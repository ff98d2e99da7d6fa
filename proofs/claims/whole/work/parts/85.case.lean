theorem dL_law_570 : decode code 570 = .ok (.aload_n 1, 1) := by decide +kernel
theorem dL_law_571 : decode code 571 = .ok (.aload_n 0, 1) := by decide +kernel
theorem dL_law_572 : decode code 572 = .ok (.iload_n 3, 1) := by decide +kernel
theorem dL_law_573 : decode code 573 = .ok (.iconst 1, 1) := by decide +kernel
theorem dL_law_574 : decode code 574 = .ok (.iadd, 1) := by decide +kernel
theorem dL_law_575 : decode code 575 = .ok (.iaload, 1) := by decide +kernel
theorem dL_law_576 : decode code 576 = .ok (.aload_n 0, 1) := by decide +kernel
theorem dL_law_577 : decode code 577 = .ok (.iload_n 3, 1) := by decide +kernel
theorem dL_law_578 : decode code 578 = .ok (.iconst 2, 1) := by decide +kernel
theorem dL_law_579 : decode code 579 = .ok (.iadd, 1) := by decide +kernel
theorem dL_law_580 : decode code 580 = .ok (.iaload, 1) := by decide +kernel
theorem dL_law_581 : decode code 581 = .ok (.invokevirtual 81, 3) := by decide +kernel
theorem dL_law_584 : decode code 584 = .ok (.aload_n 2, 1) := by decide +kernel
theorem dL_law_585 : decode code 585 = .ok (.aload_n 0, 1) := by decide +kernel
theorem dL_law_586 : decode code 586 = .ok (.iload_n 3, 1) := by decide +kernel
theorem dL_law_587 : decode code 587 = .ok (.iconst 1, 1) := by decide +kernel
theorem dL_law_588 : decode code 588 = .ok (.iadd, 1) := by decide +kernel
theorem dL_law_589 : decode code 589 = .ok (.iaload, 1) := by decide +kernel
theorem dL_law_590 : decode code 590 = .ok (.aload_n 0, 1) := by decide +kernel
theorem dL_law_591 : decode code 591 = .ok (.iload_n 3, 1) := by decide +kernel
theorem dL_law_592 : decode code 592 = .ok (.iconst 2, 1) := by decide +kernel
theorem dL_law_593 : decode code 593 = .ok (.iadd, 1) := by decide +kernel
theorem dL_law_594 : decode code 594 = .ok (.iaload, 1) := by decide +kernel
theorem dL_law_595 : decode code 595 = .ok (.invokevirtual 84, 3) := by decide +kernel
theorem dL_law_598 : decode code 598 = .ok (.if_icmp .eq 481, 3) := by decide +kernel
theorem dL_law_603 : decode code 603 = .ok (.aload_n 1, 1) := by decide +kernel
theorem dL_law_604 : decode code 604 = .ok (.aload_n 0, 1) := by decide +kernel
theorem dL_law_605 : decode code 605 = .ok (.iload_n 3, 1) := by decide +kernel
theorem dL_law_606 : decode code 606 = .ok (.iconst 1, 1) := by decide +kernel
theorem dL_law_607 : decode code 607 = .ok (.iadd, 1) := by decide +kernel
theorem dL_law_608 : decode code 608 = .ok (.iaload, 1) := by decide +kernel
theorem dL_law_609 : decode code 609 = .ok (.aload_n 0, 1) := by decide +kernel
theorem dL_law_610 : decode code 610 = .ok (.iload_n 3, 1) := by decide +kernel
theorem dL_law_611 : decode code 611 = .ok (.iconst 2, 1) := by decide +kernel
theorem dL_law_612 : decode code 612 = .ok (.iadd, 1) := by decide +kernel
theorem dL_law_613 : decode code 613 = .ok (.iaload, 1) := by decide +kernel
theorem dL_law_614 : decode code 614 = .ok (.aload_n 0, 1) := by decide +kernel
theorem dL_law_615 : decode code 615 = .ok (.iload_n 3, 1) := by decide +kernel
theorem dL_law_616 : decode code 616 = .ok (.iconst 3, 1) := by decide +kernel
theorem dL_law_617 : decode code 617 = .ok (.iadd, 1) := by decide +kernel
theorem dL_law_618 : decode code 618 = .ok (.iaload, 1) := by decide +kernel
theorem dL_law_619 : decode code 619 = .ok (.aload_n 0, 1) := by decide +kernel
theorem dL_law_620 : decode code 620 = .ok (.iload_n 3, 1) := by decide +kernel
theorem dL_law_621 : decode code 621 = .ok (.iconst 4, 1) := by decide +kernel
theorem dL_law_622 : decode code 622 = .ok (.iadd, 1) := by decide +kernel
theorem dL_law_623 : decode code 623 = .ok (.iaload, 1) := by decide +kernel
theorem dL_law_624 : decode code 624 = .ok (.aload_n 0, 1) := by decide +kernel
theorem dL_law_625 : decode code 625 = .ok (.iload_n 3, 1) := by decide +kernel
theorem dL_law_626 : decode code 626 = .ok (.iconst 5, 1) := by decide +kernel
theorem dL_law_627 : decode code 627 = .ok (.iadd, 1) := by decide +kernel
theorem dL_law_628 : decode code 628 = .ok (.iaload, 1) := by decide +kernel
theorem dL_law_629 : decode code 629 = .ok (.aload_n 0, 1) := by decide +kernel
theorem dL_law_630 : decode code 630 = .ok (.iload_n 3, 1) := by decide +kernel
theorem dL_law_631 : decode code 631 = .ok (.bipush 6, 2) := by decide +kernel
theorem dL_law_633 : decode code 633 = .ok (.iadd, 1) := by decide +kernel
theorem dL_law_634 : decode code 634 = .ok (.iaload, 1) := by decide +kernel
theorem dL_law_635 : decode code 635 = .ok (.invokevirtual 85, 3) := by decide +kernel
theorem dL_law_638 : decode code 638 = .ok (.aload_n 2, 1) := by decide +kernel
theorem dL_law_639 : decode code 639 = .ok (.aload_n 0, 1) := by decide +kernel
theorem dL_law_640 : decode code 640 = .ok (.iload_n 3, 1) := by decide +kernel
theorem dL_law_641 : decode code 641 = .ok (.iconst 1, 1) := by decide +kernel
theorem dL_law_642 : decode code 642 = .ok (.iadd, 1) := by decide +kernel
theorem dL_law_643 : decode code 643 = .ok (.iaload, 1) := by decide +kernel
theorem dL_law_644 : decode code 644 = .ok (.aload_n 0, 1) := by decide +kernel
theorem dL_law_645 : decode code 645 = .ok (.iload_n 3, 1) := by decide +kernel
theorem dL_law_646 : decode code 646 = .ok (.iconst 2, 1) := by decide +kernel
theorem dL_law_647 : decode code 647 = .ok (.iadd, 1) := by decide +kernel
theorem dL_law_648 : decode code 648 = .ok (.iaload, 1) := by decide +kernel
theorem dL_law_649 : decode code 649 = .ok (.aload_n 0, 1) := by decide +kernel
theorem dL_law_650 : decode code 650 = .ok (.iload_n 3, 1) := by decide +kernel
theorem dL_law_651 : decode code 651 = .ok (.iconst 3, 1) := by decide +kernel
theorem dL_law_652 : decode code 652 = .ok (.iadd, 1) := by decide +kernel
theorem dL_law_653 : decode code 653 = .ok (.iaload, 1) := by decide +kernel
theorem dL_law_654 : decode code 654 = .ok (.aload_n 0, 1) := by decide +kernel
theorem dL_law_655 : decode code 655 = .ok (.iload_n 3, 1) := by decide +kernel
theorem dL_law_656 : decode code 656 = .ok (.iconst 4, 1) := by decide +kernel
theorem dL_law_657 : decode code 657 = .ok (.iadd, 1) := by decide +kernel
theorem dL_law_658 : decode code 658 = .ok (.iaload, 1) := by decide +kernel
theorem dL_law_659 : decode code 659 = .ok (.aload_n 0, 1) := by decide +kernel
theorem dL_law_660 : decode code 660 = .ok (.iload_n 3, 1) := by decide +kernel
theorem dL_law_661 : decode code 661 = .ok (.iconst 5, 1) := by decide +kernel
theorem dL_law_662 : decode code 662 = .ok (.iadd, 1) := by decide +kernel
theorem dL_law_663 : decode code 663 = .ok (.iaload, 1) := by decide +kernel
theorem dL_law_664 : decode code 664 = .ok (.aload_n 0, 1) := by decide +kernel
theorem dL_law_665 : decode code 665 = .ok (.iload_n 3, 1) := by decide +kernel
theorem dL_law_666 : decode code 666 = .ok (.bipush 6, 2) := by decide +kernel
theorem dL_law_668 : decode code 668 = .ok (.iadd, 1) := by decide +kernel
theorem dL_law_669 : decode code 669 = .ok (.iaload, 1) := by decide +kernel
theorem dL_law_670 : decode code 670 = .ok (.invokevirtual 89, 3) := by decide +kernel
theorem dL_law_673 : decode code 673 = .ok (.if_icmp .eq 406, 3) := by decide +kernel
theorem dL_law_678 : decode code 678 = .ok (.aload_n 1, 1) := by decide +kernel
theorem dL_law_679 : decode code 679 = .ok (.aload_n 0, 1) := by decide +kernel
theorem dL_law_680 : decode code 680 = .ok (.iload_n 3, 1) := by decide +kernel
theorem dL_law_681 : decode code 681 = .ok (.iconst 1, 1) := by decide +kernel
theorem dL_law_682 : decode code 682 = .ok (.iadd, 1) := by decide +kernel
theorem dL_law_683 : decode code 683 = .ok (.iaload, 1) := by decide +kernel
theorem dL_law_684 : decode code 684 = .ok (.aload_n 0, 1) := by decide +kernel
theorem dL_law_685 : decode code 685 = .ok (.iload_n 3, 1) := by decide +kernel
theorem dL_law_686 : decode code 686 = .ok (.iconst 2, 1) := by decide +kernel
theorem dL_law_687 : decode code 687 = .ok (.iadd, 1) := by decide +kernel
theorem dL_law_688 : decode code 688 = .ok (.iaload, 1) := by decide +kernel
theorem dL_law_689 : decode code 689 = .ok (.aload_n 0, 1) := by decide +kernel
theorem dL_law_690 : decode code 690 = .ok (.iload_n 3, 1) := by decide +kernel
theorem dL_law_691 : decode code 691 = .ok (.iconst 3, 1) := by decide +kernel
theorem dL_law_692 : decode code 692 = .ok (.iadd, 1) := by decide +kernel
theorem dL_law_693 : decode code 693 = .ok (.iaload, 1) := by decide +kernel
theorem dL_law_694 : decode code 694 = .ok (.aload_n 0, 1) := by decide +kernel
theorem dL_law_695 : decode code 695 = .ok (.iload_n 3, 1) := by decide +kernel
theorem dL_law_696 : decode code 696 = .ok (.iconst 4, 1) := by decide +kernel
theorem dL_law_697 : decode code 697 = .ok (.iadd, 1) := by decide +kernel
theorem dL_law_698 : decode code 698 = .ok (.iaload, 1) := by decide +kernel
theorem dL_law_699 : decode code 699 = .ok (.aload_n 0, 1) := by decide +kernel
theorem dL_law_700 : decode code 700 = .ok (.iload_n 3, 1) := by decide +kernel
theorem dL_law_701 : decode code 701 = .ok (.iconst 5, 1) := by decide +kernel
theorem dL_law_702 : decode code 702 = .ok (.iadd, 1) := by decide +kernel
theorem dL_law_703 : decode code 703 = .ok (.iaload, 1) := by decide +kernel
theorem dL_law_704 : decode code 704 = .ok (.invokevirtual 90, 3) := by decide +kernel
theorem dL_law_707 : decode code 707 = .ok (.aload_n 2, 1) := by decide +kernel
theorem dL_law_708 : decode code 708 = .ok (.aload_n 0, 1) := by decide +kernel
theorem dL_law_709 : decode code 709 = .ok (.iload_n 3, 1) := by decide +kernel
theorem dL_law_710 : decode code 710 = .ok (.iconst 1, 1) := by decide +kernel
theorem dL_law_711 : decode code 711 = .ok (.iadd, 1) := by decide +kernel
theorem dL_law_712 : decode code 712 = .ok (.iaload, 1) := by decide +kernel
theorem dL_law_713 : decode code 713 = .ok (.aload_n 0, 1) := by decide +kernel
theorem dL_law_714 : decode code 714 = .ok (.iload_n 3, 1) := by decide +kernel
theorem dL_law_715 : decode code 715 = .ok (.iconst 2, 1) := by decide +kernel
theorem dL_law_716 : decode code 716 = .ok (.iadd, 1) := by decide +kernel
theorem dL_law_717 : decode code 717 = .ok (.iaload, 1) := by decide +kernel
theorem dL_law_718 : decode code 718 = .ok (.aload_n 0, 1) := by decide +kernel
theorem dL_law_719 : decode code 719 = .ok (.iload_n 3, 1) := by decide +kernel
theorem dL_law_720 : decode code 720 = .ok (.iconst 3, 1) := by decide +kernel
theorem dL_law_721 : decode code 721 = .ok (.iadd, 1) := by decide +kernel
theorem dL_law_722 : decode code 722 = .ok (.iaload, 1) := by decide +kernel
theorem dL_law_723 : decode code 723 = .ok (.aload_n 0, 1) := by decide +kernel
theorem dL_law_724 : decode code 724 = .ok (.iload_n 3, 1) := by decide +kernel
theorem dL_law_725 : decode code 725 = .ok (.iconst 4, 1) := by decide +kernel
theorem dL_law_726 : decode code 726 = .ok (.iadd, 1) := by decide +kernel
theorem dL_law_727 : decode code 727 = .ok (.iaload, 1) := by decide +kernel
theorem dL_law_728 : decode code 728 = .ok (.aload_n 0, 1) := by decide +kernel
theorem dL_law_729 : decode code 729 = .ok (.iload_n 3, 1) := by decide +kernel
theorem dL_law_730 : decode code 730 = .ok (.iconst 5, 1) := by decide +kernel
theorem dL_law_731 : decode code 731 = .ok (.iadd, 1) := by decide +kernel
theorem dL_law_732 : decode code 732 = .ok (.iaload, 1) := by decide +kernel
theorem dL_law_733 : decode code 733 = .ok (.invokevirtual 94, 3) := by decide +kernel
theorem dL_law_736 : decode code 736 = .ok (.if_icmp .eq 343, 3) := by decide +kernel
theorem dL_law_741 : decode code 741 = .ok (.aload_n 1, 1) := by decide +kernel
theorem dL_law_742 : decode code 742 = .ok (.aload_n 0, 1) := by decide +kernel
theorem dL_law_743 : decode code 743 = .ok (.iload_n 3, 1) := by decide +kernel
theorem dL_law_744 : decode code 744 = .ok (.iconst 1, 1) := by decide +kernel
theorem dL_law_745 : decode code 745 = .ok (.iadd, 1) := by decide +kernel
theorem dL_law_746 : decode code 746 = .ok (.iaload, 1) := by decide +kernel
theorem dL_law_747 : decode code 747 = .ok (.invokevirtual 95, 3) := by decide +kernel
theorem dL_law_750 : decode code 750 = .ok (.aload_n 2, 1) := by decide +kernel
theorem dL_law_751 : decode code 751 = .ok (.aload_n 0, 1) := by decide +kernel
theorem dL_law_752 : decode code 752 = .ok (.iload_n 3, 1) := by decide +kernel
theorem dL_law_753 : decode code 753 = .ok (.iconst 1, 1) := by decide +kernel
theorem dL_law_754 : decode code 754 = .ok (.iadd, 1) := by decide +kernel
theorem dL_law_755 : decode code 755 = .ok (.iaload, 1) := by decide +kernel
theorem dL_law_756 : decode code 756 = .ok (.invokevirtual 98, 3) := by decide +kernel
theorem dL_law_759 : decode code 759 = .ok (.if_icmp .eq 320, 3) := by decide +kernel
section
variable {p : Program} {l : Launch} {e : Env} {s : State} {m : MethodId} {below : List Frame} {meth : Method} {c : Code} {E : VE} {b L : Nat} {xs : Nat → Int32} {a : Nat → Nat → Nat} {am : Nat → Nat} {t : Nat → St} {x : St} {j : Nat}
set_option maxHeartbeats 4000000 in
set_option maxRecDepth 100000 in
theorem lwc16 (X : LX p s m meth c E b L xs) (hr : Rel t x) (hj : j + 7 ≤ L) (hback : ∀ (t' : Nat → St) (x' : St), Rel t' x' → VL p l e s m below meth c E b (wBig E a t' ++ fl [bModel E am x']) 1079 [(3, .int (nI j)), (2, .ref (am 0)), (1, .ref (a 0 0)), (0, .ref b)] []) : VL p l e s m below meth c E b (wBig E a t ++ fl [bModel E am x]) 570 [(3, .int (nI j)), (2, .ref (am 0)), (1, .ref (a 0 0)), (0, .ref b)] [] := by
  obtain ⟨C, hX, hbl, hL⟩ := X
  have hbA : ¬ (fun q : Nat => s.heap.size ≤ q) b := Nat.not_le.mpr hbl
  refine v_aload_n (pc := 570) C 2 rfl rfl dL_law_570 ?_
  refine v_arg (pc := 571) C hX hbl hbA hL 1 (by omega) kn_1 dL_law_571 dL_law_572 dL_law_573 dL_law_574 dL_law_575 ?_
  refine v_arg (pc := 576) C hX hbl hbA hL 2 (by omega) kn_2 dL_law_576 dL_law_577 dL_law_578 dL_law_579 dL_law_580 ?_
  refine v_goLi (pc := 581) C (fun u => wBig E a u) (fun _ => rfl) (v_runL (pc := 581) C [.int (xs (j + 1)), .int (xs (j + 2))] [] (fun sz => ctX11_shown l E a (xs (j + 1)) (xs (j + 2)) t (s_shown hr (xs (j + 1)) (xs (j + 2))) sz) mfX11_shown mvX11_shown wmL_81 rfl ⟨Nat.le_of_ble_eq_true rfl, Nat.le_of_ble_eq_true rfl⟩ ⟨rfl, rfl⟩ 0 (ci := 11) (qc := (RX11, TX11, 15)) rfl rfl rfl rfl (Nat.le_of_ble_eq_true rfl) ⟨Nat.le_of_ble_eq_true rfl, Nat.le_of_ble_eq_true rfl⟩ dL_law_581) (fun r t' hw => ?_)
  have hw : wpX12_shown (xs (j + 1)) (xs (j + 2)) x (fun r' x' => r = r' ∧ Rel t' x') := hw
  refine v_aload_n (pc := 584) C 1 rfl rfl dL_law_584 ?_
  refine v_arg (pc := 585) C hX hbl hbA hL 1 (by omega) kn_1 dL_law_585 dL_law_586 dL_law_587 dL_law_588 dL_law_589 ?_
  refine v_arg (pc := 590) C hX hbl hbA hL 2 (by omega) kn_2 dL_law_590 dL_law_591 dL_law_592 dL_law_593 dL_law_594 ?_
  refine v_goRi (pc := 595) C (fun u => fl [bModel E am u]) (fun _ => rfl) (v_runR (pc := 595) C [.int (xs (j + 1)), .int (xs (j + 2))] [.int r] (fun sz => ctX12_shown l E am (xs (j + 1)) (xs (j + 2)) x hw sz) mfX12_shown mvX12_shown wmL_84 rfl ⟨Nat.le_of_ble_eq_true rfl, Nat.le_of_ble_eq_true rfl⟩ ⟨rfl, rfl⟩ 0 (ci := 12) (qc := (RX12, TX12, 30)) rfl rfl rfl rfl (Nat.le_of_ble_eq_true rfl) ⟨Nat.le_of_ble_eq_true rfl, Nat.le_of_ble_eq_true rfl⟩ dL_law_595) (fun r' x' h => ?_)
  obtain ⟨e1, hr'⟩ := h
  refine v_icmp_eq (pc := 598) C 1079 rfl dL_law_598 (fun _ => hback t' x' hr') (fun h => absurd e1 h)
set_option maxHeartbeats 4000000 in
set_option maxRecDepth 100000 in
theorem lwc17 (X : LX p s m meth c E b L xs) (hr : Rel t x) (hj : j + 7 ≤ L) (hback : ∀ (t' : Nat → St) (x' : St), Rel t' x' → VL p l e s m below meth c E b (wBig E a t' ++ fl [bModel E am x']) 1079 [(3, .int (nI j)), (2, .ref (am 0)), (1, .ref (a 0 0)), (0, .ref b)] []) : VL p l e s m below meth c E b (wBig E a t ++ fl [bModel E am x]) 603 [(3, .int (nI j)), (2, .ref (am 0)), (1, .ref (a 0 0)), (0, .ref b)] [] := by
  obtain ⟨C, hX, hbl, hL⟩ := X
  have hbA : ¬ (fun q : Nat => s.heap.size ≤ q) b := Nat.not_le.mpr hbl
  refine v_aload_n (pc := 603) C 2 rfl rfl dL_law_603 ?_
  refine v_arg (pc := 604) C hX hbl hbA hL 1 (by omega) kn_1 dL_law_604 dL_law_605 dL_law_606 dL_law_607 dL_law_608 ?_
  refine v_arg (pc := 609) C hX hbl hbA hL 2 (by omega) kn_2 dL_law_609 dL_law_610 dL_law_611 dL_law_612 dL_law_613 ?_
  refine v_arg (pc := 614) C hX hbl hbA hL 3 (by omega) kn_3 dL_law_614 dL_law_615 dL_law_616 dL_law_617 dL_law_618 ?_
  refine v_arg (pc := 619) C hX hbl hbA hL 4 (by omega) kn_4 dL_law_619 dL_law_620 dL_law_621 dL_law_622 dL_law_623 ?_
  refine v_arg (pc := 624) C hX hbl hbA hL 5 (by omega) kn_5 dL_law_624 dL_law_625 dL_law_626 dL_law_627 dL_law_628 ?_
  refine v_argb (pc := 629) C hX hbl hbA hL 6 (by omega) kn_6 dL_law_629 dL_law_630 dL_law_631 dL_law_633 dL_law_634 ?_
  refine v_goLi (pc := 635) C (fun u => wBig E a u) (fun _ => rfl) (v_runL (pc := 635) C [.int (xs (j + 1)), .int (xs (j + 2)), .int (xs (j + 3)), .int (xs (j + 4)), .int (xs (j + 5)), .int (xs (j + 6))] [] (fun sz => ctX11_lost l E a (xs (j + 1)) (xs (j + 2)) (xs (j + 3)) (xs (j + 4)) (xs (j + 5)) (xs (j + 6)) t (s_lost hr (xs (j + 1)) (xs (j + 2)) (xs (j + 3)) (xs (j + 4)) (xs (j + 5)) (xs (j + 6))) sz) mfX11_lost mvX11_lost wmL_85 rfl ⟨Nat.le_of_ble_eq_true rfl, Nat.le_of_ble_eq_true rfl⟩ ⟨rfl, rfl⟩ 0 (ci := 11) (qc := (RX11, TX11, 15)) rfl rfl rfl rfl (Nat.le_of_ble_eq_true rfl) ⟨Nat.le_of_ble_eq_true rfl, Nat.le_of_ble_eq_true rfl⟩ dL_law_635) (fun r t' hw => ?_)
  have hw : wpX12_lost (xs (j + 1)) (xs (j + 2)) (xs (j + 3)) (xs (j + 4)) (xs (j + 5)) (xs (j + 6)) x (fun r' x' => r = r' ∧ Rel t' x') := hw
  refine v_aload_n (pc := 638) C 1 rfl rfl dL_law_638 ?_
  refine v_arg (pc := 639) C hX hbl hbA hL 1 (by omega) kn_1 dL_law_639 dL_law_640 dL_law_641 dL_law_642 dL_law_643 ?_
  refine v_arg (pc := 644) C hX hbl hbA hL 2 (by omega) kn_2 dL_law_644 dL_law_645 dL_law_646 dL_law_647 dL_law_648 ?_
  refine v_arg (pc := 649) C hX hbl hbA hL 3 (by omega) kn_3 dL_law_649 dL_law_650 dL_law_651 dL_law_652 dL_law_653 ?_
  refine v_arg (pc := 654) C hX hbl hbA hL 4 (by omega) kn_4 dL_law_654 dL_law_655 dL_law_656 dL_law_657 dL_law_658 ?_
  refine v_arg (pc := 659) C hX hbl hbA hL 5 (by omega) kn_5 dL_law_659 dL_law_660 dL_law_661 dL_law_662 dL_law_663 ?_
  refine v_argb (pc := 664) C hX hbl hbA hL 6 (by omega) kn_6 dL_law_664 dL_law_665 dL_law_666 dL_law_668 dL_law_669 ?_
  refine v_goRi (pc := 670) C (fun u => fl [bModel E am u]) (fun _ => rfl) (v_runR (pc := 670) C [.int (xs (j + 1)), .int (xs (j + 2)), .int (xs (j + 3)), .int (xs (j + 4)), .int (xs (j + 5)), .int (xs (j + 6))] [.int r] (fun sz => ctX12_lost l E am (xs (j + 1)) (xs (j + 2)) (xs (j + 3)) (xs (j + 4)) (xs (j + 5)) (xs (j + 6)) x hw sz) mfX12_lost mvX12_lost wmL_89 rfl ⟨Nat.le_of_ble_eq_true rfl, Nat.le_of_ble_eq_true rfl⟩ ⟨rfl, rfl⟩ 0 (ci := 12) (qc := (RX12, TX12, 30)) rfl rfl rfl rfl (Nat.le_of_ble_eq_true rfl) ⟨Nat.le_of_ble_eq_true rfl, Nat.le_of_ble_eq_true rfl⟩ dL_law_670) (fun r' x' h => ?_)
  obtain ⟨e1, hr'⟩ := h
  refine v_icmp_eq (pc := 673) C 1079 rfl dL_law_673 (fun _ => hback t' x' hr') (fun h => absurd e1 h)
set_option maxHeartbeats 4000000 in
set_option maxRecDepth 100000 in
theorem lwc18 (X : LX p s m meth c E b L xs) (hr : Rel t x) (hj : j + 7 ≤ L) (hback : ∀ (t' : Nat → St) (x' : St), Rel t' x' → VL p l e s m below meth c E b (wBig E a t' ++ fl [bModel E am x']) 1079 [(3, .int (nI j)), (2, .ref (am 0)), (1, .ref (a 0 0)), (0, .ref b)] []) : VL p l e s m below meth c E b (wBig E a t ++ fl [bModel E am x]) 678 [(3, .int (nI j)), (2, .ref (am 0)), (1, .ref (a 0 0)), (0, .ref b)] [] := by
  obtain ⟨C, hX, hbl, hL⟩ := X
  have hbA : ¬ (fun q : Nat => s.heap.size ≤ q) b := Nat.not_le.mpr hbl
  refine v_aload_n (pc := 678) C 2 rfl rfl dL_law_678 ?_
  refine v_arg (pc := 679) C hX hbl hbA hL 1 (by omega) kn_1 dL_law_679 dL_law_680 dL_law_681 dL_law_682 dL_law_683 ?_
  refine v_arg (pc := 684) C hX hbl hbA hL 2 (by omega) kn_2 dL_law_684 dL_law_685 dL_law_686 dL_law_687 dL_law_688 ?_
  refine v_arg (pc := 689) C hX hbl hbA hL 3 (by omega) kn_3 dL_law_689 dL_law_690 dL_law_691 dL_law_692 dL_law_693 ?_
  refine v_arg (pc := 694) C hX hbl hbA hL 4 (by omega) kn_4 dL_law_694 dL_law_695 dL_law_696 dL_law_697 dL_law_698 ?_
  refine v_arg (pc := 699) C hX hbl hbA hL 5 (by omega) kn_5 dL_law_699 dL_law_700 dL_law_701 dL_law_702 dL_law_703 ?_
  refine v_goLi (pc := 704) C (fun u => wBig E a u) (fun _ => rfl) (v_runL (pc := 704) C [.int (xs (j + 1)), .int (xs (j + 2)), .int (xs (j + 3)), .int (xs (j + 4)), .int (xs (j + 5))] [] (fun sz => ctX11_pen l E a (xs (j + 1)) (xs (j + 2)) (xs (j + 3)) (xs (j + 4)) (xs (j + 5)) t (s_pen hr (xs (j + 1)) (xs (j + 2)) (xs (j + 3)) (xs (j + 4)) (xs (j + 5))) sz) mfX11_pen mvX11_pen wmL_90 rfl ⟨Nat.le_of_ble_eq_true rfl, Nat.le_of_ble_eq_true rfl⟩ ⟨rfl, rfl⟩ 0 (ci := 11) (qc := (RX11, TX11, 15)) rfl rfl rfl rfl (Nat.le_of_ble_eq_true rfl) ⟨Nat.le_of_ble_eq_true rfl, Nat.le_of_ble_eq_true rfl⟩ dL_law_704) (fun r t' hw => ?_)
  have hw : wpX12_pen (xs (j + 1)) (xs (j + 2)) (xs (j + 3)) (xs (j + 4)) (xs (j + 5)) x (fun r' x' => r = r' ∧ Rel t' x') := hw
  refine v_aload_n (pc := 707) C 1 rfl rfl dL_law_707 ?_
  refine v_arg (pc := 708) C hX hbl hbA hL 1 (by omega) kn_1 dL_law_708 dL_law_709 dL_law_710 dL_law_711 dL_law_712 ?_
  refine v_arg (pc := 713) C hX hbl hbA hL 2 (by omega) kn_2 dL_law_713 dL_law_714 dL_law_715 dL_law_716 dL_law_717 ?_
  refine v_arg (pc := 718) C hX hbl hbA hL 3 (by omega) kn_3 dL_law_718 dL_law_719 dL_law_720 dL_law_721 dL_law_722 ?_
  refine v_arg (pc := 723) C hX hbl hbA hL 4 (by omega) kn_4 dL_law_723 dL_law_724 dL_law_725 dL_law_726 dL_law_727 ?_
  refine v_arg (pc := 728) C hX hbl hbA hL 5 (by omega) kn_5 dL_law_728 dL_law_729 dL_law_730 dL_law_731 dL_law_732 ?_
  refine v_goRi (pc := 733) C (fun u => fl [bModel E am u]) (fun _ => rfl) (v_runR (pc := 733) C [.int (xs (j + 1)), .int (xs (j + 2)), .int (xs (j + 3)), .int (xs (j + 4)), .int (xs (j + 5))] [.int r] (fun sz => ctX12_pen l E am (xs (j + 1)) (xs (j + 2)) (xs (j + 3)) (xs (j + 4)) (xs (j + 5)) x hw sz) mfX12_pen mvX12_pen wmL_94 rfl ⟨Nat.le_of_ble_eq_true rfl, Nat.le_of_ble_eq_true rfl⟩ ⟨rfl, rfl⟩ 0 (ci := 12) (qc := (RX12, TX12, 30)) rfl rfl rfl rfl (Nat.le_of_ble_eq_true rfl) ⟨Nat.le_of_ble_eq_true rfl, Nat.le_of_ble_eq_true rfl⟩ dL_law_733) (fun r' x' h => ?_)
  obtain ⟨e1, hr'⟩ := h
  refine v_icmp_eq (pc := 736) C 1079 rfl dL_law_736 (fun _ => hback t' x' hr') (fun h => absurd e1 h)
set_option maxHeartbeats 4000000 in
set_option maxRecDepth 100000 in
theorem lwc19 (X : LX p s m meth c E b L xs) (hr : Rel t x) (hj : j + 7 ≤ L) (hback : ∀ (t' : Nat → St) (x' : St), Rel t' x' → VL p l e s m below meth c E b (wBig E a t' ++ fl [bModel E am x']) 1079 [(3, .int (nI j)), (2, .ref (am 0)), (1, .ref (a 0 0)), (0, .ref b)] []) : VL p l e s m below meth c E b (wBig E a t ++ fl [bModel E am x]) 741 [(3, .int (nI j)), (2, .ref (am 0)), (1, .ref (a 0 0)), (0, .ref b)] [] := by
  obtain ⟨C, hX, hbl, hL⟩ := X
  have hbA : ¬ (fun q : Nat => s.heap.size ≤ q) b := Nat.not_le.mpr hbl
  refine v_aload_n (pc := 741) C 2 rfl rfl dL_law_741 ?_
  refine v_arg (pc := 742) C hX hbl hbA hL 1 (by omega) kn_1 dL_law_742 dL_law_743 dL_law_744 dL_law_745 dL_law_746 ?_
  refine v_goLi (pc := 747) C (fun u => wBig E a u) (fun _ => rfl) (v_runL (pc := 747) C [.int (xs (j + 1))] [] (fun sz => ctX11_orders l E a (xs (j + 1)) t (s_orders hr (xs (j + 1))) sz) mfX11_orders mvX11_orders wmL_95 rfl ⟨Nat.le_of_ble_eq_true rfl, Nat.le_of_ble_eq_true rfl⟩ ⟨rfl, rfl⟩ 0 (ci := 11) (qc := (RX11, TX11, 15)) rfl rfl rfl rfl (Nat.le_of_ble_eq_true rfl) ⟨Nat.le_of_ble_eq_true rfl, Nat.le_of_ble_eq_true rfl⟩ dL_law_747) (fun r t' hw => ?_)
  have hw : wpX12_orders (xs (j + 1)) x (fun r' x' => r = r' ∧ Rel t' x') := hw
  refine v_aload_n (pc := 750) C 1 rfl rfl dL_law_750 ?_
  refine v_arg (pc := 751) C hX hbl hbA hL 1 (by omega) kn_1 dL_law_751 dL_law_752 dL_law_753 dL_law_754 dL_law_755 ?_
  refine v_goRi (pc := 756) C (fun u => fl [bModel E am u]) (fun _ => rfl) (v_runR (pc := 756) C [.int (xs (j + 1))] [.int r] (fun sz => ctX12_orders l E am (xs (j + 1)) x hw sz) mfX12_orders mvX12_orders wmL_98 rfl ⟨Nat.le_of_ble_eq_true rfl, Nat.le_of_ble_eq_true rfl⟩ ⟨rfl, rfl⟩ 0 (ci := 12) (qc := (RX12, TX12, 30)) rfl rfl rfl rfl (Nat.le_of_ble_eq_true rfl) ⟨Nat.le_of_ble_eq_true rfl, Nat.le_of_ble_eq_true rfl⟩ dL_law_756) (fun r' x' h => ?_)
  obtain ⟨e1, hr'⟩ := h
  refine v_icmp_eq (pc := 759) C 1079 rfl dL_law_759 (fun _ => hback t' x' hr') (fun h => absurd e1 h)
end
