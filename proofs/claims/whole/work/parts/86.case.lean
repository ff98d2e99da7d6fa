theorem dL_law_764 : decode code 764 = .ok (.aload_n 1, 1) := by decide +kernel
theorem dL_law_765 : decode code 765 = .ok (.aload_n 0, 1) := by decide +kernel
theorem dL_law_766 : decode code 766 = .ok (.iload_n 3, 1) := by decide +kernel
theorem dL_law_767 : decode code 767 = .ok (.iconst 1, 1) := by decide +kernel
theorem dL_law_768 : decode code 768 = .ok (.iadd, 1) := by decide +kernel
theorem dL_law_769 : decode code 769 = .ok (.iaload, 1) := by decide +kernel
theorem dL_law_770 : decode code 770 = .ok (.aload_n 0, 1) := by decide +kernel
theorem dL_law_771 : decode code 771 = .ok (.iload_n 3, 1) := by decide +kernel
theorem dL_law_772 : decode code 772 = .ok (.iconst 2, 1) := by decide +kernel
theorem dL_law_773 : decode code 773 = .ok (.iadd, 1) := by decide +kernel
theorem dL_law_774 : decode code 774 = .ok (.iaload, 1) := by decide +kernel
theorem dL_law_775 : decode code 775 = .ok (.invokevirtual 99, 3) := by decide +kernel
theorem dL_law_778 : decode code 778 = .ok (.aload_n 2, 1) := by decide +kernel
theorem dL_law_779 : decode code 779 = .ok (.aload_n 0, 1) := by decide +kernel
theorem dL_law_780 : decode code 780 = .ok (.iload_n 3, 1) := by decide +kernel
theorem dL_law_781 : decode code 781 = .ok (.iconst 1, 1) := by decide +kernel
theorem dL_law_782 : decode code 782 = .ok (.iadd, 1) := by decide +kernel
theorem dL_law_783 : decode code 783 = .ok (.iaload, 1) := by decide +kernel
theorem dL_law_784 : decode code 784 = .ok (.aload_n 0, 1) := by decide +kernel
theorem dL_law_785 : decode code 785 = .ok (.iload_n 3, 1) := by decide +kernel
theorem dL_law_786 : decode code 786 = .ok (.iconst 2, 1) := by decide +kernel
theorem dL_law_787 : decode code 787 = .ok (.iadd, 1) := by decide +kernel
theorem dL_law_788 : decode code 788 = .ok (.iaload, 1) := by decide +kernel
theorem dL_law_789 : decode code 789 = .ok (.invokevirtual 102, 3) := by decide +kernel
theorem dL_law_792 : decode code 792 = .ok (.if_icmp .eq 287, 3) := by decide +kernel
theorem dL_law_797 : decode code 797 = .ok (.aload_n 1, 1) := by decide +kernel
theorem dL_law_798 : decode code 798 = .ok (.aload_n 0, 1) := by decide +kernel
theorem dL_law_799 : decode code 799 = .ok (.iload_n 3, 1) := by decide +kernel
theorem dL_law_800 : decode code 800 = .ok (.iconst 1, 1) := by decide +kernel
theorem dL_law_801 : decode code 801 = .ok (.iadd, 1) := by decide +kernel
theorem dL_law_802 : decode code 802 = .ok (.iaload, 1) := by decide +kernel
theorem dL_law_803 : decode code 803 = .ok (.aload_n 0, 1) := by decide +kernel
theorem dL_law_804 : decode code 804 = .ok (.iload_n 3, 1) := by decide +kernel
theorem dL_law_805 : decode code 805 = .ok (.iconst 2, 1) := by decide +kernel
theorem dL_law_806 : decode code 806 = .ok (.iadd, 1) := by decide +kernel
theorem dL_law_807 : decode code 807 = .ok (.iaload, 1) := by decide +kernel
theorem dL_law_808 : decode code 808 = .ok (.aload_n 0, 1) := by decide +kernel
theorem dL_law_809 : decode code 809 = .ok (.iload_n 3, 1) := by decide +kernel
theorem dL_law_810 : decode code 810 = .ok (.iconst 3, 1) := by decide +kernel
theorem dL_law_811 : decode code 811 = .ok (.iadd, 1) := by decide +kernel
theorem dL_law_812 : decode code 812 = .ok (.iaload, 1) := by decide +kernel
theorem dL_law_813 : decode code 813 = .ok (.aload_n 0, 1) := by decide +kernel
theorem dL_law_814 : decode code 814 = .ok (.iload_n 3, 1) := by decide +kernel
theorem dL_law_815 : decode code 815 = .ok (.iconst 4, 1) := by decide +kernel
theorem dL_law_816 : decode code 816 = .ok (.iadd, 1) := by decide +kernel
theorem dL_law_817 : decode code 817 = .ok (.iaload, 1) := by decide +kernel
theorem dL_law_818 : decode code 818 = .ok (.invokevirtual 103, 3) := by decide +kernel
theorem dL_law_821 : decode code 821 = .ok (.aload_n 2, 1) := by decide +kernel
theorem dL_law_822 : decode code 822 = .ok (.aload_n 0, 1) := by decide +kernel
theorem dL_law_823 : decode code 823 = .ok (.iload_n 3, 1) := by decide +kernel
theorem dL_law_824 : decode code 824 = .ok (.iconst 1, 1) := by decide +kernel
theorem dL_law_825 : decode code 825 = .ok (.iadd, 1) := by decide +kernel
theorem dL_law_826 : decode code 826 = .ok (.iaload, 1) := by decide +kernel
theorem dL_law_827 : decode code 827 = .ok (.aload_n 0, 1) := by decide +kernel
theorem dL_law_828 : decode code 828 = .ok (.iload_n 3, 1) := by decide +kernel
theorem dL_law_829 : decode code 829 = .ok (.iconst 2, 1) := by decide +kernel
theorem dL_law_830 : decode code 830 = .ok (.iadd, 1) := by decide +kernel
theorem dL_law_831 : decode code 831 = .ok (.iaload, 1) := by decide +kernel
theorem dL_law_832 : decode code 832 = .ok (.aload_n 0, 1) := by decide +kernel
theorem dL_law_833 : decode code 833 = .ok (.iload_n 3, 1) := by decide +kernel
theorem dL_law_834 : decode code 834 = .ok (.iconst 3, 1) := by decide +kernel
theorem dL_law_835 : decode code 835 = .ok (.iadd, 1) := by decide +kernel
theorem dL_law_836 : decode code 836 = .ok (.iaload, 1) := by decide +kernel
theorem dL_law_837 : decode code 837 = .ok (.aload_n 0, 1) := by decide +kernel
theorem dL_law_838 : decode code 838 = .ok (.iload_n 3, 1) := by decide +kernel
theorem dL_law_839 : decode code 839 = .ok (.iconst 4, 1) := by decide +kernel
theorem dL_law_840 : decode code 840 = .ok (.iadd, 1) := by decide +kernel
theorem dL_law_841 : decode code 841 = .ok (.iaload, 1) := by decide +kernel
theorem dL_law_842 : decode code 842 = .ok (.invokevirtual 107, 3) := by decide +kernel
theorem dL_law_845 : decode code 845 = .ok (.if_icmp .eq 234, 3) := by decide +kernel
theorem dL_law_850 : decode code 850 = .ok (.aload_n 1, 1) := by decide +kernel
theorem dL_law_851 : decode code 851 = .ok (.aload_n 0, 1) := by decide +kernel
theorem dL_law_852 : decode code 852 = .ok (.iload_n 3, 1) := by decide +kernel
theorem dL_law_853 : decode code 853 = .ok (.iconst 1, 1) := by decide +kernel
theorem dL_law_854 : decode code 854 = .ok (.iadd, 1) := by decide +kernel
theorem dL_law_855 : decode code 855 = .ok (.iaload, 1) := by decide +kernel
theorem dL_law_856 : decode code 856 = .ok (.aload_n 0, 1) := by decide +kernel
theorem dL_law_857 : decode code 857 = .ok (.iload_n 3, 1) := by decide +kernel
theorem dL_law_858 : decode code 858 = .ok (.iconst 2, 1) := by decide +kernel
theorem dL_law_859 : decode code 859 = .ok (.iadd, 1) := by decide +kernel
theorem dL_law_860 : decode code 860 = .ok (.iaload, 1) := by decide +kernel
theorem dL_law_861 : decode code 861 = .ok (.aload_n 0, 1) := by decide +kernel
theorem dL_law_862 : decode code 862 = .ok (.iload_n 3, 1) := by decide +kernel
theorem dL_law_863 : decode code 863 = .ok (.iconst 3, 1) := by decide +kernel
theorem dL_law_864 : decode code 864 = .ok (.iadd, 1) := by decide +kernel
theorem dL_law_865 : decode code 865 = .ok (.iaload, 1) := by decide +kernel
theorem dL_law_866 : decode code 866 = .ok (.invokevirtual 108, 3) := by decide +kernel
theorem dL_law_869 : decode code 869 = .ok (.aload_n 2, 1) := by decide +kernel
theorem dL_law_870 : decode code 870 = .ok (.aload_n 0, 1) := by decide +kernel
theorem dL_law_871 : decode code 871 = .ok (.iload_n 3, 1) := by decide +kernel
theorem dL_law_872 : decode code 872 = .ok (.iconst 1, 1) := by decide +kernel
theorem dL_law_873 : decode code 873 = .ok (.iadd, 1) := by decide +kernel
theorem dL_law_874 : decode code 874 = .ok (.iaload, 1) := by decide +kernel
theorem dL_law_875 : decode code 875 = .ok (.aload_n 0, 1) := by decide +kernel
theorem dL_law_876 : decode code 876 = .ok (.iload_n 3, 1) := by decide +kernel
theorem dL_law_877 : decode code 877 = .ok (.iconst 2, 1) := by decide +kernel
theorem dL_law_878 : decode code 878 = .ok (.iadd, 1) := by decide +kernel
theorem dL_law_879 : decode code 879 = .ok (.iaload, 1) := by decide +kernel
theorem dL_law_880 : decode code 880 = .ok (.aload_n 0, 1) := by decide +kernel
theorem dL_law_881 : decode code 881 = .ok (.iload_n 3, 1) := by decide +kernel
theorem dL_law_882 : decode code 882 = .ok (.iconst 3, 1) := by decide +kernel
theorem dL_law_883 : decode code 883 = .ok (.iadd, 1) := by decide +kernel
theorem dL_law_884 : decode code 884 = .ok (.iaload, 1) := by decide +kernel
theorem dL_law_885 : decode code 885 = .ok (.invokevirtual 111, 3) := by decide +kernel
theorem dL_law_888 : decode code 888 = .ok (.if_icmp .eq 191, 3) := by decide +kernel
theorem dL_law_893 : decode code 893 = .ok (.aload_n 1, 1) := by decide +kernel
theorem dL_law_894 : decode code 894 = .ok (.aload_n 0, 1) := by decide +kernel
theorem dL_law_895 : decode code 895 = .ok (.iload_n 3, 1) := by decide +kernel
theorem dL_law_896 : decode code 896 = .ok (.iconst 1, 1) := by decide +kernel
theorem dL_law_897 : decode code 897 = .ok (.iadd, 1) := by decide +kernel
theorem dL_law_898 : decode code 898 = .ok (.iaload, 1) := by decide +kernel
theorem dL_law_899 : decode code 899 = .ok (.invokevirtual 112, 3) := by decide +kernel
theorem dL_law_902 : decode code 902 = .ok (.aload_n 2, 1) := by decide +kernel
theorem dL_law_903 : decode code 903 = .ok (.aload_n 0, 1) := by decide +kernel
theorem dL_law_904 : decode code 904 = .ok (.iload_n 3, 1) := by decide +kernel
theorem dL_law_905 : decode code 905 = .ok (.iconst 1, 1) := by decide +kernel
theorem dL_law_906 : decode code 906 = .ok (.iadd, 1) := by decide +kernel
theorem dL_law_907 : decode code 907 = .ok (.iaload, 1) := by decide +kernel
theorem dL_law_908 : decode code 908 = .ok (.invokevirtual 115, 3) := by decide +kernel
theorem dL_law_911 : decode code 911 = .ok (.if_icmp .eq 168, 3) := by decide +kernel
section
variable {p : Program} {l : Launch} {e : Env} {s : State} {m : MethodId} {below : List Frame} {meth : Method} {c : Code} {E : VE} {b L : Nat} {xs : Nat → Int32} {a : Nat → Nat → Nat} {am : Nat → Nat} {t : Nat → St} {x : St} {j : Nat}
set_option maxHeartbeats 4000000 in
set_option maxRecDepth 100000 in
theorem lwc20 (X : LX p s m meth c E b L xs) (hr : Rel t x) (hj : j + 7 ≤ L) (hback : ∀ (t' : Nat → St) (x' : St), Rel t' x' → VL p l e s m below meth c E b (wBig E a t' ++ fl [bModel E am x']) 1079 [(3, .int (nI j)), (2, .ref (am 0)), (1, .ref (a 0 0)), (0, .ref b)] []) : VL p l e s m below meth c E b (wBig E a t ++ fl [bModel E am x]) 764 [(3, .int (nI j)), (2, .ref (am 0)), (1, .ref (a 0 0)), (0, .ref b)] [] := by
  obtain ⟨C, hX, hbl, hL⟩ := X
  have hbA : ¬ (fun q : Nat => s.heap.size ≤ q) b := Nat.not_le.mpr hbl
  refine v_aload_n (pc := 764) C 2 rfl rfl dL_law_764 ?_
  refine v_arg (pc := 765) C hX hbl hbA hL 1 (by omega) kn_1 dL_law_765 dL_law_766 dL_law_767 dL_law_768 dL_law_769 ?_
  refine v_arg (pc := 770) C hX hbl hbA hL 2 (by omega) kn_2 dL_law_770 dL_law_771 dL_law_772 dL_law_773 dL_law_774 ?_
  refine v_goLi (pc := 775) C (fun u => wBig E a u) (fun _ => rfl) (v_runL (pc := 775) C [.int (xs (j + 1)), .int (xs (j + 2))] [] (fun sz => ctX11_press l E a (xs (j + 1)) (xs (j + 2)) t (s_press hr (xs (j + 1)) (xs (j + 2))) sz) mfX11_press mvX11_press wmL_99 rfl ⟨Nat.le_of_ble_eq_true rfl, Nat.le_of_ble_eq_true rfl⟩ ⟨rfl, rfl⟩ 0 (ci := 11) (qc := (RX11, TX11, 15)) rfl rfl rfl rfl (Nat.le_of_ble_eq_true rfl) ⟨Nat.le_of_ble_eq_true rfl, Nat.le_of_ble_eq_true rfl⟩ dL_law_775) (fun r t' hw => ?_)
  have hw : wpX12_press (xs (j + 1)) (xs (j + 2)) x (fun r' x' => r = r' ∧ Rel t' x') := hw
  refine v_aload_n (pc := 778) C 1 rfl rfl dL_law_778 ?_
  refine v_arg (pc := 779) C hX hbl hbA hL 1 (by omega) kn_1 dL_law_779 dL_law_780 dL_law_781 dL_law_782 dL_law_783 ?_
  refine v_arg (pc := 784) C hX hbl hbA hL 2 (by omega) kn_2 dL_law_784 dL_law_785 dL_law_786 dL_law_787 dL_law_788 ?_
  refine v_goRi (pc := 789) C (fun u => fl [bModel E am u]) (fun _ => rfl) (v_runR (pc := 789) C [.int (xs (j + 1)), .int (xs (j + 2))] [.int r] (fun sz => ctX12_press l E am (xs (j + 1)) (xs (j + 2)) x hw sz) mfX12_press mvX12_press wmL_102 rfl ⟨Nat.le_of_ble_eq_true rfl, Nat.le_of_ble_eq_true rfl⟩ ⟨rfl, rfl⟩ 0 (ci := 12) (qc := (RX12, TX12, 30)) rfl rfl rfl rfl (Nat.le_of_ble_eq_true rfl) ⟨Nat.le_of_ble_eq_true rfl, Nat.le_of_ble_eq_true rfl⟩ dL_law_789) (fun r' x' h => ?_)
  obtain ⟨e1, hr'⟩ := h
  refine v_icmp_eq (pc := 792) C 1079 rfl dL_law_792 (fun _ => hback t' x' hr') (fun h => absurd e1 h)
set_option maxHeartbeats 4000000 in
set_option maxRecDepth 100000 in
theorem lwc21 (X : LX p s m meth c E b L xs) (hr : Rel t x) (hj : j + 7 ≤ L) (hback : ∀ (t' : Nat → St) (x' : St), Rel t' x' → VL p l e s m below meth c E b (wBig E a t' ++ fl [bModel E am x']) 1079 [(3, .int (nI j)), (2, .ref (am 0)), (1, .ref (a 0 0)), (0, .ref b)] []) : VL p l e s m below meth c E b (wBig E a t ++ fl [bModel E am x]) 797 [(3, .int (nI j)), (2, .ref (am 0)), (1, .ref (a 0 0)), (0, .ref b)] [] := by
  obtain ⟨C, hX, hbl, hL⟩ := X
  have hbA : ¬ (fun q : Nat => s.heap.size ≤ q) b := Nat.not_le.mpr hbl
  refine v_aload_n (pc := 797) C 2 rfl rfl dL_law_797 ?_
  refine v_arg (pc := 798) C hX hbl hbA hL 1 (by omega) kn_1 dL_law_798 dL_law_799 dL_law_800 dL_law_801 dL_law_802 ?_
  refine v_arg (pc := 803) C hX hbl hbA hL 2 (by omega) kn_2 dL_law_803 dL_law_804 dL_law_805 dL_law_806 dL_law_807 ?_
  refine v_arg (pc := 808) C hX hbl hbA hL 3 (by omega) kn_3 dL_law_808 dL_law_809 dL_law_810 dL_law_811 dL_law_812 ?_
  refine v_arg (pc := 813) C hX hbl hbA hL 4 (by omega) kn_4 dL_law_813 dL_law_814 dL_law_815 dL_law_816 dL_law_817 ?_
  refine v_goLi (pc := 818) C (fun u => wBig E a u) (fun _ => rfl) (v_runL (pc := 818) C [.int (xs (j + 1)), .int (xs (j + 2)), .int (xs (j + 3)), .int (xs (j + 4))] [] (fun sz => ctX11_copies l E a (xs (j + 1)) (xs (j + 2)) (xs (j + 3)) (xs (j + 4)) t (s_copies hr (xs (j + 1)) (xs (j + 2)) (xs (j + 3)) (xs (j + 4))) sz) mfX11_copies mvX11_copies wmL_103 rfl ⟨Nat.le_of_ble_eq_true rfl, Nat.le_of_ble_eq_true rfl⟩ ⟨rfl, rfl⟩ 0 (ci := 11) (qc := (RX11, TX11, 15)) rfl rfl rfl rfl (Nat.le_of_ble_eq_true rfl) ⟨Nat.le_of_ble_eq_true rfl, Nat.le_of_ble_eq_true rfl⟩ dL_law_818) (fun r t' hw => ?_)
  have hw : wpX12_copies (xs (j + 1)) (xs (j + 2)) (xs (j + 3)) (xs (j + 4)) x (fun r' x' => r = r' ∧ Rel t' x') := hw
  refine v_aload_n (pc := 821) C 1 rfl rfl dL_law_821 ?_
  refine v_arg (pc := 822) C hX hbl hbA hL 1 (by omega) kn_1 dL_law_822 dL_law_823 dL_law_824 dL_law_825 dL_law_826 ?_
  refine v_arg (pc := 827) C hX hbl hbA hL 2 (by omega) kn_2 dL_law_827 dL_law_828 dL_law_829 dL_law_830 dL_law_831 ?_
  refine v_arg (pc := 832) C hX hbl hbA hL 3 (by omega) kn_3 dL_law_832 dL_law_833 dL_law_834 dL_law_835 dL_law_836 ?_
  refine v_arg (pc := 837) C hX hbl hbA hL 4 (by omega) kn_4 dL_law_837 dL_law_838 dL_law_839 dL_law_840 dL_law_841 ?_
  refine v_goRi (pc := 842) C (fun u => fl [bModel E am u]) (fun _ => rfl) (v_runR (pc := 842) C [.int (xs (j + 1)), .int (xs (j + 2)), .int (xs (j + 3)), .int (xs (j + 4))] [.int r] (fun sz => ctX12_copies l E am (xs (j + 1)) (xs (j + 2)) (xs (j + 3)) (xs (j + 4)) x hw sz) mfX12_copies mvX12_copies wmL_107 rfl ⟨Nat.le_of_ble_eq_true rfl, Nat.le_of_ble_eq_true rfl⟩ ⟨rfl, rfl⟩ 0 (ci := 12) (qc := (RX12, TX12, 30)) rfl rfl rfl rfl (Nat.le_of_ble_eq_true rfl) ⟨Nat.le_of_ble_eq_true rfl, Nat.le_of_ble_eq_true rfl⟩ dL_law_842) (fun r' x' h => ?_)
  obtain ⟨e1, hr'⟩ := h
  refine v_icmp_eq (pc := 845) C 1079 rfl dL_law_845 (fun _ => hback t' x' hr') (fun h => absurd e1 h)
set_option maxHeartbeats 4000000 in
set_option maxRecDepth 100000 in
theorem lwc22 (X : LX p s m meth c E b L xs) (hr : Rel t x) (hj : j + 7 ≤ L) (hback : ∀ (t' : Nat → St) (x' : St), Rel t' x' → VL p l e s m below meth c E b (wBig E a t' ++ fl [bModel E am x']) 1079 [(3, .int (nI j)), (2, .ref (am 0)), (1, .ref (a 0 0)), (0, .ref b)] []) : VL p l e s m below meth c E b (wBig E a t ++ fl [bModel E am x]) 850 [(3, .int (nI j)), (2, .ref (am 0)), (1, .ref (a 0 0)), (0, .ref b)] [] := by
  obtain ⟨C, hX, hbl, hL⟩ := X
  have hbA : ¬ (fun q : Nat => s.heap.size ≤ q) b := Nat.not_le.mpr hbl
  refine v_aload_n (pc := 850) C 2 rfl rfl dL_law_850 ?_
  refine v_arg (pc := 851) C hX hbl hbA hL 1 (by omega) kn_1 dL_law_851 dL_law_852 dL_law_853 dL_law_854 dL_law_855 ?_
  refine v_arg (pc := 856) C hX hbl hbA hL 2 (by omega) kn_2 dL_law_856 dL_law_857 dL_law_858 dL_law_859 dL_law_860 ?_
  refine v_arg (pc := 861) C hX hbl hbA hL 3 (by omega) kn_3 dL_law_861 dL_law_862 dL_law_863 dL_law_864 dL_law_865 ?_
  refine v_goLi (pc := 866) C (fun u => wBig E a u) (fun _ => rfl) (v_runL (pc := 866) C [.int (xs (j + 1)), .int (xs (j + 2)), .int (xs (j + 3))] [] (fun sz => ctX11_rub l E a (xs (j + 1)) (xs (j + 2)) (xs (j + 3)) t (s_rub hr (xs (j + 1)) (xs (j + 2)) (xs (j + 3))) sz) mfX11_rub mvX11_rub wmL_108 rfl ⟨Nat.le_of_ble_eq_true rfl, Nat.le_of_ble_eq_true rfl⟩ ⟨rfl, rfl⟩ 0 (ci := 11) (qc := (RX11, TX11, 15)) rfl rfl rfl rfl (Nat.le_of_ble_eq_true rfl) ⟨Nat.le_of_ble_eq_true rfl, Nat.le_of_ble_eq_true rfl⟩ dL_law_866) (fun r t' hw => ?_)
  have hw : wpX12_rub (xs (j + 1)) (xs (j + 2)) (xs (j + 3)) x (fun r' x' => r = r' ∧ Rel t' x') := hw
  refine v_aload_n (pc := 869) C 1 rfl rfl dL_law_869 ?_
  refine v_arg (pc := 870) C hX hbl hbA hL 1 (by omega) kn_1 dL_law_870 dL_law_871 dL_law_872 dL_law_873 dL_law_874 ?_
  refine v_arg (pc := 875) C hX hbl hbA hL 2 (by omega) kn_2 dL_law_875 dL_law_876 dL_law_877 dL_law_878 dL_law_879 ?_
  refine v_arg (pc := 880) C hX hbl hbA hL 3 (by omega) kn_3 dL_law_880 dL_law_881 dL_law_882 dL_law_883 dL_law_884 ?_
  refine v_goRi (pc := 885) C (fun u => fl [bModel E am u]) (fun _ => rfl) (v_runR (pc := 885) C [.int (xs (j + 1)), .int (xs (j + 2)), .int (xs (j + 3))] [.int r] (fun sz => ctX12_rub l E am (xs (j + 1)) (xs (j + 2)) (xs (j + 3)) x hw sz) mfX12_rub mvX12_rub wmL_111 rfl ⟨Nat.le_of_ble_eq_true rfl, Nat.le_of_ble_eq_true rfl⟩ ⟨rfl, rfl⟩ 0 (ci := 12) (qc := (RX12, TX12, 30)) rfl rfl rfl rfl (Nat.le_of_ble_eq_true rfl) ⟨Nat.le_of_ble_eq_true rfl, Nat.le_of_ble_eq_true rfl⟩ dL_law_885) (fun r' x' h => ?_)
  obtain ⟨e1, hr'⟩ := h
  refine v_icmp_eq (pc := 888) C 1079 rfl dL_law_888 (fun _ => hback t' x' hr') (fun h => absurd e1 h)
set_option maxHeartbeats 4000000 in
set_option maxRecDepth 100000 in
theorem lwc23 (X : LX p s m meth c E b L xs) (hr : Rel t x) (hj : j + 7 ≤ L) (hback : ∀ (t' : Nat → St) (x' : St), Rel t' x' → VL p l e s m below meth c E b (wBig E a t' ++ fl [bModel E am x']) 1079 [(3, .int (nI j)), (2, .ref (am 0)), (1, .ref (a 0 0)), (0, .ref b)] []) : VL p l e s m below meth c E b (wBig E a t ++ fl [bModel E am x]) 893 [(3, .int (nI j)), (2, .ref (am 0)), (1, .ref (a 0 0)), (0, .ref b)] [] := by
  obtain ⟨C, hX, hbl, hL⟩ := X
  have hbA : ¬ (fun q : Nat => s.heap.size ≤ q) b := Nat.not_le.mpr hbl
  refine v_aload_n (pc := 893) C 2 rfl rfl dL_law_893 ?_
  refine v_arg (pc := 894) C hX hbl hbA hL 1 (by omega) kn_1 dL_law_894 dL_law_895 dL_law_896 dL_law_897 dL_law_898 ?_
  refine v_goLi (pc := 899) C (fun u => wBig E a u) (fun _ => rfl) (v_runL (pc := 899) C [.int (xs (j + 1))] [] (fun sz => ctX11_torn l E a (xs (j + 1)) t (s_torn hr (xs (j + 1))) sz) mfX11_torn mvX11_torn wmL_112 rfl ⟨Nat.le_of_ble_eq_true rfl, Nat.le_of_ble_eq_true rfl⟩ ⟨rfl, rfl⟩ 0 (ci := 11) (qc := (RX11, TX11, 15)) rfl rfl rfl rfl (Nat.le_of_ble_eq_true rfl) ⟨Nat.le_of_ble_eq_true rfl, Nat.le_of_ble_eq_true rfl⟩ dL_law_899) (fun r t' hw => ?_)
  have hw : wpX12_torn (xs (j + 1)) x (fun r' x' => r = r' ∧ Rel t' x') := hw
  refine v_aload_n (pc := 902) C 1 rfl rfl dL_law_902 ?_
  refine v_arg (pc := 903) C hX hbl hbA hL 1 (by omega) kn_1 dL_law_903 dL_law_904 dL_law_905 dL_law_906 dL_law_907 ?_
  refine v_goRi (pc := 908) C (fun u => fl [bModel E am u]) (fun _ => rfl) (v_runR (pc := 908) C [.int (xs (j + 1))] [.int r] (fun sz => ctX12_torn l E am (xs (j + 1)) x hw sz) mfX12_torn mvX12_torn wmL_115 rfl ⟨Nat.le_of_ble_eq_true rfl, Nat.le_of_ble_eq_true rfl⟩ ⟨rfl, rfl⟩ 0 (ci := 12) (qc := (RX12, TX12, 30)) rfl rfl rfl rfl (Nat.le_of_ble_eq_true rfl) ⟨Nat.le_of_ble_eq_true rfl, Nat.le_of_ble_eq_true rfl⟩ dL_law_908) (fun r' x' h => ?_)
  obtain ⟨e1, hr'⟩ := h
  refine v_icmp_eq (pc := 911) C 1079 rfl dL_law_911 (fun _ => hback t' x' hr') (fun h => absurd e1 h)
end
