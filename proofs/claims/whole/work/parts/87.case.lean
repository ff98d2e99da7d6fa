theorem dL_law_916 : decode code 916 = .ok (.aload_n 1, 1) := by decide +kernel
theorem dL_law_917 : decode code 917 = .ok (.aload_n 0, 1) := by decide +kernel
theorem dL_law_918 : decode code 918 = .ok (.iload_n 3, 1) := by decide +kernel
theorem dL_law_919 : decode code 919 = .ok (.iconst 1, 1) := by decide +kernel
theorem dL_law_920 : decode code 920 = .ok (.iadd, 1) := by decide +kernel
theorem dL_law_921 : decode code 921 = .ok (.iaload, 1) := by decide +kernel
theorem dL_law_922 : decode code 922 = .ok (.aload_n 0, 1) := by decide +kernel
theorem dL_law_923 : decode code 923 = .ok (.iload_n 3, 1) := by decide +kernel
theorem dL_law_924 : decode code 924 = .ok (.iconst 2, 1) := by decide +kernel
theorem dL_law_925 : decode code 925 = .ok (.iadd, 1) := by decide +kernel
theorem dL_law_926 : decode code 926 = .ok (.iaload, 1) := by decide +kernel
theorem dL_law_927 : decode code 927 = .ok (.invokevirtual 116, 3) := by decide +kernel
theorem dL_law_930 : decode code 930 = .ok (.aload_n 2, 1) := by decide +kernel
theorem dL_law_931 : decode code 931 = .ok (.aload_n 0, 1) := by decide +kernel
theorem dL_law_932 : decode code 932 = .ok (.iload_n 3, 1) := by decide +kernel
theorem dL_law_933 : decode code 933 = .ok (.iconst 1, 1) := by decide +kernel
theorem dL_law_934 : decode code 934 = .ok (.iadd, 1) := by decide +kernel
theorem dL_law_935 : decode code 935 = .ok (.iaload, 1) := by decide +kernel
theorem dL_law_936 : decode code 936 = .ok (.aload_n 0, 1) := by decide +kernel
theorem dL_law_937 : decode code 937 = .ok (.iload_n 3, 1) := by decide +kernel
theorem dL_law_938 : decode code 938 = .ok (.iconst 2, 1) := by decide +kernel
theorem dL_law_939 : decode code 939 = .ok (.iadd, 1) := by decide +kernel
theorem dL_law_940 : decode code 940 = .ok (.iaload, 1) := by decide +kernel
theorem dL_law_941 : decode code 941 = .ok (.invokevirtual 119, 3) := by decide +kernel
theorem dL_law_944 : decode code 944 = .ok (.if_icmp .eq 135, 3) := by decide +kernel
theorem dL_law_949 : decode code 949 = .ok (.aload_n 1, 1) := by decide +kernel
theorem dL_law_950 : decode code 950 = .ok (.aload_n 0, 1) := by decide +kernel
theorem dL_law_951 : decode code 951 = .ok (.iload_n 3, 1) := by decide +kernel
theorem dL_law_952 : decode code 952 = .ok (.iconst 1, 1) := by decide +kernel
theorem dL_law_953 : decode code 953 = .ok (.iadd, 1) := by decide +kernel
theorem dL_law_954 : decode code 954 = .ok (.iaload, 1) := by decide +kernel
theorem dL_law_955 : decode code 955 = .ok (.invokevirtual 120, 3) := by decide +kernel
theorem dL_law_958 : decode code 958 = .ok (.aload_n 2, 1) := by decide +kernel
theorem dL_law_959 : decode code 959 = .ok (.aload_n 0, 1) := by decide +kernel
theorem dL_law_960 : decode code 960 = .ok (.iload_n 3, 1) := by decide +kernel
theorem dL_law_961 : decode code 961 = .ok (.iconst 1, 1) := by decide +kernel
theorem dL_law_962 : decode code 962 = .ok (.iadd, 1) := by decide +kernel
theorem dL_law_963 : decode code 963 = .ok (.iaload, 1) := by decide +kernel
theorem dL_law_964 : decode code 964 = .ok (.invokevirtual 124, 3) := by decide +kernel
theorem dL_law_967 : decode code 967 = .ok (.lcmp, 1) := by decide +kernel
theorem dL_law_968 : decode code 968 = .ok (.ifCond .eq 111, 3) := by decide +kernel
theorem dL_law_973 : decode code 973 = .ok (.aload_n 1, 1) := by decide +kernel
theorem dL_law_974 : decode code 974 = .ok (.aload_n 0, 1) := by decide +kernel
theorem dL_law_975 : decode code 975 = .ok (.iload_n 3, 1) := by decide +kernel
theorem dL_law_976 : decode code 976 = .ok (.iconst 1, 1) := by decide +kernel
theorem dL_law_977 : decode code 977 = .ok (.iadd, 1) := by decide +kernel
theorem dL_law_978 : decode code 978 = .ok (.iaload, 1) := by decide +kernel
theorem dL_law_979 : decode code 979 = .ok (.invokevirtual 125, 3) := by decide +kernel
theorem dL_law_982 : decode code 982 = .ok (.aload_n 2, 1) := by decide +kernel
theorem dL_law_983 : decode code 983 = .ok (.aload_n 0, 1) := by decide +kernel
theorem dL_law_984 : decode code 984 = .ok (.iload_n 3, 1) := by decide +kernel
theorem dL_law_985 : decode code 985 = .ok (.iconst 1, 1) := by decide +kernel
theorem dL_law_986 : decode code 986 = .ok (.iadd, 1) := by decide +kernel
theorem dL_law_987 : decode code 987 = .ok (.iaload, 1) := by decide +kernel
theorem dL_law_988 : decode code 988 = .ok (.invokevirtual 128, 3) := by decide +kernel
theorem dL_law_991 : decode code 991 = .ok (.if_icmp .eq 88, 3) := by decide +kernel
theorem dL_law_996 : decode code 996 = .ok (.aload_n 1, 1) := by decide +kernel
theorem dL_law_997 : decode code 997 = .ok (.aload_n 0, 1) := by decide +kernel
theorem dL_law_998 : decode code 998 = .ok (.iload_n 3, 1) := by decide +kernel
theorem dL_law_999 : decode code 999 = .ok (.iconst 1, 1) := by decide +kernel
theorem dL_law_1000 : decode code 1000 = .ok (.iadd, 1) := by decide +kernel
theorem dL_law_1001 : decode code 1001 = .ok (.iaload, 1) := by decide +kernel
theorem dL_law_1002 : decode code 1002 = .ok (.invokevirtual 129, 3) := by decide +kernel
theorem dL_law_1005 : decode code 1005 = .ok (.aload_n 2, 1) := by decide +kernel
theorem dL_law_1006 : decode code 1006 = .ok (.aload_n 0, 1) := by decide +kernel
theorem dL_law_1007 : decode code 1007 = .ok (.iload_n 3, 1) := by decide +kernel
theorem dL_law_1008 : decode code 1008 = .ok (.iconst 1, 1) := by decide +kernel
theorem dL_law_1009 : decode code 1009 = .ok (.iadd, 1) := by decide +kernel
theorem dL_law_1010 : decode code 1010 = .ok (.iaload, 1) := by decide +kernel
theorem dL_law_1011 : decode code 1011 = .ok (.invokevirtual 132, 3) := by decide +kernel
theorem dL_law_1014 : decode code 1014 = .ok (.if_icmp .eq 65, 3) := by decide +kernel
section
variable {p : Program} {l : Launch} {e : Env} {s : State} {m : MethodId} {below : List Frame} {meth : Method} {c : Code} {E : VE} {b L : Nat} {xs : Nat → Int32} {a : Nat → Nat → Nat} {am : Nat → Nat} {t : Nat → St} {x : St} {j : Nat}
set_option maxHeartbeats 4000000 in
set_option maxRecDepth 100000 in
theorem lwc24 (X : LX p s m meth c E b L xs) (hr : Rel t x) (hj : j + 7 ≤ L) (hback : ∀ (t' : Nat → St) (x' : St), Rel t' x' → VL p l e s m below meth c E b (wBig E a t' ++ fl [bModel E am x']) 1079 [(3, .int (nI j)), (2, .ref (am 0)), (1, .ref (a 0 0)), (0, .ref b)] []) : VL p l e s m below meth c E b (wBig E a t ++ fl [bModel E am x]) 916 [(3, .int (nI j)), (2, .ref (am 0)), (1, .ref (a 0 0)), (0, .ref b)] [] := by
  obtain ⟨C, hX, hbl, hL⟩ := X
  have hbA : ¬ (fun q : Nat => s.heap.size ≤ q) b := Nat.not_le.mpr hbl
  refine v_aload_n (pc := 916) C 2 rfl rfl dL_law_916 ?_
  refine v_arg (pc := 917) C hX hbl hbA hL 1 (by omega) kn_1 dL_law_917 dL_law_918 dL_law_919 dL_law_920 dL_law_921 ?_
  refine v_arg (pc := 922) C hX hbl hbA hL 2 (by omega) kn_2 dL_law_922 dL_law_923 dL_law_924 dL_law_925 dL_law_926 ?_
  refine v_goLi (pc := 927) C (fun u => wBig E a u) (fun _ => rfl) (v_runL (pc := 927) C [.int (xs (j + 1)), .int (xs (j + 2))] [] (fun sz => ctX11_drawn l E a (xs (j + 1)) (xs (j + 2)) t (s_drawn hr (xs (j + 1)) (xs (j + 2))) sz) mfX11_drawn mvX11_drawn wmL_116 rfl ⟨Nat.le_of_ble_eq_true rfl, Nat.le_of_ble_eq_true rfl⟩ ⟨rfl, rfl⟩ 0 (ci := 11) (qc := (RX11, TX11, 15)) rfl rfl rfl rfl (Nat.le_of_ble_eq_true rfl) ⟨Nat.le_of_ble_eq_true rfl, Nat.le_of_ble_eq_true rfl⟩ dL_law_927) (fun r t' hw => ?_)
  have hw : wpX12_drawn (xs (j + 1)) (xs (j + 2)) x (fun r' x' => r = r' ∧ Rel t' x') := hw
  refine v_aload_n (pc := 930) C 1 rfl rfl dL_law_930 ?_
  refine v_arg (pc := 931) C hX hbl hbA hL 1 (by omega) kn_1 dL_law_931 dL_law_932 dL_law_933 dL_law_934 dL_law_935 ?_
  refine v_arg (pc := 936) C hX hbl hbA hL 2 (by omega) kn_2 dL_law_936 dL_law_937 dL_law_938 dL_law_939 dL_law_940 ?_
  refine v_goRi (pc := 941) C (fun u => fl [bModel E am u]) (fun _ => rfl) (v_runR (pc := 941) C [.int (xs (j + 1)), .int (xs (j + 2))] [.int r] (fun sz => ctX12_drawn l E am (xs (j + 1)) (xs (j + 2)) x hw sz) mfX12_drawn mvX12_drawn wmL_119 rfl ⟨Nat.le_of_ble_eq_true rfl, Nat.le_of_ble_eq_true rfl⟩ ⟨rfl, rfl⟩ 0 (ci := 12) (qc := (RX12, TX12, 30)) rfl rfl rfl rfl (Nat.le_of_ble_eq_true rfl) ⟨Nat.le_of_ble_eq_true rfl, Nat.le_of_ble_eq_true rfl⟩ dL_law_941) (fun r' x' h => ?_)
  obtain ⟨e1, hr'⟩ := h
  refine v_icmp_eq (pc := 944) C 1079 rfl dL_law_944 (fun _ => hback t' x' hr') (fun h => absurd e1 h)
set_option maxHeartbeats 4000000 in
set_option maxRecDepth 100000 in
theorem lwc25 (X : LX p s m meth c E b L xs) (hr : Rel t x) (hj : j + 7 ≤ L) (hback : ∀ (t' : Nat → St) (x' : St), Rel t' x' → VL p l e s m below meth c E b (wBig E a t' ++ fl [bModel E am x']) 1079 [(3, .int (nI j)), (2, .ref (am 0)), (1, .ref (a 0 0)), (0, .ref b)] []) : VL p l e s m below meth c E b (wBig E a t ++ fl [bModel E am x]) 949 [(3, .int (nI j)), (2, .ref (am 0)), (1, .ref (a 0 0)), (0, .ref b)] [] := by
  obtain ⟨C, hX, hbl, hL⟩ := X
  have hbA : ¬ (fun q : Nat => s.heap.size ≤ q) b := Nat.not_le.mpr hbl
  refine v_aload_n (pc := 949) C 2 rfl rfl dL_law_949 ?_
  refine v_arg (pc := 950) C hX hbl hbA hL 1 (by omega) kn_1 dL_law_950 dL_law_951 dL_law_952 dL_law_953 dL_law_954 ?_
  refine v_goLl (pc := 955) C (fun u => wBig E a u) (fun _ => rfl) (v_runL (pc := 955) C [.int (xs (j + 1))] [] (fun sz => ctX11_part l E a (xs (j + 1)) t (s_part hr (xs (j + 1))) sz) mfX11_part mvX11_part wmL_120 rfl ⟨Nat.le_of_ble_eq_true rfl, Nat.le_of_ble_eq_true rfl⟩ ⟨rfl, rfl⟩ 0 (ci := 11) (qc := (RX11, TX11, 15)) rfl rfl rfl rfl (Nat.le_of_ble_eq_true rfl) ⟨Nat.le_of_ble_eq_true rfl, Nat.le_of_ble_eq_true rfl⟩ dL_law_955) (fun r t' hw => ?_)
  have hw : wpX12_part (xs (j + 1)) x (fun r' x' => r = r' ∧ Rel t' x') := hw
  refine v_aload_n (pc := 958) C 1 rfl rfl dL_law_958 ?_
  refine v_arg (pc := 959) C hX hbl hbA hL 1 (by omega) kn_1 dL_law_959 dL_law_960 dL_law_961 dL_law_962 dL_law_963 ?_
  refine v_goRl (pc := 964) C (fun u => fl [bModel E am u]) (fun _ => rfl) (v_runR (pc := 964) C [.int (xs (j + 1))] [.long r] (fun sz => ctX12_part l E am (xs (j + 1)) x hw sz) mfX12_part mvX12_part wmL_124 rfl ⟨Nat.le_of_ble_eq_true rfl, Nat.le_of_ble_eq_true rfl⟩ ⟨rfl, rfl⟩ 0 (ci := 12) (qc := (RX12, TX12, 30)) rfl rfl rfl rfl (Nat.le_of_ble_eq_true rfl) ⟨Nat.le_of_ble_eq_true rfl, Nat.le_of_ble_eq_true rfl⟩ dL_law_964) (fun r' x' h => ?_)
  obtain ⟨e1, hr'⟩ := h
  refine v_lcmp (pc := 967) C dL_law_967 ?_
  refine v_if_eq (pc := 968) C 1079 rfl dL_law_968 (fun _ => hback t' x' hr') (fun h => absurd (by rw [e1, lg_cmp, if_neg (fun q => Int64.lt_irrefl q), if_pos rfl]) h)
set_option maxHeartbeats 4000000 in
set_option maxRecDepth 100000 in
theorem lwc26 (X : LX p s m meth c E b L xs) (hr : Rel t x) (hj : j + 7 ≤ L) (hback : ∀ (t' : Nat → St) (x' : St), Rel t' x' → VL p l e s m below meth c E b (wBig E a t' ++ fl [bModel E am x']) 1079 [(3, .int (nI j)), (2, .ref (am 0)), (1, .ref (a 0 0)), (0, .ref b)] []) : VL p l e s m below meth c E b (wBig E a t ++ fl [bModel E am x]) 973 [(3, .int (nI j)), (2, .ref (am 0)), (1, .ref (a 0 0)), (0, .ref b)] [] := by
  obtain ⟨C, hX, hbl, hL⟩ := X
  have hbA : ¬ (fun q : Nat => s.heap.size ≤ q) b := Nat.not_le.mpr hbl
  refine v_aload_n (pc := 973) C 2 rfl rfl dL_law_973 ?_
  refine v_arg (pc := 974) C hX hbl hbA hL 1 (by omega) kn_1 dL_law_974 dL_law_975 dL_law_976 dL_law_977 dL_law_978 ?_
  refine v_goLi (pc := 979) C (fun u => wBig E a u) (fun _ => rfl) (v_runL (pc := 979) C [.int (xs (j + 1))] [] (fun sz => ctX11_image l E a (xs (j + 1)) t (s_image hr (xs (j + 1))) sz) mfX11_image mvX11_image wmL_125 rfl ⟨Nat.le_of_ble_eq_true rfl, Nat.le_of_ble_eq_true rfl⟩ ⟨rfl, rfl⟩ 0 (ci := 11) (qc := (RX11, TX11, 15)) rfl rfl rfl rfl (Nat.le_of_ble_eq_true rfl) ⟨Nat.le_of_ble_eq_true rfl, Nat.le_of_ble_eq_true rfl⟩ dL_law_979) (fun r t' hw => ?_)
  have hw : wpX12_image (xs (j + 1)) x (fun r' x' => r = r' ∧ Rel t' x') := hw
  refine v_aload_n (pc := 982) C 1 rfl rfl dL_law_982 ?_
  refine v_arg (pc := 983) C hX hbl hbA hL 1 (by omega) kn_1 dL_law_983 dL_law_984 dL_law_985 dL_law_986 dL_law_987 ?_
  refine v_goRi (pc := 988) C (fun u => fl [bModel E am u]) (fun _ => rfl) (v_runR (pc := 988) C [.int (xs (j + 1))] [.int r] (fun sz => ctX12_image l E am (xs (j + 1)) x hw sz) mfX12_image mvX12_image wmL_128 rfl ⟨Nat.le_of_ble_eq_true rfl, Nat.le_of_ble_eq_true rfl⟩ ⟨rfl, rfl⟩ 0 (ci := 12) (qc := (RX12, TX12, 30)) rfl rfl rfl rfl (Nat.le_of_ble_eq_true rfl) ⟨Nat.le_of_ble_eq_true rfl, Nat.le_of_ble_eq_true rfl⟩ dL_law_988) (fun r' x' h => ?_)
  obtain ⟨e1, hr'⟩ := h
  refine v_icmp_eq (pc := 991) C 1079 rfl dL_law_991 (fun _ => hback t' x' hr') (fun h => absurd e1 h)
set_option maxHeartbeats 4000000 in
set_option maxRecDepth 100000 in
theorem lwc27 (X : LX p s m meth c E b L xs) (hr : Rel t x) (hj : j + 7 ≤ L) (hback : ∀ (t' : Nat → St) (x' : St), Rel t' x' → VL p l e s m below meth c E b (wBig E a t' ++ fl [bModel E am x']) 1079 [(3, .int (nI j)), (2, .ref (am 0)), (1, .ref (a 0 0)), (0, .ref b)] []) : VL p l e s m below meth c E b (wBig E a t ++ fl [bModel E am x]) 996 [(3, .int (nI j)), (2, .ref (am 0)), (1, .ref (a 0 0)), (0, .ref b)] [] := by
  obtain ⟨C, hX, hbl, hL⟩ := X
  have hbA : ¬ (fun q : Nat => s.heap.size ≤ q) b := Nat.not_le.mpr hbl
  refine v_aload_n (pc := 996) C 2 rfl rfl dL_law_996 ?_
  refine v_arg (pc := 997) C hX hbl hbA hL 1 (by omega) kn_1 dL_law_997 dL_law_998 dL_law_999 dL_law_1000 dL_law_1001 ?_
  refine v_goLi (pc := 1002) C (fun u => wBig E a u) (fun _ => rfl) (v_runL (pc := 1002) C [.int (xs (j + 1))] [] (fun sz => ctX11_from l E a (xs (j + 1)) t (s_from hr (xs (j + 1))) sz) mfX11_from mvX11_from wmL_129 rfl ⟨Nat.le_of_ble_eq_true rfl, Nat.le_of_ble_eq_true rfl⟩ ⟨rfl, rfl⟩ 0 (ci := 11) (qc := (RX11, TX11, 15)) rfl rfl rfl rfl (Nat.le_of_ble_eq_true rfl) ⟨Nat.le_of_ble_eq_true rfl, Nat.le_of_ble_eq_true rfl⟩ dL_law_1002) (fun r t' hw => ?_)
  have hw : wpX12_from (xs (j + 1)) x (fun r' x' => r = r' ∧ Rel t' x') := hw
  refine v_aload_n (pc := 1005) C 1 rfl rfl dL_law_1005 ?_
  refine v_arg (pc := 1006) C hX hbl hbA hL 1 (by omega) kn_1 dL_law_1006 dL_law_1007 dL_law_1008 dL_law_1009 dL_law_1010 ?_
  refine v_goRi (pc := 1011) C (fun u => fl [bModel E am u]) (fun _ => rfl) (v_runR (pc := 1011) C [.int (xs (j + 1))] [.int r] (fun sz => ctX12_from l E am (xs (j + 1)) x hw sz) mfX12_from mvX12_from wmL_132 rfl ⟨Nat.le_of_ble_eq_true rfl, Nat.le_of_ble_eq_true rfl⟩ ⟨rfl, rfl⟩ 0 (ci := 12) (qc := (RX12, TX12, 30)) rfl rfl rfl rfl (Nat.le_of_ble_eq_true rfl) ⟨Nat.le_of_ble_eq_true rfl, Nat.le_of_ble_eq_true rfl⟩ dL_law_1011) (fun r' x' h => ?_)
  obtain ⟨e1, hr'⟩ := h
  refine v_icmp_eq (pc := 1014) C 1079 rfl dL_law_1014 (fun _ => hback t' x' hr') (fun h => absurd e1 h)
end
