theorem dL_law_1019 : decode code 1019 = .ok (.aload_n 1, 1) := by decide +kernel
theorem dL_law_1020 : decode code 1020 = .ok (.aload_n 0, 1) := by decide +kernel
theorem dL_law_1021 : decode code 1021 = .ok (.iload_n 3, 1) := by decide +kernel
theorem dL_law_1022 : decode code 1022 = .ok (.iconst 1, 1) := by decide +kernel
theorem dL_law_1023 : decode code 1023 = .ok (.iadd, 1) := by decide +kernel
theorem dL_law_1024 : decode code 1024 = .ok (.iaload, 1) := by decide +kernel
theorem dL_law_1025 : decode code 1025 = .ok (.invokevirtual 133, 3) := by decide +kernel
theorem dL_law_1028 : decode code 1028 = .ok (.aload_n 2, 1) := by decide +kernel
theorem dL_law_1029 : decode code 1029 = .ok (.aload_n 0, 1) := by decide +kernel
theorem dL_law_1030 : decode code 1030 = .ok (.iload_n 3, 1) := by decide +kernel
theorem dL_law_1031 : decode code 1031 = .ok (.iconst 1, 1) := by decide +kernel
theorem dL_law_1032 : decode code 1032 = .ok (.iadd, 1) := by decide +kernel
theorem dL_law_1033 : decode code 1033 = .ok (.iaload, 1) := by decide +kernel
theorem dL_law_1034 : decode code 1034 = .ok (.invokevirtual 136, 3) := by decide +kernel
theorem dL_law_1037 : decode code 1037 = .ok (.if_icmp .eq 42, 3) := by decide +kernel
theorem dL_law_1042 : decode code 1042 = .ok (.aload_n 1, 1) := by decide +kernel
theorem dL_law_1043 : decode code 1043 = .ok (.aload_n 0, 1) := by decide +kernel
theorem dL_law_1044 : decode code 1044 = .ok (.iload_n 3, 1) := by decide +kernel
theorem dL_law_1045 : decode code 1045 = .ok (.iconst 1, 1) := by decide +kernel
theorem dL_law_1046 : decode code 1046 = .ok (.iadd, 1) := by decide +kernel
theorem dL_law_1047 : decode code 1047 = .ok (.iaload, 1) := by decide +kernel
theorem dL_law_1048 : decode code 1048 = .ok (.invokevirtual 137, 3) := by decide +kernel
theorem dL_law_1051 : decode code 1051 = .ok (.aload_n 2, 1) := by decide +kernel
theorem dL_law_1052 : decode code 1052 = .ok (.aload_n 0, 1) := by decide +kernel
theorem dL_law_1053 : decode code 1053 = .ok (.iload_n 3, 1) := by decide +kernel
theorem dL_law_1054 : decode code 1054 = .ok (.iconst 1, 1) := by decide +kernel
theorem dL_law_1055 : decode code 1055 = .ok (.iadd, 1) := by decide +kernel
theorem dL_law_1056 : decode code 1056 = .ok (.iaload, 1) := by decide +kernel
theorem dL_law_1057 : decode code 1057 = .ok (.invokevirtual 140, 3) := by decide +kernel
theorem dL_law_1060 : decode code 1060 = .ok (.if_icmp .eq 19, 3) := by decide +kernel
theorem dL_law_1065 : decode code 1065 = .ok (.aload_n 1, 1) := by decide +kernel
theorem dL_law_1066 : decode code 1066 = .ok (.invokevirtual 141, 3) := by decide +kernel
theorem dL_law_1069 : decode code 1069 = .ok (.aload_n 2, 1) := by decide +kernel
theorem dL_law_1070 : decode code 1070 = .ok (.invokevirtual 145, 3) := by decide +kernel
theorem dL_law_1073 : decode code 1073 = .ok (.lcmp, 1) := by decide +kernel
theorem dL_law_1074 : decode code 1074 = .ok (.ifCond .eq 5, 3) := by decide +kernel
section
variable {p : Program} {l : Launch} {e : Env} {s : State} {m : MethodId} {below : List Frame} {meth : Method} {c : Code} {E : VE} {b L : Nat} {xs : Nat → Int32} {a : Nat → Nat → Nat} {am : Nat → Nat} {t : Nat → St} {x : St} {j : Nat}
set_option maxHeartbeats 4000000 in
set_option maxRecDepth 100000 in
theorem lwc28 (X : LX p s m meth c E b L xs) (hr : Rel t x) (hj : j + 7 ≤ L) (hback : ∀ (t' : Nat → St) (x' : St), Rel t' x' → VL p l e s m below meth c E b (wBig E a t' ++ fl [bModel E am x']) 1079 [(3, .int (nI j)), (2, .ref (am 0)), (1, .ref (a 0 0)), (0, .ref b)] []) : VL p l e s m below meth c E b (wBig E a t ++ fl [bModel E am x]) 1019 [(3, .int (nI j)), (2, .ref (am 0)), (1, .ref (a 0 0)), (0, .ref b)] [] := by
  obtain ⟨C, hX, hbl, hL⟩ := X
  have hbA : ¬ (fun q : Nat => s.heap.size ≤ q) b := Nat.not_le.mpr hbl
  refine v_aload_n (pc := 1019) C 2 rfl rfl dL_law_1019 ?_
  refine v_arg (pc := 1020) C hX hbl hbA hL 1 (by omega) kn_1 dL_law_1020 dL_law_1021 dL_law_1022 dL_law_1023 dL_law_1024 ?_
  refine v_goLi (pc := 1025) C (fun u => wBig E a u) (fun _ => rfl) (v_runL (pc := 1025) C [.int (xs (j + 1))] [] (fun sz => ctX11_status l E a (xs (j + 1)) t (s_status hr (xs (j + 1))) sz) mfX11_status mvX11_status wmL_133 rfl ⟨Nat.le_of_ble_eq_true rfl, Nat.le_of_ble_eq_true rfl⟩ ⟨rfl, rfl⟩ 0 (ci := 11) (qc := (RX11, TX11, 15)) rfl rfl rfl rfl (Nat.le_of_ble_eq_true rfl) ⟨Nat.le_of_ble_eq_true rfl, Nat.le_of_ble_eq_true rfl⟩ dL_law_1025) (fun r t' hw => ?_)
  have hw : wpX12_status (xs (j + 1)) x (fun r' x' => r = r' ∧ Rel t' x') := hw
  refine v_aload_n (pc := 1028) C 1 rfl rfl dL_law_1028 ?_
  refine v_arg (pc := 1029) C hX hbl hbA hL 1 (by omega) kn_1 dL_law_1029 dL_law_1030 dL_law_1031 dL_law_1032 dL_law_1033 ?_
  refine v_goRi (pc := 1034) C (fun u => fl [bModel E am u]) (fun _ => rfl) (v_runR (pc := 1034) C [.int (xs (j + 1))] [.int r] (fun sz => ctX12_status l E am (xs (j + 1)) x hw sz) mfX12_status mvX12_status wmL_136 rfl ⟨Nat.le_of_ble_eq_true rfl, Nat.le_of_ble_eq_true rfl⟩ ⟨rfl, rfl⟩ 0 (ci := 12) (qc := (RX12, TX12, 30)) rfl rfl rfl rfl (Nat.le_of_ble_eq_true rfl) ⟨Nat.le_of_ble_eq_true rfl, Nat.le_of_ble_eq_true rfl⟩ dL_law_1034) (fun r' x' h => ?_)
  obtain ⟨e1, hr'⟩ := h
  refine v_icmp_eq (pc := 1037) C 1079 rfl dL_law_1037 (fun _ => hback t' x' hr') (fun h => absurd e1 h)
set_option maxHeartbeats 4000000 in
set_option maxRecDepth 100000 in
theorem lwc29 (X : LX p s m meth c E b L xs) (hr : Rel t x) (hj : j + 7 ≤ L) (hback : ∀ (t' : Nat → St) (x' : St), Rel t' x' → VL p l e s m below meth c E b (wBig E a t' ++ fl [bModel E am x']) 1079 [(3, .int (nI j)), (2, .ref (am 0)), (1, .ref (a 0 0)), (0, .ref b)] []) : VL p l e s m below meth c E b (wBig E a t ++ fl [bModel E am x]) 1042 [(3, .int (nI j)), (2, .ref (am 0)), (1, .ref (a 0 0)), (0, .ref b)] [] := by
  obtain ⟨C, hX, hbl, hL⟩ := X
  have hbA : ¬ (fun q : Nat => s.heap.size ≤ q) b := Nat.not_le.mpr hbl
  refine v_aload_n (pc := 1042) C 2 rfl rfl dL_law_1042 ?_
  refine v_arg (pc := 1043) C hX hbl hbA hL 1 (by omega) kn_1 dL_law_1043 dL_law_1044 dL_law_1045 dL_law_1046 dL_law_1047 ?_
  refine v_goLi (pc := 1048) C (fun u => wBig E a u) (fun _ => rfl) (v_runL (pc := 1048) C [.int (xs (j + 1))] [] (fun sz => ctX11_count l E a (xs (j + 1)) t (s_count hr (xs (j + 1))) sz) mfX11_count mvX11_count wmL_137 rfl ⟨Nat.le_of_ble_eq_true rfl, Nat.le_of_ble_eq_true rfl⟩ ⟨rfl, rfl⟩ 0 (ci := 11) (qc := (RX11, TX11, 15)) rfl rfl rfl rfl (Nat.le_of_ble_eq_true rfl) ⟨Nat.le_of_ble_eq_true rfl, Nat.le_of_ble_eq_true rfl⟩ dL_law_1048) (fun r t' hw => ?_)
  have hw : wpX12_count (xs (j + 1)) x (fun r' x' => r = r' ∧ Rel t' x') := hw
  refine v_aload_n (pc := 1051) C 1 rfl rfl dL_law_1051 ?_
  refine v_arg (pc := 1052) C hX hbl hbA hL 1 (by omega) kn_1 dL_law_1052 dL_law_1053 dL_law_1054 dL_law_1055 dL_law_1056 ?_
  refine v_goRi (pc := 1057) C (fun u => fl [bModel E am u]) (fun _ => rfl) (v_runR (pc := 1057) C [.int (xs (j + 1))] [.int r] (fun sz => ctX12_count l E am (xs (j + 1)) x hw sz) mfX12_count mvX12_count wmL_140 rfl ⟨Nat.le_of_ble_eq_true rfl, Nat.le_of_ble_eq_true rfl⟩ ⟨rfl, rfl⟩ 0 (ci := 12) (qc := (RX12, TX12, 30)) rfl rfl rfl rfl (Nat.le_of_ble_eq_true rfl) ⟨Nat.le_of_ble_eq_true rfl, Nat.le_of_ble_eq_true rfl⟩ dL_law_1057) (fun r' x' h => ?_)
  obtain ⟨e1, hr'⟩ := h
  refine v_icmp_eq (pc := 1060) C 1079 rfl dL_law_1060 (fun _ => hback t' x' hr') (fun h => absurd e1 h)
set_option maxHeartbeats 4000000 in
set_option maxRecDepth 100000 in
theorem lwc30 (X : LX p s m meth c E b L xs) (hr : Rel t x) (hj : j + 7 ≤ L) (hback : ∀ (t' : Nat → St) (x' : St), Rel t' x' → VL p l e s m below meth c E b (wBig E a t' ++ fl [bModel E am x']) 1079 [(3, .int (nI j)), (2, .ref (am 0)), (1, .ref (a 0 0)), (0, .ref b)] []) : VL p l e s m below meth c E b (wBig E a t ++ fl [bModel E am x]) 1065 [(3, .int (nI j)), (2, .ref (am 0)), (1, .ref (a 0 0)), (0, .ref b)] [] := by
  obtain ⟨C, hX, hbl, hL⟩ := X
  have hbA : ¬ (fun q : Nat => s.heap.size ≤ q) b := Nat.not_le.mpr hbl
  refine v_aload_n (pc := 1065) C 2 rfl rfl dL_law_1065 ?_
  have h0 : wpX11_digest t (fun r => wpX12_digest x (fun r' x' => r = r' ∧ Rel t x')) := s_digest hr
  refine v_goLl (pc := 1066) C (fun (_ : Unit) => wBig E a t) (fun _ => rfl) (v_runL (pc := 1066) C [] [] (fun sz => ctX11_digest l E a  t h0 sz) mfX11_digest mvX11_digest wmL_141 rfl ⟨Nat.le_of_ble_eq_true rfl, Nat.le_of_ble_eq_true rfl⟩ ⟨rfl, rfl⟩ 0 (ci := 11) (qc := (RX11, TX11, 15)) rfl rfl rfl rfl (Nat.le_of_ble_eq_true rfl) ⟨Nat.le_of_ble_eq_true rfl, Nat.le_of_ble_eq_true rfl⟩ dL_law_1066) (fun r _ hw => ?_)
  have hw : wpX12_digest  x (fun r' x' => r = r' ∧ Rel t x') := hw
  refine v_aload_n (pc := 1069) C 1 rfl rfl dL_law_1069 ?_
  refine v_goRl (pc := 1070) C (fun u => fl [bModel E am u]) (fun _ => rfl) (v_runR (pc := 1070) C [] [.long r] (fun sz => ctX12_digest l E am  x hw sz) mfX12_digest mvX12_digest wmL_145 rfl ⟨Nat.le_of_ble_eq_true rfl, Nat.le_of_ble_eq_true rfl⟩ ⟨rfl, rfl⟩ 0 (ci := 12) (qc := (RX12, TX12, 30)) rfl rfl rfl rfl (Nat.le_of_ble_eq_true rfl) ⟨Nat.le_of_ble_eq_true rfl, Nat.le_of_ble_eq_true rfl⟩ dL_law_1070) (fun r' x' h => ?_)
  obtain ⟨e1, hr'⟩ := h
  refine v_lcmp (pc := 1073) C dL_law_1073 ?_
  refine v_if_eq (pc := 1074) C 1079 rfl dL_law_1074 (fun _ => hback t x' hr') (fun h => absurd (by rw [e1, lg_cmp, if_neg (fun q => Int64.lt_irrefl q), if_pos rfl]) h)
end
