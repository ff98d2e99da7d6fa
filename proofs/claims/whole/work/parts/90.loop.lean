theorem dL_law_0 : decode code 0 = .ok (.new 7, 3) := by decide +kernel
theorem dL_law_3 : decode code 3 = .ok (.dup, 1) := by decide +kernel
theorem dL_law_4 : decode code 4 = .ok (.invokespecial 9, 3) := by decide +kernel
theorem dL_law_7 : decode code 7 = .ok (.astore_n 1, 1) := by decide +kernel
theorem dL_law_8 : decode code 8 = .ok (.new 10, 3) := by decide +kernel
theorem dL_law_11 : decode code 11 = .ok (.dup, 1) := by decide +kernel
theorem dL_law_12 : decode code 12 = .ok (.invokespecial 12, 3) := by decide +kernel
theorem dL_law_15 : decode code 15 = .ok (.astore_n 2, 1) := by decide +kernel
theorem dL_law_16 : decode code 16 = .ok (.iconst 0, 1) := by decide +kernel
theorem dL_law_17 : decode code 17 = .ok (.istore_n 3, 1) := by decide +kernel
theorem dL_law_18 : decode code 18 = .ok (.iload_n 3, 1) := by decide +kernel
theorem dL_law_19 : decode code 19 = .ok (.aload_n 0, 1) := by decide +kernel
theorem dL_law_20 : decode code 20 = .ok (.arraylength, 1) := by decide +kernel
theorem dL_law_21 : decode code 21 = .ok (.bipush 7, 2) := by decide +kernel
theorem dL_law_23 : decode code 23 = .ok (.isub, 1) := by decide +kernel
theorem dL_law_24 : decode code 24 = .ok (.if_icmp .gt 1061, 3) := by decide +kernel
theorem dL_law_27 : decode code 27 = .ok (.aload_n 0, 1) := by decide +kernel
theorem dL_law_28 : decode code 28 = .ok (.iload_n 3, 1) := by decide +kernel
theorem dL_law_29 : decode code 29 = .ok (.iaload, 1) := by decide +kernel
theorem dL_law_30 : decode code 30 = .ok (.bipush 31, 2) := by decide +kernel
theorem dL_law_32 : decode code 32 = .ok (.iand, 1) := by decide +kernel
theorem dL_law_33 : decode code 33 = .ok (.tableswitch 1046 0 30 #[139, 162, 185, 228, 241, 254, 277, 290, 313, 326, 339, 372, 405, 438, 481, 504, 537, 570, 645, 708, 731, 764, 817, 860, 883, 916, 940, 963, 986, 1009, 1032], 139) := by decide +kernel
theorem dL_law_1079 : decode code 1079 = .ok (.iinc 3 7, 3) := by decide +kernel
theorem dL_law_1082 : decode code 1082 = .ok (.goto (-1064), 3) := by decide +kernel
theorem dL_law_1085 : decode code 1085 = .ok (.iconst 1, 1) := by decide +kernel
theorem dL_law_1086 : decode code 1086 = .ok (.ireturn, 1) := by decide +kernel
section
variable {p : Program} {l : Launch} {e : Env} {s : State} {m : MethodId} {below : List Frame} {meth : Method} {c : Code} {E : VE} {b L : Nat} {xs : Nat → Int32} {a : Nat → Nat → Nat} {am : Nat → Nat} {t : Nat → St} {x : St} {j : Nat}
theorem lw_exit (X : LX p s m meth c E b L xs) {w : va_W} {lv : List (Nat × Value)} : VL p l e s m below meth c E b w 1086 lv [.int 1] := by
  obtain ⟨C, -⟩ := X
  exact fun H locs ls hP hD hS hl => va_forget (fun q hq => hS.2.2 q hq) (W.widen (by decide) (by decide) (lw_ret C.1 C.2.1 C.2.2.2.1 C.2.2.2.2.2.2.2.2.1 dL_law_1086))
set_option maxHeartbeats 4000000 in
set_option maxRecDepth 100000 in
theorem lw_head (X : LX p s m meth c E b L xs) (hjb : j < 2 ^ 30) (hcont : j + 7 ≤ L → VL p l e s m below meth c E b (wBig E a t ++ fl [bModel E am x]) 27 [(3, .int (nI j)), (2, .ref (am 0)), (1, .ref (a 0 0)), (0, .ref b)] []) : VL p l e s m below meth c E b (wBig E a t ++ fl [bModel E am x]) 18 [(3, .int (nI j)), (2, .ref (am 0)), (1, .ref (a 0 0)), (0, .ref b)] [] := by
  have X0 := X
  obtain ⟨C, hX, hbl, hL⟩ := X
  have hbA : ¬ (fun q : Nat => s.heap.size ≤ q) b := Nat.not_le.mpr hbl
  refine v_iload_n (pc := 18) C 0 rfl rfl dL_law_18 ?_
  refine v_aload_n (pc := 19) C 3 rfl rfl dL_law_19 ?_
  refine v_sln (pc := 20) C hX hbl hbA dL_law_20 ?_
  refine v_bipush (pc := 21) C 7 kb_7 dL_law_21 ?_
  refine v_isub (pc := 23) C dL_law_23 ?_
  have e7 : (nI L - 7).toInt = (L : Int) - 7 := by
    rw [Int32.toInt_sub, nI_toInt (by omega)]
    have h7 : (7 : Int32).toInt = 7 := by decide
    rw [h7]
    exact Int.bmod_eq_of_le (by omega) (by omega)
  refine v_icmp_gt (pc := 24) C 1085 rfl dL_law_24 (fun h => ?_) (fun h => ?_)
  · refine v_iconst (pc := 1085) C 1 ki_1 dL_law_1085 ?_
    exact lw_exit X0
  · refine hcont ?_
    rw [fa_lt, e7, nI_toInt (by omega)] at h
    omega
set_option maxHeartbeats 4000000 in
set_option maxRecDepth 100000 in
theorem lw_body (X : LX p s m meth c E b L xs) (hr : Rel t x) (hj : j + 7 ≤ L) (hback : ∀ (t' : Nat → St) (x' : St), Rel t' x' → VL p l e s m below meth c E b (wBig E a t' ++ fl [bModel E am x']) 1079 [(3, .int (nI j)), (2, .ref (am 0)), (1, .ref (a 0 0)), (0, .ref b)] []) : VL p l e s m below meth c E b (wBig E a t ++ fl [bModel E am x]) 27 [(3, .int (nI j)), (2, .ref (am 0)), (1, .ref (a 0 0)), (0, .ref b)] [] := by
  have X0 := X
  obtain ⟨C, hX, hbl, hL⟩ := X
  have hbA : ¬ (fun q : Nat => s.heap.size ≤ q) b := Nat.not_le.mpr hbl
  refine v_aload_n (pc := 27) C 3 rfl rfl dL_law_27 ?_
  refine v_iload_n (pc := 28) C 0 rfl rfl dL_law_28 ?_
  refine v_sld (pc := 29) C hX hbl hbA (j := j) (vp_in_nI (by omega) (by omega)) (nI_clamp (by omega)) dL_law_29 ?_
  refine v_bipush (pc := 30) C 31 kb_31 dL_law_30 ?_
  refine v_iand (pc := 32) C dL_law_32 ?_
  obtain ⟨k, hk, ek⟩ := pk_andE (xs j) (m := 31) 5 (by decide)
  rw [ek]
  have hk : k < 32 := hk
  have X := X0
  have h32 : k = 0 ∨ k = 1 ∨ k = 2 ∨ k = 3 ∨ k = 4 ∨ k = 5 ∨ k = 6 ∨ k = 7 ∨ k = 8 ∨ k = 9 ∨ k = 10 ∨ k = 11 ∨ k = 12 ∨ k = 13 ∨ k = 14 ∨ k = 15 ∨ k = 16 ∨ k = 17 ∨ k = 18 ∨ k = 19 ∨ k = 20 ∨ k = 21 ∨ k = 22 ∨ k = 23 ∨ k = 24 ∨ k = 25 ∨ k = 26 ∨ k = 27 ∨ k = 28 ∨ k = 29 ∨ k = 30 ∨ k = 31 := by omega
  clear ek
  rcases h32 with rfl | rfl | rfl | rfl | rfl | rfl | rfl | rfl | rfl | rfl | rfl | rfl | rfl | rfl | rfl | rfl | rfl | rfl | rfl | rfl | rfl | rfl | rfl | rfl | rfl | rfl | rfl | rfl | rfl | rfl | rfl | rfl
  · exact v_tblIn (pc := 33) C 172 dL_law_33 (by decide) (by decide) (off := 139) (by decide) rfl (lwc0 X hr hj hback)
  · exact v_tblIn (pc := 33) C 195 dL_law_33 (by decide) (by decide) (off := 162) (by decide) rfl (lwc1 X hr hj hback)
  · exact v_tblIn (pc := 33) C 218 dL_law_33 (by decide) (by decide) (off := 185) (by decide) rfl (lwc2 X hr hj hback)
  · exact v_tblIn (pc := 33) C 261 dL_law_33 (by decide) (by decide) (off := 228) (by decide) rfl (lwc3 X hr hj hback)
  · exact v_tblIn (pc := 33) C 274 dL_law_33 (by decide) (by decide) (off := 241) (by decide) rfl (lwc4 X hr hj hback)
  · exact v_tblIn (pc := 33) C 287 dL_law_33 (by decide) (by decide) (off := 254) (by decide) rfl (lwc5 X hr hj hback)
  · exact v_tblIn (pc := 33) C 310 dL_law_33 (by decide) (by decide) (off := 277) (by decide) rfl (lwc6 X hr hj hback)
  · exact v_tblIn (pc := 33) C 323 dL_law_33 (by decide) (by decide) (off := 290) (by decide) rfl (lwc7 X hr hj hback)
  · exact v_tblIn (pc := 33) C 346 dL_law_33 (by decide) (by decide) (off := 313) (by decide) rfl (lwc8 X hr hj hback)
  · exact v_tblIn (pc := 33) C 359 dL_law_33 (by decide) (by decide) (off := 326) (by decide) rfl (lwc9 X hr hj hback)
  · exact v_tblIn (pc := 33) C 372 dL_law_33 (by decide) (by decide) (off := 339) (by decide) rfl (lwc10 X hr hj hback)
  · exact v_tblIn (pc := 33) C 405 dL_law_33 (by decide) (by decide) (off := 372) (by decide) rfl (lwc11 X hr hj hback)
  · exact v_tblIn (pc := 33) C 438 dL_law_33 (by decide) (by decide) (off := 405) (by decide) rfl (lwc12 X hr hj hback)
  · exact v_tblIn (pc := 33) C 471 dL_law_33 (by decide) (by decide) (off := 438) (by decide) rfl (lwc13 X hr hj hback)
  · exact v_tblIn (pc := 33) C 514 dL_law_33 (by decide) (by decide) (off := 481) (by decide) rfl (lwc14 X hr hj hback)
  · exact v_tblIn (pc := 33) C 537 dL_law_33 (by decide) (by decide) (off := 504) (by decide) rfl (lwc15 X hr hj hback)
  · exact v_tblIn (pc := 33) C 570 dL_law_33 (by decide) (by decide) (off := 537) (by decide) rfl (lwc16 X hr hj hback)
  · exact v_tblIn (pc := 33) C 603 dL_law_33 (by decide) (by decide) (off := 570) (by decide) rfl (lwc17 X hr hj hback)
  · exact v_tblIn (pc := 33) C 678 dL_law_33 (by decide) (by decide) (off := 645) (by decide) rfl (lwc18 X hr hj hback)
  · exact v_tblIn (pc := 33) C 741 dL_law_33 (by decide) (by decide) (off := 708) (by decide) rfl (lwc19 X hr hj hback)
  · exact v_tblIn (pc := 33) C 764 dL_law_33 (by decide) (by decide) (off := 731) (by decide) rfl (lwc20 X hr hj hback)
  · exact v_tblIn (pc := 33) C 797 dL_law_33 (by decide) (by decide) (off := 764) (by decide) rfl (lwc21 X hr hj hback)
  · exact v_tblIn (pc := 33) C 850 dL_law_33 (by decide) (by decide) (off := 817) (by decide) rfl (lwc22 X hr hj hback)
  · exact v_tblIn (pc := 33) C 893 dL_law_33 (by decide) (by decide) (off := 860) (by decide) rfl (lwc23 X hr hj hback)
  · exact v_tblIn (pc := 33) C 916 dL_law_33 (by decide) (by decide) (off := 883) (by decide) rfl (lwc24 X hr hj hback)
  · exact v_tblIn (pc := 33) C 949 dL_law_33 (by decide) (by decide) (off := 916) (by decide) rfl (lwc25 X hr hj hback)
  · exact v_tblIn (pc := 33) C 973 dL_law_33 (by decide) (by decide) (off := 940) (by decide) rfl (lwc26 X hr hj hback)
  · exact v_tblIn (pc := 33) C 996 dL_law_33 (by decide) (by decide) (off := 963) (by decide) rfl (lwc27 X hr hj hback)
  · exact v_tblIn (pc := 33) C 1019 dL_law_33 (by decide) (by decide) (off := 986) (by decide) rfl (lwc28 X hr hj hback)
  · exact v_tblIn (pc := 33) C 1042 dL_law_33 (by decide) (by decide) (off := 1009) (by decide) rfl (lwc29 X hr hj hback)
  · exact v_tblIn (pc := 33) C 1065 dL_law_33 (by decide) (by decide) (off := 1032) (by decide) rfl (lwc30 X hr hj hback)
  · exact v_tblOut (pc := 33) C 1079 rfl dL_law_33 (Or.inr (by decide)) (hback t x hr)
set_option maxHeartbeats 4000000 in
set_option maxRecDepth 100000 in
theorem lw_loop (X : LX p s m meth c E b L xs) : ∀ (n j : Nat) (t : Nat → St) (x : St), Rel t x → L ≤ j + n → j ≤ L + 7 → VL p l e s m below meth c E b (wBig E a t ++ fl [bModel E am x]) 18 [(3, .int (nI j)), (2, .ref (am 0)), (1, .ref (a 0 0)), (0, .ref b)] [] := by
  have X0 := X
  obtain ⟨C, hX, hbl, hL⟩ := X
  intro n
  induction n with
  | zero =>
    intro j t x hr h1 h2
    exact lw_head X0 (by omega) (fun h => by omega)
  | succ n ih =>
    intro j t x hr h1 h2
    refine lw_head X0 (by omega) (fun h => lw_body X0 hr h (fun t' x' hr' => ?_))
    refine v_iinc (pc := 1079) C (i := 3) (n := 7) 0 rfl (v := nI (j + 7)) (by rw [← nI_add]; rfl) [(3, .int (nI (j + 7))), (2, .ref (am 0)), (1, .ref (a 0 0)), (0, .ref b)] rfl (by decide) dL_law_1079 ?_
    refine v_goto (pc := 1082) C 18 rfl dL_law_1082 ?_
    exact ih (j + 7) t' x' hr' (by omega) (by omega)
end
set_option maxHeartbeats 4000000 in
set_option maxRecDepth 100000 in
theorem whole_start {p : Program} {e : Env} {s : State} {m : MethodId} {below : List Frame} {meth : Method} {c : Code} (l : Launch) {b L : Nat} {xs : Nat → Int32} (hL : L ≤ 3584) (C0 : lw_At p s m meth c b L xs) : W p l e room_1 s m #[Value.ref b] below meth c s.heap [] 0 0 (lw_Z below #[Value.ref b] s) (entryFrame m ([Value.ref b] : List Value).toArray 4) := by
  obtain ⟨E, C, hAO⟩ := lw_env C0
  obtain ⟨-, -, -, -, -, -, hX, hbl, -, -⟩ := C0
  rw [lg_entry_eq]
  have hl := lv_entry [Value.ref b] (n := 4) (Nat.le_of_ble_eq_true rfl)
  have main : V p l e room_1 s m #[Value.ref b] below meth c E (fun q => s.heap.size ≤ q) 4 0 0 (lw_Z below #[Value.ref b] s) [] 0 [(0, .ref b)] [] := by
    refine v_new (pc := 0) C cfX11 (ci := 11) rfl wkL_7 wjX11 wiX11 [.null, .null, .null, .null, .null, .null, .null, .null, .null, .int 0, .long 0, .long 0, .int 0, .int 0, .int 0] (by decide +kernel) (Nat.le_of_ble_eq_true rfl) (Nat.le_of_ble_eq_true rfl) dL_law_0 (fun q1 => ?_)
    refine v_dup (pc := 3) C rfl dL_law_3 ?_
    refine v_goN (pc := 4) C (mc := 55) (ms := 3868) (v_runI (pc := 4) C hAO [.ref q1] (fun sz => ctX11_init l E q1 sz) mfX11_init wnX11_init rfl wmL_9 ⟨Nat.le_of_ble_eq_true rfl, Nat.le_of_ble_eq_true rfl⟩ ⟨rfl, rfl⟩ rfl (Nat.le_of_ble_eq_true rfl) ⟨Nat.le_of_ble_eq_true rfl, Nat.le_of_ble_eq_true rfl⟩ dL_law_4) (fun a ha => ?_)
    obtain rfl : a 0 0 = q1 := ha
    refine v_astore_n (pc := 7) C [(1, .ref (a 0 0)), (0, .ref b)] rfl rfl (by decide) dL_law_7 ?_
    refine v_w (w' := wBig E a tZ) rfl ?_
    refine v_new (pc := 8) C cfX12 (ci := 12) rfl wkL_10 wjX12 wiX12 [.int 0, .int 0, .null, .int 0, .null, .null, .int 0, .long 0, .long 0, .null, .null, .int 0, .int 0, .int 0, .int 0, .int 0, .null, .int 0, .int 0, .int 0, .int 0, .int 0, .int 0, .null, .null, .null, .long 0, .null, .null, .long 0] (by decide +kernel) (Nat.le_of_ble_eq_true rfl) (Nat.le_of_ble_eq_true rfl) dL_law_8 (fun q2 => ?_)
    refine v_dup (pc := 11) C rfl dL_law_11 ?_
    refine v_goN (pc := 12) C (mc := 11) (ms := 4343) (v_runI (pc := 12) C hAO [.ref q2] (fun sz => ctX12_init l E q2 sz) mfX12_init wnX12_init rfl wmL_12 ⟨Nat.le_of_ble_eq_true rfl, Nat.le_of_ble_eq_true rfl⟩ ⟨rfl, rfl⟩ rfl (Nat.le_of_ble_eq_true rfl) ⟨Nat.le_of_ble_eq_true rfl, Nat.le_of_ble_eq_true rfl⟩ dL_law_12) (fun am ham => ?_)
    obtain rfl : am 0 = q2 := ham
    refine v_astore_n (pc := 15) C [(2, .ref (am 0)), (1, .ref (a 0 0)), (0, .ref b)] rfl rfl (by decide) dL_law_15 ?_
    refine v_iconst (pc := 16) C 0 ki_0 dL_law_16 ?_
    refine v_istore_n (pc := 17) C [(3, .int (nI 0)), (2, .ref (am 0)), (1, .ref (a 0 0)), (0, .ref b)] rfl rfl (by decide) dL_law_17 ?_
    refine v_w (w' := wBig E a tZ ++ fl [bModel E am xz]) rfl ?_
    exact lw_loop ⟨C, hX, hbl, hL⟩ L 0 tZ xz rel0 (by omega) (by omega)
  exact main s.heap [] _ (fun k q h => by simp at h) ⟨fun i j p q h => by simp at h, fun k q h => by simp at h⟩ va_S.rf hl
