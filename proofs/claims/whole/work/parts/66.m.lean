section
variable {pr : Program} {l : Launch} {e : Env} {s : State} {m : MethodId} {args : Array Value} {below : List Frame} {meth : Method} {c : Code} {E : VE} {A : Nat → Prop} {w0 : va_W}
theorem dX12_mix_0 : decode cX12_mix 0 = .ok (.aload_n 0, 1) := by decide +kernel
theorem dX12_mix_1 : decode cX12_mix 1 = .ok (.ldc2_w 263, 3) := by decide +kernel
theorem dX12_mix_4 : decode cX12_mix 4 = .ok (.aload_n 0, 1) := by decide +kernel
theorem dX12_mix_5 : decode cX12_mix 5 = .ok (.getfield 265, 3) := by decide +kernel
theorem dX12_mix_8 : decode cX12_mix 8 = .ok (.lmul, 1) := by decide +kernel
theorem dX12_mix_9 : decode cX12_mix 9 = .ok (.lload_n 1, 1) := by decide +kernel
theorem dX12_mix_10 : decode cX12_mix 10 = .ok (.ladd, 1) := by decide +kernel
theorem dX12_mix_11 : decode cX12_mix 11 = .ok (.putfield 265, 3) := by decide +kernel
theorem dX12_mix_14 : decode cX12_mix 14 = .ok (.return_, 1) := by decide +kernel
theorem dX12_digest_0 : decode cX12_digest 0 = .ok (.aload_n 0, 1) := by decide +kernel
theorem dX12_digest_1 : decode cX12_digest 1 = .ok (.ldc2_w 268, 3) := by decide +kernel
theorem dX12_digest_4 : decode cX12_digest 4 = .ok (.putfield 265, 3) := by decide +kernel
theorem dX12_digest_7 : decode cX12_digest 7 = .ok (.iconst 0, 1) := by decide +kernel
theorem dX12_digest_8 : decode cX12_digest 8 = .ok (.istore_n 1, 1) := by decide +kernel
theorem dX12_digest_9 : decode cX12_digest 9 = .ok (.iload_n 1, 1) := by decide +kernel
theorem dX12_digest_10 : decode cX12_digest 10 = .ok (.bipush 7, 2) := by decide +kernel
theorem dX12_digest_12 : decode cX12_digest 12 = .ok (.if_icmp .ge 19, 3) := by decide +kernel
theorem dX12_digest_15 : decode cX12_digest 15 = .ok (.aload_n 0, 1) := by decide +kernel
theorem dX12_digest_16 : decode cX12_digest 16 = .ok (.aload_n 0, 1) := by decide +kernel
theorem dX12_digest_17 : decode cX12_digest 17 = .ok (.iload_n 1, 1) := by decide +kernel
theorem dX12_digest_18 : decode cX12_digest 18 = .ok (.invokevirtual 260, 3) := by decide +kernel
theorem dX12_digest_21 : decode cX12_digest 21 = .ok (.i2l, 1) := by decide +kernel
theorem dX12_digest_22 : decode cX12_digest 22 = .ok (.invokevirtual 270, 3) := by decide +kernel
theorem dX12_digest_25 : decode cX12_digest 25 = .ok (.iinc 1 1, 3) := by decide +kernel
theorem dX12_digest_28 : decode cX12_digest 28 = .ok (.goto (-19), 3) := by decide +kernel
theorem dX12_digest_31 : decode cX12_digest 31 = .ok (.iconst 0, 1) := by decide +kernel
theorem dX12_digest_32 : decode cX12_digest 32 = .ok (.istore_n 1, 1) := by decide +kernel
theorem dX12_digest_33 : decode cX12_digest 33 = .ok (.iload_n 1, 1) := by decide +kernel
theorem dX12_digest_34 : decode cX12_digest 34 = .ok (.aload_n 0, 1) := by decide +kernel
theorem dX12_digest_35 : decode cX12_digest 35 = .ok (.getfield 7, 3) := by decide +kernel
theorem dX12_digest_38 : decode cX12_digest 38 = .ok (.if_icmp .ge 61, 3) := by decide +kernel
theorem dX12_digest_41 : decode cX12_digest 41 = .ok (.aload_n 0, 1) := by decide +kernel
theorem dX12_digest_42 : decode cX12_digest 42 = .ok (.aload_n 0, 1) := by decide +kernel
theorem dX12_digest_43 : decode cX12_digest 43 = .ok (.getfield 17, 3) := by decide +kernel
theorem dX12_digest_46 : decode cX12_digest 46 = .ok (.iconst 0, 1) := by decide +kernel
theorem dX12_digest_47 : decode cX12_digest 47 = .ok (.iload_n 1, 1) := by decide +kernel
theorem dX12_digest_48 : decode cX12_digest 48 = .ok (.iadd, 1) := by decide +kernel
theorem dX12_digest_49 : decode cX12_digest 49 = .ok (.iaload, 1) := by decide +kernel
theorem dX12_digest_50 : decode cX12_digest 50 = .ok (.i2l, 1) := by decide +kernel
theorem dX12_digest_51 : decode cX12_digest 51 = .ok (.invokevirtual 270, 3) := by decide +kernel
theorem dX12_digest_54 : decode cX12_digest 54 = .ok (.aload_n 0, 1) := by decide +kernel
theorem dX12_digest_55 : decode cX12_digest 55 = .ok (.aload_n 0, 1) := by decide +kernel
theorem dX12_digest_56 : decode cX12_digest 56 = .ok (.getfield 17, 3) := by decide +kernel
theorem dX12_digest_59 : decode cX12_digest 59 = .ok (.bipush 6, 2) := by decide +kernel
theorem dX12_digest_61 : decode cX12_digest 61 = .ok (.iload_n 1, 1) := by decide +kernel
theorem dX12_digest_62 : decode cX12_digest 62 = .ok (.iadd, 1) := by decide +kernel
theorem dX12_digest_63 : decode cX12_digest 63 = .ok (.iaload, 1) := by decide +kernel
theorem dX12_digest_64 : decode cX12_digest 64 = .ok (.i2l, 1) := by decide +kernel
theorem dX12_digest_65 : decode cX12_digest 65 = .ok (.invokevirtual 270, 3) := by decide +kernel
theorem dX12_digest_68 : decode cX12_digest 68 = .ok (.iconst 0, 1) := by decide +kernel
theorem dX12_digest_69 : decode cX12_digest 69 = .ok (.istore_n 2, 1) := by decide +kernel
theorem dX12_digest_70 : decode cX12_digest 70 = .ok (.iload_n 2, 1) := by decide +kernel
theorem dX12_digest_71 : decode cX12_digest 71 = .ok (.bipush 12, 2) := by decide +kernel
theorem dX12_digest_73 : decode cX12_digest 73 = .ok (.if_icmp .ge 20, 3) := by decide +kernel
theorem dX12_digest_76 : decode cX12_digest 76 = .ok (.aload_n 0, 1) := by decide +kernel
theorem dX12_digest_77 : decode cX12_digest 77 = .ok (.aload_n 0, 1) := by decide +kernel
theorem dX12_digest_78 : decode cX12_digest 78 = .ok (.iload_n 1, 1) := by decide +kernel
theorem dX12_digest_79 : decode cX12_digest 79 = .ok (.iload_n 2, 1) := by decide +kernel
theorem dX12_digest_80 : decode cX12_digest 80 = .ok (.invokevirtual 181, 3) := by decide +kernel
theorem dX12_digest_83 : decode cX12_digest 83 = .ok (.i2l, 1) := by decide +kernel
theorem dX12_digest_84 : decode cX12_digest 84 = .ok (.invokevirtual 270, 3) := by decide +kernel
theorem dX12_digest_87 : decode cX12_digest 87 = .ok (.iinc 2 1, 3) := by decide +kernel
theorem dX12_digest_90 : decode cX12_digest 90 = .ok (.goto (-20), 3) := by decide +kernel
theorem dX12_digest_93 : decode cX12_digest 93 = .ok (.iinc 1 1, 3) := by decide +kernel
theorem dX12_digest_96 : decode cX12_digest 96 = .ok (.goto (-63), 3) := by decide +kernel
theorem dX12_digest_99 : decode cX12_digest 99 = .ok (.iconst 0, 1) := by decide +kernel
theorem dX12_digest_100 : decode cX12_digest 100 = .ok (.istore_n 1, 1) := by decide +kernel
theorem dX12_digest_101 : decode cX12_digest 101 = .ok (.iload_n 1, 1) := by decide +kernel
theorem dX12_digest_102 : decode cX12_digest 102 = .ok (.iconst 4, 1) := by decide +kernel
theorem dX12_digest_103 : decode cX12_digest 103 = .ok (.aload_n 0, 1) := by decide +kernel
theorem dX12_digest_104 : decode cX12_digest 104 = .ok (.getfield 17, 3) := by decide +kernel
theorem dX12_digest_107 : decode cX12_digest 107 = .ok (.bipush 124, 2) := by decide +kernel
theorem dX12_digest_109 : decode cX12_digest 109 = .ok (.iaload, 1) := by decide +kernel
theorem dX12_digest_110 : decode cX12_digest 110 = .ok (.imul, 1) := by decide +kernel
theorem dX12_digest_111 : decode cX12_digest 111 = .ok (.if_icmp .ge 23, 3) := by decide +kernel
theorem dX12_digest_114 : decode cX12_digest 114 = .ok (.aload_n 0, 1) := by decide +kernel
theorem dX12_digest_115 : decode cX12_digest 115 = .ok (.aload_n 0, 1) := by decide +kernel
theorem dX12_digest_116 : decode cX12_digest 116 = .ok (.getfield 17, 3) := by decide +kernel
theorem dX12_digest_119 : decode cX12_digest 119 = .ok (.bipush 84, 2) := by decide +kernel
theorem dX12_digest_121 : decode cX12_digest 121 = .ok (.iload_n 1, 1) := by decide +kernel
theorem dX12_digest_122 : decode cX12_digest 122 = .ok (.iadd, 1) := by decide +kernel
theorem dX12_digest_123 : decode cX12_digest 123 = .ok (.iaload, 1) := by decide +kernel
theorem dX12_digest_124 : decode cX12_digest 124 = .ok (.i2l, 1) := by decide +kernel
theorem dX12_digest_125 : decode cX12_digest 125 = .ok (.invokevirtual 270, 3) := by decide +kernel
theorem dX12_digest_128 : decode cX12_digest 128 = .ok (.iinc 1 1, 3) := by decide +kernel
theorem dX12_digest_131 : decode cX12_digest 131 = .ok (.goto (-30), 3) := by decide +kernel
theorem dX12_digest_134 : decode cX12_digest 134 = .ok (.iconst 0, 1) := by decide +kernel
theorem dX12_digest_135 : decode cX12_digest 135 = .ok (.istore_n 1, 1) := by decide +kernel
theorem dX12_digest_136 : decode cX12_digest 136 = .ok (.iload_n 1, 1) := by decide +kernel
theorem dX12_digest_137 : decode cX12_digest 137 = .ok (.aload_n 0, 1) := by decide +kernel
theorem dX12_digest_138 : decode cX12_digest 138 = .ok (.getfield 79, 3) := by decide +kernel
theorem dX12_digest_141 : decode cX12_digest 141 = .ok (.if_icmp .ge 20, 3) := by decide +kernel
theorem dX12_digest_144 : decode cX12_digest 144 = .ok (.aload_n 0, 1) := by decide +kernel
theorem dX12_digest_145 : decode cX12_digest 145 = .ok (.aload_n 0, 1) := by decide +kernel
theorem dX12_digest_146 : decode cX12_digest 146 = .ok (.getfield 13, 3) := by decide +kernel
theorem dX12_digest_149 : decode cX12_digest 149 = .ok (.iload_n 1, 1) := by decide +kernel
theorem dX12_digest_150 : decode cX12_digest 150 = .ok (.iaload, 1) := by decide +kernel
theorem dX12_digest_151 : decode cX12_digest 151 = .ok (.i2l, 1) := by decide +kernel
theorem dX12_digest_152 : decode cX12_digest 152 = .ok (.invokevirtual 270, 3) := by decide +kernel
theorem dX12_digest_155 : decode cX12_digest 155 = .ok (.iinc 1 1, 3) := by decide +kernel
theorem dX12_digest_158 : decode cX12_digest 158 = .ok (.goto (-22), 3) := by decide +kernel
theorem dX12_digest_161 : decode cX12_digest 161 = .ok (.aload_n 0, 1) := by decide +kernel
theorem dX12_digest_162 : decode cX12_digest 162 = .ok (.aload_n 0, 1) := by decide +kernel
theorem dX12_digest_163 : decode cX12_digest 163 = .ok (.getfield 227, 3) := by decide +kernel
theorem dX12_digest_166 : decode cX12_digest 166 = .ok (.invokevirtual 270, 3) := by decide +kernel
theorem dX12_digest_169 : decode cX12_digest 169 = .ok (.aload_n 0, 1) := by decide +kernel
theorem dX12_digest_170 : decode cX12_digest 170 = .ok (.aload_n 0, 1) := by decide +kernel
theorem dX12_digest_171 : decode cX12_digest 171 = .ok (.getfield 23, 3) := by decide +kernel
theorem dX12_digest_174 : decode cX12_digest 174 = .ok (.invokevirtual 270, 3) := by decide +kernel
theorem dX12_digest_177 : decode cX12_digest 177 = .ok (.aload_n 0, 1) := by decide +kernel
theorem dX12_digest_178 : decode cX12_digest 178 = .ok (.getfield 265, 3) := by decide +kernel
theorem dX12_digest_181 : decode cX12_digest 181 = .ok (.lreturn, 1) := by decide +kernel
set_option maxHeartbeats 4000000 in
set_option maxRecDepth 100000 in
theorem ctX12_mix (l : Launch) (E : VE) (a : Nat → Nat) (x1 : Int64) (p : St)  {Post : St → Prop} (hw : wpX12_mix x1 p Post) (sz : Nat) : Met l yX12_mix (mW yX12_mix cX12_mix 3 none) rmX12_mix (CPre E [.ref (a 0), .long x1] sz (fl [bModel E a p])) (CQv E Post (fun u => (fl [bModel E a u])) (fl [bModel E a p]) sz) 0 0 (va_A (fl [bModel E a p]) sz) := by
  refine v_met (by decide) (Nat.le_of_ble_eq_true rfl) ?_
  intro pr e s m below meth c A hsz hA C
  subst hsz
  refine v_aload_n (pc := 0) C 0 rfl rfl dX12_mix_0 ?_
  refine v_ldc2 (pc := 1) C 31 wlX12_263 dX12_mix_1 ?_
  refine v_aload_n (pc := 4) C 0 rfl rfl dX12_mix_4 ?_
  refine v_get (pc := 5) C cfX12 rfl 0 29 rfl (by decide) wfX12_265 rfl dX12_mix_5 ?_
  refine v_lmul (pc := 8) C dX12_mix_8 ?_
  refine v_lload_n (pc := 9) C 1 rfl rfl dX12_mix_9 ?_
  refine v_ladd (pc := 10) C dX12_mix_10 ?_
  obtain ⟨p1, es⟩ : ∃ y : St, y = p.sL 29 ((31 * (p.L 29)) + x1) := ⟨_, rfl⟩
  have hw := hw p1 es
  refine v_put (pc := 11) C cfX12 rfl 0 29 (ty := .long) (w' := (fl [bModel E a p1])) rfl (by subst es; rfl) (by decide) wfX12_265 rfl rfl rfl rfl (Nat.le_of_ble_eq_true rfl) dX12_mix_11 ?_
  exact v_vret (pc := 14) C p1 hA rfl hw dX12_mix_14
set_option maxHeartbeats 4000000 in
set_option maxRecDepth 100000 in
theorem vlX12_digest_9 (C : VC pr s m args meth c E A cX12_digest 3 (some .long) RX12) (hA : va_A w0 s.heap.size = A) (a : Nat → Nat)  {Post : Int64 → St → Prop} {KX : St → Prop} (hX : ∀ (p : St), KX p → V pr l e rmX12_digest s m args below meth c E A 3 0 0 (MQ below (CQl E Post (fun u => (fl [bModel E a u])) w0 s.heap.size) args s 0 0 A) (fl [bModel E a p]) 31 [(0, .ref (a 0))] []) : ∀ (n : Nat) (x1 : Int32) (p : St), wLX12_digest_9  Post KX n (x1, p) → V pr l e rmX12_digest s m args below meth c E A 3 0 0 (MQ below (CQl E Post (fun u => (fl [bModel E a u])) w0 s.heap.size) args s 0 0 A) (fl [bModel E a p]) 9 [(0, .ref (a 0)), (1, .int x1)] [] := by
  intro n
  induction n with
  | zero => intro x1 p hw; exact absurd hw id
  | succ n hself =>
    intro x1 p hw
    have hw : wlX12_digest_9  Post KX (wLX12_digest_9  Post KX n) x1 p := hw
    refine v_iload_n (pc := 9) C 1 rfl rfl dX12_digest_9 ?_
    refine v_bipush (pc := 10) C 7 kb_7 dX12_digest_10 ?_
    refine v_icmp_ge (pc := 12) C 31 (by decide) dX12_digest_12 (fun hc => ?_) (fun hc => ?_)
    · have hw := hw.1 hc
      refine v_sub (lv' := [(0, .ref (a 0))]) [0] rfl ?_
      exact hX p hw
    · have hw := hw.2 hc
      refine v_aload_n (pc := 15) C 0 rfl rfl dX12_digest_15 ?_
      refine v_aload_n (pc := 16) C 0 rfl rfl dX12_digest_16 ?_
      refine v_iload_n (pc := 17) C 1 rfl rfl dX12_digest_17 ?_
      refine v_goAi (pc := 18) C (wc' := (fun (_ : Unit) => (fl [bModel E a p]))) (fun _ => rfl) (v_runVA (pc := 18) C [.int x1] [.ref (a 0)] (fun sz => ctX12_countOf l E a x1 p hw sz) mfX12_countOf mvX12_countOf wmX12_260 rfl ⟨Nat.le_of_ble_eq_true rfl, Nat.le_of_ble_eq_true rfl⟩ ⟨rfl, rfl⟩ 0 (ci := 12) (qc := (RX12, TX12, 30)) rfl rfl rfl rfl (Nat.le_of_ble_eq_true rfl) ⟨Nat.zero_le _, Nat.zero_le _⟩ dX12_digest_18) (fun r2 _ hw => ?_)
      refine v_i2l (pc := 21) C dX12_digest_21 ?_
      refine v_goAv (pc := 22) C (wc' := (fun (u : St) => (fl [bModel E a u]))) (fun _ => rfl) (v_runVA (pc := 22) C [.long (r2.toInt64)] [] (fun sz => ctX12_mix l E a (r2.toInt64) p hw sz) mfX12_mix mvX12_mix wmX12_270 rfl ⟨Nat.le_of_ble_eq_true rfl, Nat.le_of_ble_eq_true rfl⟩ ⟨rfl, rfl⟩ 0 (ci := 12) (qc := (RX12, TX12, 30)) rfl rfl rfl rfl (Nat.le_of_ble_eq_true rfl) ⟨Nat.zero_le _, Nat.zero_le _⟩ dX12_digest_22) (fun p3 hw => ?_)
      obtain ⟨x1_4, ex⟩ : ∃ y : Int32, y = x1 + 1 := ⟨_, rfl⟩
      have hw := hw x1_4 ex
      refine v_iinc (pc := 25) C 1 rfl (by rw [ex, ki_1]) [(1, .int x1_4), (0, .ref (a 0))] rfl (by decide) dX12_digest_25 ?_
      refine v_goto (pc := 28) C 9 (by decide) dX12_digest_28 ?_
      refine v_sub (lv' := [(0, .ref (a 0)), (1, .int x1_4)]) [1, 0] rfl ?_
      exact hself x1_4 p3 hw
set_option maxHeartbeats 4000000 in
set_option maxRecDepth 100000 in
theorem vlX12_digest_70 (C : VC pr s m args meth c E A cX12_digest 3 (some .long) RX12) (hA : va_A w0 s.heap.size = A) (a : Nat → Nat)  {Post : Int64 → St → Prop} {KX : Int32 → St → Prop} (hX : ∀ (x1 : Int32) (p : St), KX x1 p → V pr l e rmX12_digest s m args below meth c E A 3 0 0 (MQ below (CQl E Post (fun u => (fl [bModel E a u])) w0 s.heap.size) args s 0 0 A) (fl [bModel E a p]) 93 [(0, .ref (a 0)), (1, .int x1)] []) : ∀ (n : Nat) (x1 : Int32) (x2 : Int32) (p : St), wLX12_digest_70  Post KX n (x1, x2, p) → V pr l e rmX12_digest s m args below meth c E A 3 0 0 (MQ below (CQl E Post (fun u => (fl [bModel E a u])) w0 s.heap.size) args s 0 0 A) (fl [bModel E a p]) 70 [(0, .ref (a 0)), (1, .int x1), (2, .int x2)] [] := by
  intro n
  induction n with
  | zero => intro x1 x2 p hw; exact absurd hw id
  | succ n hself =>
    intro x1 x2 p hw
    have hw : wlX12_digest_70  Post KX (wLX12_digest_70  Post KX n) x1 x2 p := hw
    refine v_iload_n (pc := 70) C 2 rfl rfl dX12_digest_70 ?_
    refine v_bipush (pc := 71) C 12 kb_12 dX12_digest_71 ?_
    refine v_icmp_ge (pc := 73) C 93 (by decide) dX12_digest_73 (fun hc => ?_) (fun hc => ?_)
    · have hw := hw.1 hc
      refine v_sub (lv' := [(0, .ref (a 0)), (1, .int x1)]) [0, 1] rfl ?_
      exact hX x1 p hw
    · have hw := hw.2 hc
      refine v_aload_n (pc := 76) C 0 rfl rfl dX12_digest_76 ?_
      refine v_aload_n (pc := 77) C 0 rfl rfl dX12_digest_77 ?_
      refine v_iload_n (pc := 78) C 1 rfl rfl dX12_digest_78 ?_
      refine v_iload_n (pc := 79) C 2 rfl rfl dX12_digest_79 ?_
      refine v_goAi (pc := 80) C (wc' := (fun (_ : Unit) => (fl [bModel E a p]))) (fun _ => rfl) (v_runVA (pc := 80) C [.int x1, .int x2] [.ref (a 0)] (fun sz => ctX12_dentOf l E a x1 x2 p hw sz) mfX12_dentOf mvX12_dentOf wmX12_181 rfl ⟨Nat.le_of_ble_eq_true rfl, Nat.le_of_ble_eq_true rfl⟩ ⟨rfl, rfl⟩ 0 (ci := 12) (qc := (RX12, TX12, 30)) rfl rfl rfl rfl (Nat.le_of_ble_eq_true rfl) ⟨Nat.zero_le _, Nat.zero_le _⟩ dX12_digest_80) (fun r8 _ hw => ?_)
      refine v_i2l (pc := 83) C dX12_digest_83 ?_
      refine v_goAv (pc := 84) C (wc' := (fun (u : St) => (fl [bModel E a u]))) (fun _ => rfl) (v_runVA (pc := 84) C [.long (r8.toInt64)] [] (fun sz => ctX12_mix l E a (r8.toInt64) p hw sz) mfX12_mix mvX12_mix wmX12_270 rfl ⟨Nat.le_of_ble_eq_true rfl, Nat.le_of_ble_eq_true rfl⟩ ⟨rfl, rfl⟩ 0 (ci := 12) (qc := (RX12, TX12, 30)) rfl rfl rfl rfl (Nat.le_of_ble_eq_true rfl) ⟨Nat.zero_le _, Nat.zero_le _⟩ dX12_digest_84) (fun p9 hw => ?_)
      obtain ⟨x2_10, ex⟩ : ∃ y : Int32, y = x2 + 1 := ⟨_, rfl⟩
      have hw := hw x2_10 ex
      refine v_iinc (pc := 87) C 2 rfl (by rw [ex, ki_1]) [(2, .int x2_10), (0, .ref (a 0)), (1, .int x1)] rfl (by decide) dX12_digest_87 ?_
      refine v_goto (pc := 90) C 70 (by decide) dX12_digest_90 ?_
      refine v_sub (lv' := [(0, .ref (a 0)), (1, .int x1), (2, .int x2_10)]) [1, 2, 0] rfl ?_
      exact hself x1 x2_10 p9 hw
set_option maxHeartbeats 4000000 in
set_option maxRecDepth 100000 in
theorem vlX12_digest_33 (C : VC pr s m args meth c E A cX12_digest 3 (some .long) RX12) (hA : va_A w0 s.heap.size = A) (a : Nat → Nat)  {Post : Int64 → St → Prop} {KX : St → Prop} (hX : ∀ (p : St), KX p → V pr l e rmX12_digest s m args below meth c E A 3 0 0 (MQ below (CQl E Post (fun u => (fl [bModel E a u])) w0 s.heap.size) args s 0 0 A) (fl [bModel E a p]) 99 [(0, .ref (a 0))] []) : ∀ (n : Nat) (x1 : Int32) (p : St), wLX12_digest_33  Post KX n (x1, p) → V pr l e rmX12_digest s m args below meth c E A 3 0 0 (MQ below (CQl E Post (fun u => (fl [bModel E a u])) w0 s.heap.size) args s 0 0 A) (fl [bModel E a p]) 33 [(0, .ref (a 0)), (1, .int x1)] [] := by
  intro n
  induction n with
  | zero => intro x1 p hw; exact absurd hw id
  | succ n hself =>
    intro x1 p hw
    have hw : wlX12_digest_33  Post KX (wLX12_digest_33  Post KX n) x1 p := hw
    refine v_iload_n (pc := 33) C 1 rfl rfl dX12_digest_33 ?_
    refine v_aload_n (pc := 34) C 0 rfl rfl dX12_digest_34 ?_
    refine v_get (pc := 35) C cfX12 rfl 0 0 rfl (by decide) wfX12_7 rfl dX12_digest_35 ?_
    refine v_icmp_ge (pc := 38) C 99 (by decide) dX12_digest_38 (fun hc => ?_) (fun hc => ?_)
    · have hw := hw.1 hc
      refine v_sub (lv' := [(0, .ref (a 0))]) [0] rfl ?_
      exact hX p hw
    · have hw := hw.2 hc
      refine v_aload_n (pc := 41) C 0 rfl rfl dX12_digest_41 ?_
      refine v_aload_n (pc := 42) C 0 rfl rfl dX12_digest_42 ?_
      refine v_get (pc := 43) C cfX12 rfl 0 4 rfl (by decide) wfX12_17 rfl dX12_digest_43 ?_
      refine v_iconst (pc := 46) C 0 ki_0 dX12_digest_46 ?_
      refine v_iload_n (pc := 47) C 1 rfl rfl dX12_digest_47 ?_
      refine v_iadd (pc := 48) C dX12_digest_48 ?_
      obtain ⟨hg, hw⟩ := hw
      refine v_iald (pc := 49) C 2 rfl hg rfl dX12_digest_49 ?_
      refine v_i2l (pc := 50) C dX12_digest_50 ?_
      refine v_goAv (pc := 51) C (wc' := (fun (u : St) => (fl [bModel E a u]))) (fun _ => rfl) (v_runVA (pc := 51) C [.long ((((p.A 4) ((0 : Int32) + x1).toNatClampNeg)).toInt64)] [] (fun sz => ctX12_mix l E a ((((p.A 4) ((0 : Int32) + x1).toNatClampNeg)).toInt64) p hw sz) mfX12_mix mvX12_mix wmX12_270 rfl ⟨Nat.le_of_ble_eq_true rfl, Nat.le_of_ble_eq_true rfl⟩ ⟨rfl, rfl⟩ 0 (ci := 12) (qc := (RX12, TX12, 30)) rfl rfl rfl rfl (Nat.le_of_ble_eq_true rfl) ⟨Nat.zero_le _, Nat.zero_le _⟩ dX12_digest_51) (fun p6 hw => ?_)
      refine v_aload_n (pc := 54) C 0 rfl rfl dX12_digest_54 ?_
      refine v_aload_n (pc := 55) C 0 rfl rfl dX12_digest_55 ?_
      refine v_get (pc := 56) C cfX12 rfl 0 4 rfl (by decide) wfX12_17 rfl dX12_digest_56 ?_
      refine v_bipush (pc := 59) C 6 kb_6 dX12_digest_59 ?_
      refine v_iload_n (pc := 61) C 1 rfl rfl dX12_digest_61 ?_
      refine v_iadd (pc := 62) C dX12_digest_62 ?_
      obtain ⟨hg, hw⟩ := hw
      refine v_iald (pc := 63) C 2 rfl hg rfl dX12_digest_63 ?_
      refine v_i2l (pc := 64) C dX12_digest_64 ?_
      refine v_goAv (pc := 65) C (wc' := (fun (u : St) => (fl [bModel E a u]))) (fun _ => rfl) (v_runVA (pc := 65) C [.long ((((p6.A 4) ((6 : Int32) + x1).toNatClampNeg)).toInt64)] [] (fun sz => ctX12_mix l E a ((((p6.A 4) ((6 : Int32) + x1).toNatClampNeg)).toInt64) p6 hw sz) mfX12_mix mvX12_mix wmX12_270 rfl ⟨Nat.le_of_ble_eq_true rfl, Nat.le_of_ble_eq_true rfl⟩ ⟨rfl, rfl⟩ 0 (ci := 12) (qc := (RX12, TX12, 30)) rfl rfl rfl rfl (Nat.le_of_ble_eq_true rfl) ⟨Nat.zero_le _, Nat.zero_le _⟩ dX12_digest_65) (fun p7 hw => ?_)
      refine v_iconst (pc := 68) C 0 ki_0 dX12_digest_68 ?_
      refine v_istore_n (pc := 69) C [(2, .int 0), (0, .ref (a 0)), (1, .int x1)] rfl rfl (by decide) dX12_digest_69 ?_
      obtain ⟨n, hw⟩ := hw
      refine v_sub (lv' := [(0, .ref (a 0)), (1, .int x1), (2, .int 0)]) [1, 2, 0] rfl ?_
      refine vlX12_digest_70 C hA a  (fun y11 p12 hw => ?_) n x1 0 p7 hw
      obtain ⟨x1_13, ex⟩ : ∃ y : Int32, y = y11 + 1 := ⟨_, rfl⟩
      have hw := hw x1_13 ex
      refine v_iinc (pc := 93) C 1 rfl (by rw [ex, ki_1]) [(1, .int x1_13), (0, .ref (a 0))] rfl (by decide) dX12_digest_93 ?_
      refine v_goto (pc := 96) C 33 (by decide) dX12_digest_96 ?_
      refine v_sub (lv' := [(0, .ref (a 0)), (1, .int x1_13)]) [1, 0] rfl ?_
      exact hself x1_13 p12 hw
set_option maxHeartbeats 4000000 in
set_option maxRecDepth 100000 in
theorem vlX12_digest_101 (C : VC pr s m args meth c E A cX12_digest 3 (some .long) RX12) (hA : va_A w0 s.heap.size = A) (a : Nat → Nat)  {Post : Int64 → St → Prop} {KX : St → Prop} (hX : ∀ (p : St), KX p → V pr l e rmX12_digest s m args below meth c E A 3 0 0 (MQ below (CQl E Post (fun u => (fl [bModel E a u])) w0 s.heap.size) args s 0 0 A) (fl [bModel E a p]) 134 [(0, .ref (a 0))] []) : ∀ (n : Nat) (x1 : Int32) (p : St), wLX12_digest_101  Post KX n (x1, p) → V pr l e rmX12_digest s m args below meth c E A 3 0 0 (MQ below (CQl E Post (fun u => (fl [bModel E a u])) w0 s.heap.size) args s 0 0 A) (fl [bModel E a p]) 101 [(0, .ref (a 0)), (1, .int x1)] [] := by
  intro n
  induction n with
  | zero => intro x1 p hw; exact absurd hw id
  | succ n hself =>
    intro x1 p hw
    have hw : wlX12_digest_101  Post KX (wLX12_digest_101  Post KX n) x1 p := hw
    refine v_iload_n (pc := 101) C 1 rfl rfl dX12_digest_101 ?_
    refine v_iconst (pc := 102) C 4 ki_4 dX12_digest_102 ?_
    refine v_aload_n (pc := 103) C 0 rfl rfl dX12_digest_103 ?_
    refine v_get (pc := 104) C cfX12 rfl 0 4 rfl (by decide) wfX12_17 rfl dX12_digest_104 ?_
    refine v_bipush (pc := 107) C 124 kb_124 dX12_digest_107 ?_
    refine v_iald (pc := 109) C 2 rfl vi_124_126 tn_124 dX12_digest_109 ?_
    refine v_imul (pc := 110) C dX12_digest_110 ?_
    refine v_icmp_ge (pc := 111) C 134 (by decide) dX12_digest_111 (fun hc => ?_) (fun hc => ?_)
    · have hw := hw.1 hc
      refine v_sub (lv' := [(0, .ref (a 0))]) [0] rfl ?_
      exact hX p hw
    · have hw := hw.2 hc
      refine v_aload_n (pc := 114) C 0 rfl rfl dX12_digest_114 ?_
      refine v_aload_n (pc := 115) C 0 rfl rfl dX12_digest_115 ?_
      refine v_get (pc := 116) C cfX12 rfl 0 4 rfl (by decide) wfX12_17 rfl dX12_digest_116 ?_
      refine v_bipush (pc := 119) C 84 kb_84 dX12_digest_119 ?_
      refine v_iload_n (pc := 121) C 1 rfl rfl dX12_digest_121 ?_
      refine v_iadd (pc := 122) C dX12_digest_122 ?_
      obtain ⟨hg, hw⟩ := hw
      refine v_iald (pc := 123) C 2 rfl hg rfl dX12_digest_123 ?_
      refine v_i2l (pc := 124) C dX12_digest_124 ?_
      refine v_goAv (pc := 125) C (wc' := (fun (u : St) => (fl [bModel E a u]))) (fun _ => rfl) (v_runVA (pc := 125) C [.long ((((p.A 4) ((84 : Int32) + x1).toNatClampNeg)).toInt64)] [] (fun sz => ctX12_mix l E a ((((p.A 4) ((84 : Int32) + x1).toNatClampNeg)).toInt64) p hw sz) mfX12_mix mvX12_mix wmX12_270 rfl ⟨Nat.le_of_ble_eq_true rfl, Nat.le_of_ble_eq_true rfl⟩ ⟨rfl, rfl⟩ 0 (ci := 12) (qc := (RX12, TX12, 30)) rfl rfl rfl rfl (Nat.le_of_ble_eq_true rfl) ⟨Nat.zero_le _, Nat.zero_le _⟩ dX12_digest_125) (fun p15 hw => ?_)
      obtain ⟨x1_16, ex⟩ : ∃ y : Int32, y = x1 + 1 := ⟨_, rfl⟩
      have hw := hw x1_16 ex
      refine v_iinc (pc := 128) C 1 rfl (by rw [ex, ki_1]) [(1, .int x1_16), (0, .ref (a 0))] rfl (by decide) dX12_digest_128 ?_
      refine v_goto (pc := 131) C 101 (by decide) dX12_digest_131 ?_
      refine v_sub (lv' := [(0, .ref (a 0)), (1, .int x1_16)]) [1, 0] rfl ?_
      exact hself x1_16 p15 hw
set_option maxHeartbeats 4000000 in
set_option maxRecDepth 100000 in
theorem vlX12_digest_136 (C : VC pr s m args meth c E A cX12_digest 3 (some .long) RX12) (hA : va_A w0 s.heap.size = A) (a : Nat → Nat)  {Post : Int64 → St → Prop} {KX : St → Prop} (hX : ∀ (p : St), KX p → V pr l e rmX12_digest s m args below meth c E A 3 0 0 (MQ below (CQl E Post (fun u => (fl [bModel E a u])) w0 s.heap.size) args s 0 0 A) (fl [bModel E a p]) 161 [(0, .ref (a 0))] []) : ∀ (n : Nat) (x1 : Int32) (p : St), wLX12_digest_136  Post KX n (x1, p) → V pr l e rmX12_digest s m args below meth c E A 3 0 0 (MQ below (CQl E Post (fun u => (fl [bModel E a u])) w0 s.heap.size) args s 0 0 A) (fl [bModel E a p]) 136 [(0, .ref (a 0)), (1, .int x1)] [] := by
  intro n
  induction n with
  | zero => intro x1 p hw; exact absurd hw id
  | succ n hself =>
    intro x1 p hw
    have hw : wlX12_digest_136  Post KX (wLX12_digest_136  Post KX n) x1 p := hw
    refine v_iload_n (pc := 136) C 1 rfl rfl dX12_digest_136 ?_
    refine v_aload_n (pc := 137) C 0 rfl rfl dX12_digest_137 ?_
    refine v_get (pc := 138) C cfX12 rfl 0 3 rfl (by decide) wfX12_79 rfl dX12_digest_138 ?_
    refine v_icmp_ge (pc := 141) C 161 (by decide) dX12_digest_141 (fun hc => ?_) (fun hc => ?_)
    · have hw := hw.1 hc
      refine v_sub (lv' := [(0, .ref (a 0))]) [0] rfl ?_
      exact hX p hw
    · have hw := hw.2 hc
      refine v_aload_n (pc := 144) C 0 rfl rfl dX12_digest_144 ?_
      refine v_aload_n (pc := 145) C 0 rfl rfl dX12_digest_145 ?_
      refine v_get (pc := 146) C cfX12 rfl 0 2 rfl (by decide) wfX12_13 rfl dX12_digest_146 ?_
      refine v_iload_n (pc := 149) C 1 rfl rfl dX12_digest_149 ?_
      obtain ⟨hg, hw⟩ := hw
      refine v_iald (pc := 150) C 1 rfl hg rfl dX12_digest_150 ?_
      refine v_i2l (pc := 151) C dX12_digest_151 ?_
      refine v_goAv (pc := 152) C (wc' := (fun (u : St) => (fl [bModel E a u]))) (fun _ => rfl) (v_runVA (pc := 152) C [.long ((((p.A 2) x1.toNatClampNeg)).toInt64)] [] (fun sz => ctX12_mix l E a ((((p.A 2) x1.toNatClampNeg)).toInt64) p hw sz) mfX12_mix mvX12_mix wmX12_270 rfl ⟨Nat.le_of_ble_eq_true rfl, Nat.le_of_ble_eq_true rfl⟩ ⟨rfl, rfl⟩ 0 (ci := 12) (qc := (RX12, TX12, 30)) rfl rfl rfl rfl (Nat.le_of_ble_eq_true rfl) ⟨Nat.zero_le _, Nat.zero_le _⟩ dX12_digest_152) (fun p18 hw => ?_)
      obtain ⟨x1_19, ex⟩ : ∃ y : Int32, y = x1 + 1 := ⟨_, rfl⟩
      have hw := hw x1_19 ex
      refine v_iinc (pc := 155) C 1 rfl (by rw [ex, ki_1]) [(1, .int x1_19), (0, .ref (a 0))] rfl (by decide) dX12_digest_155 ?_
      refine v_goto (pc := 158) C 136 (by decide) dX12_digest_158 ?_
      refine v_sub (lv' := [(0, .ref (a 0)), (1, .int x1_19)]) [1, 0] rfl ?_
      exact hself x1_19 p18 hw
set_option maxHeartbeats 4000000 in
set_option maxRecDepth 100000 in
theorem ctX12_digest (l : Launch) (E : VE) (a : Nat → Nat)  (p : St)  {Post : Int64 → St → Prop} (hw : wpX12_digest p Post) (sz : Nat) : Met l yX12_digest (mW yX12_digest cX12_digest 3 (some .long)) rmX12_digest (CPre E [.ref (a 0)] sz (fl [bModel E a p])) (CQl E Post (fun u => (fl [bModel E a u])) (fl [bModel E a p]) sz) 0 0 (va_A (fl [bModel E a p]) sz) := by
  refine v_met (by decide) (Nat.le_of_ble_eq_true rfl) ?_
  intro pr e s m below meth c A hsz hA C
  subst hsz
  refine v_aload_n (pc := 0) C 0 rfl rfl dX12_digest_0 ?_
  refine v_ldc2 (pc := 1) C 919 wlX12_268 dX12_digest_1 ?_
  obtain ⟨p1, es⟩ : ∃ y : St, y = p.sL 29 919 := ⟨_, rfl⟩
  have hw := hw p1 es
  refine v_put (pc := 4) C cfX12 rfl 0 29 (ty := .long) (w' := (fl [bModel E a p1])) rfl (by subst es; rfl) (by decide) wfX12_265 rfl rfl rfl rfl (Nat.le_of_ble_eq_true rfl) dX12_digest_4 ?_
  refine v_iconst (pc := 7) C 0 ki_0 dX12_digest_7 ?_
  refine v_istore_n (pc := 8) C [(1, .int 0), (0, .ref (a 0))] rfl rfl (by decide) dX12_digest_8 ?_
  obtain ⟨n, hw⟩ := hw
  refine v_sub (lv' := [(0, .ref (a 0)), (1, .int 0)]) [1, 0] rfl ?_
  refine vlX12_digest_9 C hA a  (fun p5 hw => ?_) n 0 p1 hw
  refine v_iconst (pc := 31) C 0 ki_0 dX12_digest_31 ?_
  refine v_istore_n (pc := 32) C [(1, .int 0), (0, .ref (a 0))] rfl rfl (by decide) dX12_digest_32 ?_
  obtain ⟨n, hw⟩ := hw
  refine v_sub (lv' := [(0, .ref (a 0)), (1, .int 0)]) [1, 0] rfl ?_
  refine vlX12_digest_33 C hA a  (fun p14 hw => ?_) n 0 p5 hw
  refine v_iconst (pc := 99) C 0 ki_0 dX12_digest_99 ?_
  refine v_istore_n (pc := 100) C [(1, .int 0), (0, .ref (a 0))] rfl rfl (by decide) dX12_digest_100 ?_
  obtain ⟨n, hw⟩ := hw
  refine v_sub (lv' := [(0, .ref (a 0)), (1, .int 0)]) [1, 0] rfl ?_
  refine vlX12_digest_101 C hA a  (fun p17 hw => ?_) n 0 p14 hw
  refine v_iconst (pc := 134) C 0 ki_0 dX12_digest_134 ?_
  refine v_istore_n (pc := 135) C [(1, .int 0), (0, .ref (a 0))] rfl rfl (by decide) dX12_digest_135 ?_
  obtain ⟨n, hw⟩ := hw
  refine v_sub (lv' := [(0, .ref (a 0)), (1, .int 0)]) [1, 0] rfl ?_
  refine vlX12_digest_136 C hA a  (fun p20 hw => ?_) n 0 p17 hw
  refine v_aload_n (pc := 161) C 0 rfl rfl dX12_digest_161 ?_
  refine v_aload_n (pc := 162) C 0 rfl rfl dX12_digest_162 ?_
  refine v_get (pc := 163) C cfX12 rfl 0 7 rfl (by decide) wfX12_227 rfl dX12_digest_163 ?_
  refine v_goAv (pc := 166) C (wc' := (fun (u : St) => (fl [bModel E a u]))) (fun _ => rfl) (v_runVA (pc := 166) C [.long (p20.L 7)] [] (fun sz => ctX12_mix l E a (p20.L 7) p20 hw sz) mfX12_mix mvX12_mix wmX12_270 rfl ⟨Nat.le_of_ble_eq_true rfl, Nat.le_of_ble_eq_true rfl⟩ ⟨rfl, rfl⟩ 0 (ci := 12) (qc := (RX12, TX12, 30)) rfl rfl rfl rfl (Nat.le_of_ble_eq_true rfl) ⟨Nat.zero_le _, Nat.zero_le _⟩ dX12_digest_166) (fun p21 hw => ?_)
  refine v_aload_n (pc := 169) C 0 rfl rfl dX12_digest_169 ?_
  refine v_aload_n (pc := 170) C 0 rfl rfl dX12_digest_170 ?_
  refine v_get (pc := 171) C cfX12 rfl 0 8 rfl (by decide) wfX12_23 rfl dX12_digest_171 ?_
  refine v_goAv (pc := 174) C (wc' := (fun (u : St) => (fl [bModel E a u]))) (fun _ => rfl) (v_runVA (pc := 174) C [.long (p21.L 8)] [] (fun sz => ctX12_mix l E a (p21.L 8) p21 hw sz) mfX12_mix mvX12_mix wmX12_270 rfl ⟨Nat.le_of_ble_eq_true rfl, Nat.le_of_ble_eq_true rfl⟩ ⟨rfl, rfl⟩ 0 (ci := 12) (qc := (RX12, TX12, 30)) rfl rfl rfl rfl (Nat.le_of_ble_eq_true rfl) ⟨Nat.zero_le _, Nat.zero_le _⟩ dX12_digest_174) (fun p22 hw => ?_)
  refine v_aload_n (pc := 177) C 0 rfl rfl dX12_digest_177 ?_
  refine v_get (pc := 178) C cfX12 rfl 0 29 rfl (by decide) wfX12_265 rfl dX12_digest_178 ?_
  exact v_lret (pc := 181) C p22 hA rfl hw dX12_digest_181
end
