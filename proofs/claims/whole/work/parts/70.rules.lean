theorem wArrI : Cond.arrayClass .int ∈ gG := gG_in (tin1 (List.mem_of_getElem? (i := 139) rfl)) rfl
theorem wArrZ : Cond.arrayClass .boolean ∈ gG := gG_in (tin4 (List.mem_of_getElem? (i := 133) rfl)) rfl
theorem wnObj : Cond.instanceMethod Lib.objectInit ∈ gG := gG_in (tin1 (List.mem_of_getElem? (i := 26) rfl)) rfl
theorem wcObj : Cond.code Lib.objectInit ⟨#[0xb1]⟩ 1 none ∈ gG := gG_in (tin1 (List.mem_of_getElem? (i := 27) rfl)) rfl
theorem wcX6_init : Cond.code yX6_init cX6_init 1 none ∈ gG := gG_in (tin1 (List.mem_of_getElem? (i := 39) rfl)) rfl
theorem mfX6_init : MF yX6_init cX6_init 1 none 0 := ⟨wcX6_init, wiX6, by decide +kernel⟩
theorem wnX6_init : Cond.instanceMethod yX6_init ∈ gG := gG_in (tin1 (List.mem_of_getElem? (i := 38) rfl)) rfl
theorem wmX6_3 : Cond.methodLink RX6 3 Lib.objectInit ∈ gG := gG_in (tin1 (List.mem_of_getElem? (i := 40) rfl)) rfl
theorem wcX0_init : Cond.code yX0_init cX0_init 1 none ∈ gG := gG_in (tin1 (List.mem_of_getElem? (i := 46) rfl)) rfl
theorem mfX0_init : MF yX0_init cX0_init 1 none 0 := ⟨wcX0_init, wiX0, by decide +kernel⟩
theorem wnX0_init : Cond.instanceMethod yX0_init ∈ gG := gG_in (tin1 (List.mem_of_getElem? (i := 45) rfl)) rfl
theorem wmX0_1 : Cond.methodLinkNest RX0 1 yX6_init "PressedPad" ∈ nW := nW_in (tin1 (List.mem_of_getElem? (i := 47) rfl)) rfl
theorem wcX3_init : Cond.code yX3_init cX3_init 1 none ∈ gG := gG_in (tin1 (List.mem_of_getElem? (i := 53) rfl)) rfl
theorem mfX3_init : MF yX3_init cX3_init 1 none 0 := ⟨wcX3_init, wiX3, by decide +kernel⟩
theorem wnX3_init : Cond.instanceMethod yX3_init ∈ gG := gG_in (tin1 (List.mem_of_getElem? (i := 52) rfl)) rfl
theorem wmX3_1 : Cond.methodLinkNest RX3 1 yX6_init "PressedPad" ∈ nW := nW_in (tin1 (List.mem_of_getElem? (i := 54) rfl)) rfl
theorem wcX9_init : Cond.code yX9_init cX9_init 1 none ∈ gG := gG_in (tin1 (List.mem_of_getElem? (i := 60) rfl)) rfl
theorem mfX9_init : MF yX9_init cX9_init 1 none 0 := ⟨wcX9_init, wiX9, by decide +kernel⟩
theorem wnX9_init : Cond.instanceMethod yX9_init ∈ gG := gG_in (tin1 (List.mem_of_getElem? (i := 59) rfl)) rfl
theorem wmX9_1 : Cond.methodLinkNest RX9 1 yX0_init "PressedPad" ∈ nW := nW_in (tin1 (List.mem_of_getElem? (i := 61) rfl)) rfl
theorem wcX1_init : Cond.code yX1_init cX1_init 1 none ∈ gG := gG_in (tin1 (List.mem_of_getElem? (i := 67) rfl)) rfl
theorem mfX1_init : MF yX1_init cX1_init 1 none 0 := ⟨wcX1_init, wiX1, by decide +kernel⟩
theorem wnX1_init : Cond.instanceMethod yX1_init ∈ gG := gG_in (tin1 (List.mem_of_getElem? (i := 66) rfl)) rfl
theorem wmX1_1 : Cond.methodLinkNest RX1 1 yX3_init "PressedPad" ∈ nW := nW_in (tin1 (List.mem_of_getElem? (i := 68) rfl)) rfl
theorem wcX10_init : Cond.code yX10_init cX10_init 1 none ∈ gG := gG_in (tin1 (List.mem_of_getElem? (i := 74) rfl)) rfl
theorem mfX10_init : MF yX10_init cX10_init 1 none 0 := ⟨wcX10_init, wiX10, by decide +kernel⟩
theorem wnX10_init : Cond.instanceMethod yX10_init ∈ gG := gG_in (tin1 (List.mem_of_getElem? (i := 73) rfl)) rfl
theorem wmX10_1 : Cond.methodLinkNest RX10 1 yX9_init "PressedPad" ∈ nW := nW_in (tin1 (List.mem_of_getElem? (i := 75) rfl)) rfl
theorem wmX5_1 : Cond.methodLink RX5 1 Lib.objectInit ∈ gG := gG_in (tin1 (List.mem_of_getElem? (i := 33) rfl)) rfl
theorem wkX5_7 : Cond.classLink RX5 7 RX6 ∈ gG := gG_in (tin1 (List.mem_of_getElem? (i := 34) rfl)) rfl
theorem wjX6 : Cond.instantiable RX6 0 ∈ gG := gG_in (tin1 (List.mem_of_getElem? (i := 36) rfl)) rfl
theorem cuX6 : ∀ w ∈ u_ws RX6 TX6 0, w ∈ gG := fun _ h => absurd h List.not_mem_nil
theorem cfX6 : CF RX6 TX6 0 tyX6 := ⟨cuX6, tyX6_ok, nmX6⟩
theorem wmX5_9 : Cond.methodLinkNest RX5 9 yX6_init "PressedPad" ∈ nW := nW_in (tin1 (List.mem_of_getElem? (i := 37) rfl)) rfl
theorem vi_0_6 : vp_in 0 6 := by unfold vp_in; decide
theorem wkX5_10 : Cond.classLink RX5 10 RX0 ∈ gG := gG_in (tin1 (List.mem_of_getElem? (i := 42) rfl)) rfl
theorem wjX0 : Cond.instantiable RX0 0 ∈ gG := gG_in (tin1 (List.mem_of_getElem? (i := 43) rfl)) rfl
theorem cuX0 : ∀ w ∈ u_ws RX0 TX0 0, w ∈ gG := fun _ h => absurd h List.not_mem_nil
theorem cfX0 : CF RX0 TX0 0 tyX0 := ⟨cuX0, tyX0_ok, nmX0⟩
theorem wmX5_12 : Cond.methodLinkNest RX5 12 yX0_init "PressedPad" ∈ nW := nW_in (tin1 (List.mem_of_getElem? (i := 44) rfl)) rfl
theorem vi_1_6 : vp_in 1 6 := by unfold vp_in; decide
theorem wvX0 : Cond.castable RX0 "PressedPad$Pencil" ∈ nW := nW_in (tin5 (List.mem_of_getElem? (i := 184) rfl)) rfl
theorem wkX5_13 : Cond.classLink RX5 13 RX3 ∈ gG := gG_in (tin1 (List.mem_of_getElem? (i := 49) rfl)) rfl
theorem wjX3 : Cond.instantiable RX3 0 ∈ gG := gG_in (tin1 (List.mem_of_getElem? (i := 50) rfl)) rfl
theorem cuX3 : ∀ w ∈ u_ws RX3 TX3 0, w ∈ gG := fun _ h => absurd h List.not_mem_nil
theorem cfX3 : CF RX3 TX3 0 tyX3 := ⟨cuX3, tyX3_ok, nmX3⟩
theorem wmX5_15 : Cond.methodLinkNest RX5 15 yX3_init "PressedPad" ∈ nW := nW_in (tin1 (List.mem_of_getElem? (i := 51) rfl)) rfl
theorem vi_2_6 : vp_in 2 6 := by unfold vp_in; decide
theorem wvX3 : Cond.castable RX3 "PressedPad$Pencil" ∈ nW := nW_in (tin5 (List.mem_of_getElem? (i := 185) rfl)) rfl
theorem wkX5_16 : Cond.classLink RX5 16 RX9 ∈ gG := gG_in (tin1 (List.mem_of_getElem? (i := 56) rfl)) rfl
theorem wjX9 : Cond.instantiable RX9 0 ∈ gG := gG_in (tin1 (List.mem_of_getElem? (i := 57) rfl)) rfl
theorem cuX9 : ∀ w ∈ u_ws RX9 TX9 0, w ∈ gG := fun _ h => absurd h List.not_mem_nil
theorem cfX9 : CF RX9 TX9 0 tyX9 := ⟨cuX9, tyX9_ok, nmX9⟩
theorem wmX5_18 : Cond.methodLinkNest RX5 18 yX9_init "PressedPad" ∈ nW := nW_in (tin1 (List.mem_of_getElem? (i := 58) rfl)) rfl
theorem vi_3_6 : vp_in 3 6 := by unfold vp_in; decide
theorem wvX9 : Cond.castable RX9 "PressedPad$Pencil" ∈ nW := nW_in (tin5 (List.mem_of_getElem? (i := 186) rfl)) rfl
theorem wkX5_19 : Cond.classLink RX5 19 RX1 ∈ gG := gG_in (tin1 (List.mem_of_getElem? (i := 63) rfl)) rfl
theorem wjX1 : Cond.instantiable RX1 0 ∈ gG := gG_in (tin1 (List.mem_of_getElem? (i := 64) rfl)) rfl
theorem cuX1 : ∀ w ∈ u_ws RX1 TX1 0, w ∈ gG := fun _ h => absurd h List.not_mem_nil
theorem cfX1 : CF RX1 TX1 0 tyX1 := ⟨cuX1, tyX1_ok, nmX1⟩
theorem wmX5_21 : Cond.methodLinkNest RX5 21 yX1_init "PressedPad" ∈ nW := nW_in (tin1 (List.mem_of_getElem? (i := 65) rfl)) rfl
theorem vi_4_6 : vp_in 4 6 := by unfold vp_in; decide
theorem wvX1 : Cond.castable RX1 "PressedPad$Pencil" ∈ nW := nW_in (tin5 (List.mem_of_getElem? (i := 187) rfl)) rfl
theorem wkX5_22 : Cond.classLink RX5 22 RX10 ∈ gG := gG_in (tin1 (List.mem_of_getElem? (i := 70) rfl)) rfl
theorem wjX10 : Cond.instantiable RX10 0 ∈ gG := gG_in (tin1 (List.mem_of_getElem? (i := 71) rfl)) rfl
theorem cuX10 : ∀ w ∈ u_ws RX10 TX10 0, w ∈ gG := fun _ h => absurd h List.not_mem_nil
theorem cfX10 : CF RX10 TX10 0 tyX10 := ⟨cuX10, tyX10_ok, nmX10⟩
theorem wmX5_24 : Cond.methodLinkNest RX5 24 yX10_init "PressedPad" ∈ nW := nW_in (tin1 (List.mem_of_getElem? (i := 72) rfl)) rfl
theorem vi_5_6 : vp_in 5 6 := by unfold vp_in; decide
theorem wvX10 : Cond.castable RX10 "PressedPad$Pencil" ∈ nW := nW_in (tin5 (List.mem_of_getElem? (i := 188) rfl)) rfl
theorem wcX4_init : Cond.code yX4_init cX4_init 1 none ∈ gG := gG_in (tin1 (List.mem_of_getElem? (i := 85) rfl)) rfl
theorem mfX4_init : MF yX4_init cX4_init 1 none 0 := ⟨wcX4_init, wiX4, by decide +kernel⟩
theorem wnX4_init : Cond.instanceMethod yX4_init ∈ gG := gG_in (tin1 (List.mem_of_getElem? (i := 84) rfl)) rfl
theorem wmX4_5 : Cond.methodLink RX4 5 Lib.objectInit ∈ gG := gG_in (tin1 (List.mem_of_getElem? (i := 86) rfl)) rfl
theorem ks_688 : (Int16.ofInt 688).toInt32 = (688 : Int32) := by decide +kernel
theorem wcX2_init : Cond.code yX2_init cX2_init 1 none ∈ gG := gG_in (tin1 (List.mem_of_getElem? (i := 144) rfl)) rfl
theorem mfX2_init : MF yX2_init cX2_init 1 none 0 := ⟨wcX2_init, wiX2, by decide +kernel⟩
theorem wnX2_init : Cond.instanceMethod yX2_init ∈ gG := gG_in (tin1 (List.mem_of_getElem? (i := 143) rfl)) rfl
theorem wmX2_3 : Cond.methodLink RX2 3 Lib.objectInit ∈ gG := gG_in (tin1 (List.mem_of_getElem? (i := 145) rfl)) rfl
theorem wcX8_init : Cond.code yX8_init cX8_init 1 none ∈ gG := gG_in (tin1 (List.mem_of_getElem? (i := 165) rfl)) rfl
theorem mfX8_init : MF yX8_init cX8_init 1 none 0 := ⟨wcX8_init, wiX8, by decide +kernel⟩
theorem wnX8_init : Cond.instanceMethod yX8_init ∈ gG := gG_in (tin1 (List.mem_of_getElem? (i := 164) rfl)) rfl
theorem wmX8_3 : Cond.methodLink RX8 3 Lib.objectInit ∈ gG := gG_in (tin1 (List.mem_of_getElem? (i := 166) rfl)) rfl
theorem wcX7_init : Cond.code yX7_init cX7_init 1 none ∈ gG := gG_in (tin1 (List.mem_of_getElem? (i := 187) rfl)) rfl
theorem mfX7_init : MF yX7_init cX7_init 1 none 0 := ⟨wcX7_init, wiX7, by decide +kernel⟩
theorem wnX7_init : Cond.instanceMethod yX7_init ∈ gG := gG_in (tin1 (List.mem_of_getElem? (i := 186) rfl)) rfl
theorem wmX7_3 : Cond.methodLink RX7 3 Lib.objectInit ∈ gG := gG_in (tin1 (List.mem_of_getElem? (i := 188) rfl)) rfl
theorem wcX5_init : Cond.code yX5_init cX5_init 1 none ∈ gG := gG_in (tin1 (List.mem_of_getElem? (i := 32) rfl)) rfl
theorem mfX5_init : MF yX5_init cX5_init 1 none 0 := ⟨wcX5_init, wiX5, by decide +kernel⟩
theorem wnX5_init : Cond.instanceMethod yX5_init ∈ gG := gG_in (tin1 (List.mem_of_getElem? (i := 31) rfl)) rfl
theorem wcX11_init : Cond.code yX11_init cX11_init 1 none ∈ gG := gG_in (tin1 (List.mem_of_getElem? (i := 24) rfl)) rfl
theorem mfX11_init : MF yX11_init cX11_init 1 none 0 := ⟨wcX11_init, wiX11, by decide +kernel⟩
theorem wnX11_init : Cond.instanceMethod yX11_init ∈ gG := gG_in (tin1 (List.mem_of_getElem? (i := 23) rfl)) rfl
theorem wcX12_init : Cond.code yX12_init cX12_init 1 none ∈ gG := gG_in (tin4 (List.mem_of_getElem? (i := 40) rfl)) rfl
theorem mfX12_init : MF yX12_init cX12_init 1 none 0 := ⟨wcX12_init, wiX12, by decide +kernel⟩
theorem wnX12_init : Cond.instanceMethod yX12_init ∈ gG := gG_in (tin4 (List.mem_of_getElem? (i := 39) rfl)) rfl
theorem wmX11_3 : Cond.methodLink RX11 3 Lib.objectInit ∈ gG := gG_in (tin1 (List.mem_of_getElem? (i := 25) rfl)) rfl
theorem wkX11_9 : Cond.classLink RX11 9 RX5 ∈ gG := gG_in (tin1 (List.mem_of_getElem? (i := 28) rfl)) rfl
theorem wjX5 : Cond.instantiable RX5 1 ∈ gG := gG_in (tin1 (List.mem_of_getElem? (i := 29) rfl)) rfl
theorem wmX11_11 : Cond.methodLinkNest RX11 11 yX5_init "PressedPad" ∈ nW := nW_in (tin1 (List.mem_of_getElem? (i := 30) rfl)) rfl
theorem wkX11_16 : Cond.classLink RX11 16 RX4 ∈ gG := gG_in (tin1 (List.mem_of_getElem? (i := 81) rfl)) rfl
theorem wjX4 : Cond.instantiable RX4 12 ∈ gG := gG_in (tin1 (List.mem_of_getElem? (i := 82) rfl)) rfl
theorem wmX11_18 : Cond.methodLinkNest RX11 18 yX4_init "PressedPad" ∈ nW := nW_in (tin1 (List.mem_of_getElem? (i := 83) rfl)) rfl
theorem wkX11_32 : Cond.classLink RX11 32 RX2 ∈ gG := gG_in (tin1 (List.mem_of_getElem? (i := 140) rfl)) rfl
theorem wjX2 : Cond.instantiable RX2 4 ∈ gG := gG_in (tin1 (List.mem_of_getElem? (i := 141) rfl)) rfl
theorem wmX11_34 : Cond.methodLinkNest RX11 34 yX2_init "PressedPad" ∈ nW := nW_in (tin1 (List.mem_of_getElem? (i := 142) rfl)) rfl
theorem wkX11_39 : Cond.classLink RX11 39 RX8 ∈ gG := gG_in (tin1 (List.mem_of_getElem? (i := 161) rfl)) rfl
theorem wjX8 : Cond.instantiable RX8 5 ∈ gG := gG_in (tin1 (List.mem_of_getElem? (i := 162) rfl)) rfl
theorem wmX11_41 : Cond.methodLinkNest RX11 41 yX8_init "PressedPad" ∈ nW := nW_in (tin1 (List.mem_of_getElem? (i := 163) rfl)) rfl
theorem wkX11_46 : Cond.classLink RX11 46 RX7 ∈ gG := gG_in (tin1 (List.mem_of_getElem? (i := 183) rfl)) rfl
theorem wjX7 : Cond.instantiable RX7 8 ∈ gG := gG_in (tin1 (List.mem_of_getElem? (i := 184) rfl)) rfl
theorem wmX11_48 : Cond.methodLinkNest RX11 48 yX7_init "PressedPad" ∈ nW := nW_in (tin1 (List.mem_of_getElem? (i := 185) rfl)) rfl
theorem wmX12_1 : Cond.methodLink RX12 1 Lib.objectInit ∈ gG := gG_in (tin4 (List.mem_of_getElem? (i := 41) rfl)) rfl
theorem ks_600 : (Int16.ofInt 600).toInt32 = (600 : Int32) := by decide +kernel
theorem ks_2308 : (Int16.ofInt 2308).toInt32 = (2308 : Int32) := by decide +kernel
/-- a constructor's start, and its end: a world that it leaves -/
def CPreI (E : VE) (av : List Value) (sz : Nat) (w : va_W) : Array Value → State → Prop := fun a U => CPre E av sz w a U ∧ va_AO "PressedPad$Pencil" U
def CQn {S : Type} (E : VE) (Post : S → Prop) (wf : S → va_W) (w : va_W) (sz : Nat) : Array Value → State → Outcome → State → Prop := va_Qv Post (fun u t => va_P E.1 vwCl (wf u) t.heap ∧ va_D (va_A w sz) (wf u)) (va_A w sz)
theorem CPreI_blind {E : VE} {av : List Value} {sz : Nat} {w : va_W} : FrameBlind (CPreI E av sz w) := fun a U g mk q => ⟨CPre_blind a U g mk q.1, va_AO.moved (u := U) (U := U.calling g mk a) (Vm.Alike.refl U.vm) q.2⟩
theorem app_join {A0 : Nat → Prop} {D : va_G} {w wc w1 : va_W} {H H1 : Heap} (hP : va_P D vwCl (w ++ wc) H) (hD : va_D A0 (w ++ wc)) (hk : ∀ q : Nat, q < H.size → ¬ va_A wc H.size q → H1[q]? = H[q]?) (hF : ∀ q, va_A wc H.size q → A0 q) (hP1 : va_P D vwCl w1 H1) (hD1 : va_D (va_A wc H.size) w1) : va_P D vwCl (w ++ w1) H1 ∧ va_D A0 (w ++ w1) := by
  obtain ⟨d1, d2, d3⟩ := va_D_app hD
  rw [va_P_iff] at hP hP1
  have apart : ∀ q ∈ w, q.1 < H.size ∧ ¬ va_A wc H.size q.1 := fun q hq => ⟨(hP q (List.mem_append_left _ hq)).lt, fun h => by
    rcases h with ⟨k, e, h⟩ | h
    · exact d3 q hq (q.1, e) (List.mem_of_getElem? h) rfl
    · exact absurd (hP q (List.mem_append_left _ hq)).lt (Nat.not_lt.mpr h)⟩
  refine ⟨va_P_iff.mpr (fun q hq => ?_), va_D.app d1 (hD1.weaken (fun k q _ h => hF q.1 h)) (fun i j x y hx hy hxy => ?_)⟩
  · rcases List.mem_append.mp hq with h | h
    · exact (hP q (List.mem_append_left _ h)).kept (hk q.1 (apart q h).1 (apart q h).2)
    · exact hP1 q h
  · exact (apart x (List.mem_of_getElem? hx)).2 (by rw [hxy]; exact hD1.2 j y hy)
section
variable {p : Program} {l : Launch} {e : Env} {R : Room} {s : State} {m : MethodId} {args : Array Value} {below : List Frame} {meth : Method} {c : Code} {E : VE} {A : Nat → Prop} {cc : ByteArray} {nL cells slots : Nat} {ret : Option FieldType} {own : String} {Q : State → Prop} {w : va_W} {pc idx : Nat} {lv : List (Nat × Value)} {st : List Value}
variable {y : MethodName} {cy : ByteArray} {ny mc ms : Nat} {rm : Room} {S : Type} {b : Nat}
theorem v_newi (C : VC p s m args meth c E A cc nL ret own) {n : Int32} (N : Nat) (hn : ¬ n < 0) (hN : n.toNatClampNeg = N) (hb : N * 4 ≤ 536870912) (hce : cells + 1 ≤ R.cells) (hsl : slots + N ≤ R.slots) (hd : decode cc pc = .ok (.newarray .int, 2)) (k : ∀ q : Nat, V p l e R s m args below meth c E A nL (cells + 1) (slots + N) Q (w ++ [(q, .inl (E.2.1, N, .inl (fun _ => 0)))]) (pc + 2) lv (.ref q :: st)) : V p l e R s m args below meth c E A nL cells slots Q w pc lv (.int n :: st) := by
  intro H locs ls hP hD hS hl
  refine va_newa (atype := .int) C.1 C.2.1 (C.2.2.2.2.2.1 _ wArrI) (ty := .int) rfl C.2.2.2.2.2.2.1 hP hD hS C.2.2.2.2.2.2.2.1 (a0 := (N, .inl (fun _ => 0))) (fun _ => rfl) hn hN hb hce hsl hd (fun q cA H1 hK' hP' hD' hS' => ?_)
  have e : cA = E.2.1 := Option.some.inj (Eq.trans (Eq.symm (hK'.2 3 (cA, .int) rfl).2) (C.2.2.2.2.2.2.1.2 0 (E.2.1, .int) rfl).2)
  subst e
  exact k q H1 locs ls hP' hD' hS' hl
theorem v_newz (C : VC p s m args meth c E A cc nL ret own) {n : Int32} (N : Nat) (hn : ¬ n < 0) (hN : n.toNatClampNeg = N) (hb : N * 1 ≤ 536870912) (hce : cells + 1 ≤ R.cells) (hsl : slots + N ≤ R.slots) (hd : decode cc pc = .ok (.newarray .boolean, 2)) (k : ∀ q : Nat, V p l e R s m args below meth c E A nL (cells + 1) (slots + N) Q (w ++ [(q, .inl (E.2.2.1, N, .inl (fun _ => 0)))]) (pc + 2) lv (.ref q :: st)) : V p l e R s m args below meth c E A nL cells slots Q w pc lv (.int n :: st) := by
  intro H locs ls hP hD hS hl
  refine va_newa (atype := .boolean) C.1 C.2.1 (C.2.2.2.2.2.1 _ wArrZ) (ty := .boolean) rfl C.2.2.2.2.2.2.1 hP hD hS C.2.2.2.2.2.2.2.1 (a0 := (N, .inl (fun _ => 0))) (fun _ => rfl) hn hN hb hce hsl hd (fun q cA H1 hK' hP' hD' hS' => ?_)
  have e : cA = E.2.2.1 := Option.some.inj (Eq.trans (Eq.symm (hK'.2 3 (cA, .boolean) rfl).2) (C.2.2.2.2.2.2.1.2 1 (E.2.2.1, .boolean) rfl).2)
  subst e
  exact k q H1 locs ls hP' hD' hS' hl
theorem v_newq (C : VC p s m args meth c E A cc nL ret own) (hAO : va_AO "PressedPad$Pencil" s) {n : Int32} (N : Nat) (hn : ¬ n < 0) (hN : n.toNatClampNeg = N) (hb : N * 4 ≤ 536870912) (hce : cells + 1 ≤ R.cells) (hsl : slots + N ≤ R.slots) (hlk : Cond.classLink own idx "PressedPad$Pencil" ∈ gG) (hd : decode cc pc = .ok (.anewarray idx, 3)) (k : ∀ q : Nat, V p l e R s m args below meth c E A nL (cells + 1) (slots + N) Q (w ++ [(q, .inl (E.2.2.2.1, N, .inr (.inr (.inr (.inr (fun _ => none))))))]) (pc + 3) lv (.ref q :: st)) : V p l e R s m args below meth c E A nL cells slots Q w pc lv (.int n :: st) := by
  intro H locs ls hP hD hS hl
  refine va_newq C.1 C.2.1 C.2.2.2.2.1 (C.2.2.2.2.2.1 _ hlk) hAO C.2.2.2.2.2.2.1 hP hD hS C.2.2.2.2.2.2.2.1 hn hN hb hce hsl hd (fun q cA H1 hK' hP' hD' hS' => ?_)
  obtain ⟨k1, c1, -, -, -, g1⟩ := (hK'.2 3 (cA, .object "PressedPad$Pencil") rfl).2
  obtain ⟨k2, c2, -, -, -, g2⟩ := (C.2.2.2.2.2.2.1.2 2 (E.2.2.2.1, .object "PressedPad$Pencil") rfl).2
  have e : cA = E.2.2.2.1 := Option.some.inj (g1.symm.trans g2)
  subst e
  exact k q H1 locs ls hP' hD' hS' hl
theorem v_new (C : VC p s m args meth c E A cc nL ret own) {K : String} {T : u_T} {N ci : Nat} {ty0 : Nat → FieldType} (cf : CF K T N ty0) (hc : vwCl[ci]? = some (K, T, N)) (hlk : Cond.classLink own idx K ∈ gG) (hin : Cond.instantiable K N ∈ gG) (hini : Cond.initialized K ∈ gG) (fs : List Value) (hfs : ∀ j, j < N → defaultValue (ty0 j) = vp_V fs j) (hce : cells + 1 ≤ R.cells) (hsl : slots + N ≤ R.slots) (hd : decode cc pc = .ok (.new idx, 3)) (k : ∀ q : Nat, V p l e R s m args below meth c E A nL (cells + 1) (slots + N) Q (w ++ [(q, .inr (ci, fs))]) (pc + 3) lv (.ref q :: st)) : V p l e R s m args below meth c E A nL cells slots Q w pc lv (st) :=
  fun H locs ls hP hD hS hl => va_new C.1 C.2.1 C.2.2.2.2.2.1 cf.1 ty0 cf.2.1 C.2.2.2.2.1 (C.2.2.2.2.2.1 _ hlk) (C.2.2.2.2.2.1 _ hin) (C.2.2.2.2.2.1 _ hini) C.2.2.2.2.2.2.1 hP hD hS C.2.2.2.2.2.2.2.1 hc hfs hce hsl hd (fun q H1 hP' hD' hS' => k q H1 locs ls hP' hD' hS' hl)
theorem v_objInit (C : VC p s m args meth c E A cc nL ret own) {a : Nat} (hlk : Cond.methodLink own idx Lib.objectInit ∈ gG) (hfr : 1 ≤ R.frames) (hlo : (st.map fun v => v.category).sum + 12 ≤ R.locals) (hd : decode cc pc = .ok (.invokespecial idx, 3)) (k : V p l e R s m args below meth c E A nL cells slots Q w (pc + 3) lv (st)) : V p l e R s m args below meth c E A nL cells slots Q w pc lv (.ref a :: st) :=
  fun H locs ls hP hD hS hl => W.objInit C.1 C.2.1 C.2.2.2.2.1 (C.2.2.2.2.2.1 _ hlk) (C.2.2.2.2.2.1 _ wnObj) (C.2.2.2.2.2.1 _ wcObj) rfl (hl.1.trans C.2.2.1.symm) rfl hd hfr (by show 2 * (F0 m pc ls (.ref a :: st)).monitorRoom + _ + 12 ≤ R.locals; simpa [F0, JFrame.monitorRoom] using hlo) (k H locs ls hP hD hS hl)
theorem v_putF (C : VC p s m args meth c E A cc nL ret own) (hmn : meth.name = "<init>") {K : String} {T : u_T} {N ci : Nat} {ty0 : Nat → FieldType} (cf : CF K T N ty0) (hc : vwCl[ci]? = some (K, T, N)) (q0 k : Nat) {a : Nat} {fs : List Value} {v : Value} {ty : FieldType} {w' : va_W} (he : w[q0]? = some (a, .inr (ci, fs))) (hw : w.set q0 (a, .inr (ci, fs.set k v)) = w') (hk : k < N) (hlk : Cond.fieldLink own idx (T k).1 (T k).2.1 (T k).2.2.1 ∈ gG) (hfin : (T k).2.2.2 = true) (hdl : (T k).1 = own) (ht : ty0 k = ty) (hn : narrow ty v = v) (hfit : fits ty v = true) (hlf : k < fs.length) (hd : decode cc pc = .ok (.putfield idx, 3)) (kk : V p l e R s m args below meth c E A nL cells slots Q w' (pc + 3) lv (st)) : V p l e R s m args below meth c E A nL cells slots Q w pc lv (v :: .ref a :: st) :=
  fun H locs ls hP hD hS hl => va_putF C.1 C.2.1 C.2.2.2.2.2.1 cf.1 ty0 cf.2.1 cf.2.2 C.2.2.2.2.1 C.2.2.2.2.2.2.1 hP hD hS q0 he hc k hk (C.2.2.2.2.2.1 _ hlk) (fun _ h => h) hfin hmn hdl (ht ▸ cf.2.1 k hk) hn hfit hlf hd (fun H1 locs1 hP1 hD1 hS1 => kk H1 locs1 ls (hw ▸ hP1) (hw ▸ hD1) hS1 hl)
theorem v_astq (C : VC p s m args meth c E A cc nL ret own) (q0 qk : Nat) {a n v : Nat} {vs : List Value} {f : Nat → Option Nat} {i : Int32} (j : Nat) {w' : va_W} (ha : w[q0]? = some (a, .inl (E.2.2.2.1, n, .inr (.inr (.inr (.inr f)))))) (hv : w[qk]? = some (v, .inr (6, vs))) (hin : vp_in i n) (hj : i.toNatClampNeg = j) (hw : w.set q0 (a, .inl (E.2.2.2.1, n, .inr (.inr (.inr (.inr (va_up f j (some v))))))) = w') (hd : decode cc pc = .ok (.aastore, 1)) (kk : V p l e R s m args below meth c E A nL cells slots Q w' (pc + 1) lv (st)) : V p l e R s m args below meth c E A nL cells slots Q w pc lv (.ref v :: .int i :: .ref a :: st) :=
  fun H locs ls hP hD hS hl => va_astq C.1 C.2.1 C.2.2.2.2.2.2.1 hP hD hS q0 2 qk 6 (r := (RX6, TX6, 0)) ha rfl hv rfl hin hd (fun H1 locs1 hP1 hD1 hS1 => kk H1 locs1 ls (hw ▸ hj ▸ hP1) (hw ▸ hj ▸ hD1) hS1 hl)
theorem v_astqO (C : VC p s m args meth c E A cc nL ret own) (q0 qk ci : Nat) {a n v : Nat} {vs : List Value} {r : vw_C} {f : Nat → Option Nat} {i : Int32} (j : Nat) {w' : va_W} (hc : vwCl[ci]? = some r) (hcs : Cond.castable r.1 "PressedPad$Pencil" ∈ nW) (ha : w[q0]? = some (a, .inl (E.2.2.2.1, n, .inr (.inr (.inr (.inr f)))))) (hv : w[qk]? = some (v, .inr (ci, vs))) (hin : vp_in i n) (hj : i.toNatClampNeg = j) (hw : w.set q0 (a, .inl (E.2.2.2.1, n, .inr (.inr (.inr (.inr (va_up f j (some v))))))) = w') (hd : decode cc pc = .ok (.aastore, 1)) (kk : V p l e R s m args below meth c E A nL cells slots Q w' (pc + 1) lv (st)) : V p l e R s m args below meth c E A nL cells slots Q w pc lv (.ref v :: .int i :: .ref a :: st) :=
  fun H locs ls hP hD hS hl => va_astqO C.1 C.2.1 C.2.2.2.2.2.2.1 hP hD hS q0 2 qk ci ha rfl (C.2.2.2.2.2.2.2.2.2.1 _ hcs) hv hc hin hd (fun H1 locs1 hP1 hD1 hS1 => kk H1 locs1 ls (hw ▸ hj ▸ hP1) (hw ▸ hj ▸ hD1) hS1 hl)
theorem v_cgq (q0 : Nat) {a n : Nat} {cA : ClassId} {f : Nat → Option Nat} (g : Nat → Option Nat) {w' : va_W} (ha : w[q0]? = some (a, .inl (cA, n, .inr (.inr (.inr (.inr f)))))) (hfg : ∀ k, k < n → f k = g k) (hw : w.set q0 (a, .inl (cA, n, .inr (.inr (.inr (.inr g))))) = w') (kk : V p l e R s m args below meth c E A nL cells slots Q w' pc lv (st)) : V p l e R s m args below meth c E A nL cells slots Q w pc lv (st) := by
  intro H locs ls hP hD hS hl
  have e : vp_cell cA (n, .inr (.inr (.inr (.inr f)))) = vp_cell cA (n, .inr (.inr (.inr (.inr g)))) := by
    rw [vp_cell_q, vp_cell_q]
    have h : (Array.ofFn (n := n) fun j => va_rf (f j.val)) = Array.ofFn (n := n) fun j => va_rf (g j.val) := by
      congr
      funext j
      rw [hfg j.val j.isLt]
    unfold arrV
    rw [h]
  have h0 : H[a]? = some (vp_cell cA (n, .inr (.inr (.inr (.inr f))))) := hP q0 _ ha
  have h1 : va_P E.1 vwCl (w.set q0 (a, .inl (cA, n, .inr (.inr (.inr (.inr g)))))) H := hP.set hD ha (by show H[a]? = some (vp_cell _ _); rw [h0, e]) (fun _ _ => rfl)
  exact kk H locs ls (hw ▸ h1) (hw ▸ hD.set ha) hS hl
theorem v_pick {w' : va_W} (is : List Nat) (hC : is.map (fun i => w[i]?) = w'.map some) (hnd : va_nd is = true) (k : V p l e R s m args below meth c E A nL cells slots Q w' pc lv (st)) : V p l e R s m args below meth c E A nL cells slots Q w pc lv (st) := fun H locs ls hP hD hS hl => k H locs ls (pick_P hP is hC) (hD.sub is hnd hC) hS hl
theorem v_vretN (C : VC p s m args meth c E A cc nL none own) {Post : S → Prop} {wf : S → va_W} {w0 : va_W} (u : S) (hA : va_A w0 s.heap.size = A) (hw : w = wf u) (h : Post u) (hd : decode cc pc = .ok (.return_, 1)) : V p l e R s m args below meth c E A nL cells slots (MQ below (CQn E Post wf w0 s.heap.size) args s cells slots A) w pc lv [] := by
  intro H locs ls hP hD hS hl
  subst hw
  exact W.vret C.1 C.2.1 C.2.2.2.1 (fun t ht hW => ⟨⟨u, rfl, h, by show va_P _ _ _ t.heap; rw [ht]; exact hP, hA ▸ hD⟩, hA ▸ hS.F ht⟩) hS.2.2 hd C.2.2.2.2.2.2.2.2.1
theorem v_freeN (C : VC p s m args meth c E A cc nL ret own) {wc : va_W} {H : Heap} {locs : List Loc} (hD : va_D A (w ++ wc)) (hS : va_S A s.heap H locs) : ∀ q, va_A wc H.size q → A q := by
  intro q h
  rcases h with ⟨k, x, h⟩ | h
  · exact (va_D_app hD).2.1.2 k (q, x) h
  · exact C.2.2.2.2.2.2.2.1 q (Nat.le_trans hS.1 h)
theorem v_goN (C : VC p s m args meth c E A cc nL ret own) {Post : S → Prop} {wf : S → va_W} {wc : va_W} {rest : List Value} {a : Array Value}
    (run : ∀ (H : Heap) (locs : List Loc) (ls : Array Slot), va_P E.1 vwCl (w ++ wc) H → va_D A (w ++ wc) → va_S A s.heap H locs → lv_has ls nL lv → va_Run p l e R s m args below meth c H locs cells slots mc ms (F0 m pc ls st) rest (CQn E Post wf wc H.size a) (va_A wc H.size))
    (kk : ∀ u : S, Post u → V p l e R s m args below meth c E A nL (cells + mc) (slots + ms) Q (w ++ wf u) (pc + 3) lv (rest)) : V p l e R s m args below meth c E A nL cells slots Q (w ++ wc) pc lv (st) := by
  intro H locs ls hP hD hS hl
  have hF := v_freeN C hD hS
  refine va_callv (run H locs ls hP hD hS hl) hS (fun q _ h => hF q h) hF (fun u t H1 locs1 ht hvm hp hB hz hk hS1 => ?_)
  obtain ⟨h1, h2⟩ := app_join hP hD hk hF (ht ▸ hB.1) hB.2
  exact kk u hp H1 locs1 ls h1 h2 hS1 hl
theorem v_preN (C : VC p s m args meth c E A cc nL ret own) (hAO : va_AO "PressedPad$Pencil" s) {wc : va_W} {H : Heap} {locs : List Loc} (hP : va_P E.1 vwCl (w ++ wc) H) (hD : va_D A (w ++ wc)) (hS : va_S A s.heap H locs) (av : List Value) : ∀ U : State, U.heap = H → s.WarmedH U.vm → CPreI E av H.size wc av.toArray U := by
  intro U hU hW
  have hPc : va_P E.1 vwCl wc H := va_P_iff.mpr (fun q hq => va_P_iff.mp hP q (List.mem_append_right _ hq))
  exact ⟨⟨rfl, by rw [hU], by rw [hU]; exact hPc, va_K.moved hW.alike C.2.2.2.2.2.2.1, (va_D_app hD).2.1.weaken (fun _ _ _ _ => trivial), fun x hx => nst_warm (List.mem_filter.mp hx).2 hW (C.2.2.2.2.2.2.2.2.2.1 x hx), sF_go C.2.2.2.2.2.2.2.2.2.2 hS (v_freeN C hD hS) hW hU⟩, va_AO.moved hW.alike hAO⟩
theorem v_runIN (C : VC p s m args meth c E A cc nL ret own) (hAO : va_AO "PressedPad$Pencil" s) {Qc : Nat → Array Value → State → Outcome → State → Prop} {host : String} {wc : va_W} (rest : List Value) (hM : ∀ sz, Met l y (mW y cy ny none) rm (CPreI E [.ref b] sz wc) (Qc sz) mc ms (va_A wc sz))
    (mf : MF y cy ny none 0) (hyi : Cond.instanceMethod y ∈ gG) (hni : y.name = "<init>") (hlk : Cond.methodLinkNest own idx y host ∈ nW) (hR : rm.frames + 1 ≤ R.frames ∧ 8 + (ny + 11) + rm.locals ≤ R.locals) (hz : rm.cells = mc ∧ rm.slots = ms)
    (hst : st = .ref b :: rest) (hroom : (rest.map fun v => v.category).sum ≤ 8) (hf : cells + mc ≤ R.cells ∧ slots + ms ≤ R.slots) (hd : decode cc pc = .ok (.invokespecial idx, 3)) :
    ∀ (H : Heap) (locs : List Loc) (ls : Array Slot), va_P E.1 vwCl (w ++ wc) H → va_D A (w ++ wc) → va_S A s.heap H locs → lv_has ls nL lv → va_Run p l e R s m args below meth c H locs cells slots mc ms (F0 m pc ls st) rest (Qc H.size [Value.ref b].toArray) (va_A wc H.size) := by
  intro H locs ls hP hD hS hl
  subst hst
  exact va_runIN (As := []) ⟨C.1, C.2.1, C.2.2.1, C.2.2.2.2.1, C.2.2.2.2.2.1⟩ (hM H.size) ⟨va_cnB 0 C.2.2.2.2.2.1 (mW_good (fun _ h => h) mf.1) rfl hz.1 hz.2 (C.2.2.2.2.2.2.2.2.2.1 _ hlk) (C.2.2.2.2.2.1 _ mf.2.1) mf.2.2 hR, hni, C.2.2.2.2.2.1 _ hyi⟩ ⟨CPreI_blind, v_preN C hAO hP hD hS [.ref b]⟩ rfl rfl hl.1 rfl (lv_room hroom) hd hf
theorem v_runI (C : VC p s m args meth c E A cc nL ret own) (hAO : va_AO "PressedPad$Pencil" s) {Qc : Nat → Array Value → State → Outcome → State → Prop} {wc : va_W} (rest : List Value) (hM : ∀ sz, Met l y (mW y cy ny none) rm (CPreI E [.ref b] sz wc) (Qc sz) mc ms (va_A wc sz))
    (mf : MF y cy ny none 0) (hyi : Cond.instanceMethod y ∈ gG) (hni : y.name = "<init>") (hlk : Cond.methodLink own idx y ∈ gG) (hR : rm.frames + 1 ≤ R.frames ∧ 8 + (ny + 11) + rm.locals ≤ R.locals) (hz : rm.cells = mc ∧ rm.slots = ms)
    (hst : st = .ref b :: rest) (hroom : (rest.map fun v => v.category).sum ≤ 8) (hf : cells + mc ≤ R.cells ∧ slots + ms ≤ R.slots) (hd : decode cc pc = .ok (.invokespecial idx, 3)) :
    ∀ (H : Heap) (locs : List Loc) (ls : Array Slot), va_P E.1 vwCl (w ++ wc) H → va_D A (w ++ wc) → va_S A s.heap H locs → lv_has ls nL lv → va_Run p l e R s m args below meth c H locs cells slots mc ms (F0 m pc ls st) rest (Qc H.size [Value.ref b].toArray) (va_A wc H.size) := by
  intro H locs ls hP hD hS hl
  subst hst
  have cb : CallB R s args own idx y cy ny none (mW y cy ny none) rm mc ms 0 := callB_of 0 C.2.2.2.2.2.1 (mW_good (fun _ h => h) mf.1) rfl hz.1 hz.2 (C.2.2.2.2.2.1 _ mf.2.1) (C.2.2.2.2.2.1 _ hlk) mf.2.2 hR
  exact va_runI (As := []) ⟨C.1, C.2.1, C.2.2.1, C.2.2.2.2.1, C.2.2.2.2.2.1⟩ (hM H.size) ⟨cb, hni, C.2.2.2.2.2.1 _ hyi⟩ ⟨CPreI_blind, v_preN C hAO hP hD hS [.ref b]⟩ rfl rfl hl.1 rfl (lv_room hroom) hd hf
end
theorem v_metI {l : Launch} {E : VE} {y : MethodName} {cc : ByteArray} {nL : Nat} {ret : Option FieldType} {rm : Room} {Qc : Array Value → State → Outcome → State → Prop} {av : List Value} {sz mc ms : Nat} {w : va_W} (hy : plainName y.cls = true) (hlen : (lg_sl av).length ≤ nL)
    (body : ∀ (p : Program) (e : Env) (s : State) (m : MethodId) (below : List Frame) (meth : Method) (c : Code) (A : Nat → Prop), s.heap.size = sz → va_A w sz = A → VC p s m av.toArray meth c E A cc nL ret y.cls → va_AO "PressedPad$Pencil" s → meth.name = y.name → V p l e rm s m av.toArray below meth c E A nL 0 0 (MQ below Qc av.toArray s mc ms A) w 0 (lv_args 0 av) []) :
    Met l y (mW y cc nL ret) rm (CPreI E av sz w) Qc mc ms (va_A w sz) := by
  refine Met.ofW (cc := cc) (maxL := nL) (ret := ret) hy rfl ?_
  intro p e s m args below meth c s₁ B hml hv
  obtain ⟨⟨rfl, hsz, hP, hK, hD0, hN, hF⟩, hAO⟩ := hv
  have hts := atoms_spec (ws := mW y cc nL ret) B.pre
  have hA : ∀ q : Nat, s.heap.size ≤ q → va_A w sz q := fun q h => Or.inr (hsz ▸ h)
  have hl := lv_entry av (n := nL) hlen
  rw [lg_entry_eq]
  exact body p e s m below meth c _ hsz rfl ⟨B.exec, B.bytes, hml, B.returns, findClass_of_methodNamed B.named, fun x hx => hts x (List.mem_cons_of_mem _ hx), hK, hA, B.notSynchronized, hN, hF⟩ hAO (name_of_methodNamed B.named B.method).1 s.heap [] _ hP (hD0.self) va_S.rf hl
