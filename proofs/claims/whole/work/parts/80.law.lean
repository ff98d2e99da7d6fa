/-! THE CLAIM OUT OF ONE WALK OF THE LAW'S BODY. Your part is whole_start (and what it stands on); all else here is the same for every law, but numbers. -/
def R_law : String := "PressedPadLaw"
def lw_P (b : Addr) (xs : List Int32) (args : Array Value) (s : State) : Prop := args = #[.ref b] ∧ s.IntsAt b xs ∧ xs.length ≤ 3584 ∧ (Jvm.Cond.and given_1 narrow_1).before args s = true
def lw_Q (_ : Array Value) (s : State) (o : Outcome) (t : State) : Prop := o = .returned (some (.int 1)) ∧ Framed s o t [] 600000 7302250
def lw_Z (below : List Frame) (a : Array Value) (s : State) : State → Prop := fun t => ∃ o, t.status = .running ∧ Ended t below o ∧ lw_Q a s o t
/-- the law's own end, with 1 on the stack, nothing written that was there before, its room as the claim has it -/
theorem lw_ret {p : Program} {l : Launch} {e : Env} {s : State} {m : MethodId} {below : List Frame} {meth : Method} {c : Code} {b : Nat} (hx : p.tables.exec = Jvm.exec) (hb : c.code = code) (hr : meth.sig.returnType = ret) (hlocks : meth.locks = false) {pc : Nat} {H : Heap} {ls : Array Slot} (hdg : decode code pc = .ok (.ireturn, 1)) : W p l e room_1 s m #[Value.ref b] below meth c H [] 600000 7302250 (lw_Z below #[Value.ref b] s) (F0 m pc ls [.int 1]) := by
  intro T hT X
  obtain ⟨fs, hret, hrun, hended, hW, hframe⟩ := X.leave (v := some (.int 1)) (hlocks := hlocks) (fun h => by rw [hr] at h; cases h)
  have hmeth' : T.vm.method? m = some meth := X.method'
  refine ⟨T.setFrames fs, ?_, .returned (some (.int 1)), hrun, hended, rfl, ⟨_, rfl⟩, hW, hframe⟩
  jvm_step X.here [X.here.top, hx, hb, hdg, hmeth', hr, ret, narrow_b1]
  (try refine ⟨rfl, ?_⟩); (try refine ⟨rfl, ?_⟩)
  first | (intro acts; rw [hret _ acts rfl rfl rfl]) | rw [hret _ _ rfl rfl rfl]
  exact Steps.refl _
/-- what holds at the law's entry: the machine, the code, the tables' words (any of lw_tbl by 'hts w (by decide +kernel)'), the script of L ints xs at the cell b, what the Statement gives of the start (any of its parts by flat_of_before) -/
def lw_At (p : Program) (s : State) (m : MethodId) (meth : Method) (c : Code) (b L : Nat) (xs : Nat → Int32) : Prop :=
  p.tables.exec = Jvm.exec ∧ c.code = code ∧ meth.sig.returnType = ret ∧ c.maxLocals = 4 ∧ s.vm.findClass R_law = some m.cls ∧ (∀ w ∈ lw_tbl, w.before #[Value.ref b] s = true) ∧ va_X b L xs s s.heap ∧ b < s.heap.size ∧ meth.locks = false ∧ (Jvm.Cond.and given_1 narrow_1).before #[Value.ref b] s = true
theorem wmL_13 : Cond.methodLink R_law 13 yX11_pad ∈ gG := gG_in (tin2 (List.mem_of_getElem? (i := 22) rfl)) rfl
theorem wmL_17 : Cond.methodLink R_law 17 yX12_pad ∈ gG := gG_in (tin4 (List.mem_of_getElem? (i := 134) rfl)) rfl
theorem wmL_18 : Cond.methodLink R_law 18 yX11_carbons ∈ gG := gG_in (tin2 (List.mem_of_getElem? (i := 34) rfl)) rfl
theorem wmL_21 : Cond.methodLink R_law 21 yX12_carbons ∈ gG := gG_in (tin4 (List.mem_of_getElem? (i := 154) rfl)) rfl
theorem wmL_22 : Cond.methodLink R_law 22 yX11_write ∈ gG := gG_in (tin2 (List.mem_of_getElem? (i := 42) rfl)) rfl
theorem wmL_26 : Cond.methodLink R_law 26 yX12_write ∈ gG := gG_in (tin4 (List.mem_of_getElem? (i := 158) rfl)) rfl
theorem wmL_27 : Cond.methodLink R_law 27 yX11_tear ∈ gG := gG_in (tin2 (List.mem_of_getElem? (i := 145) rfl)) rfl
theorem wmL_31 : Cond.methodLink R_law 31 yX12_tear ∈ gG := gG_in (tin4 (List.mem_of_getElem? (i := 192) rfl)) rfl
theorem wmL_32 : Cond.methodLink R_law 32 yX11_undo ∈ gG := gG_in (tin2 (List.mem_of_getElem? (i := 153) rfl)) rfl
theorem wmL_35 : Cond.methodLink R_law 35 yX12_undo ∈ gG := gG_in (tin4 (List.mem_of_getElem? (i := 196) rfl)) rfl
theorem wmL_36 : Cond.methodLink R_law 36 yX11_word ∈ gG := gG_in (tin2 (List.mem_of_getElem? (i := 161) rfl)) rfl
theorem wmL_39 : Cond.methodLink R_law 39 yX12_word ∈ gG := gG_in (tin4 (List.mem_of_getElem? (i := 200) rfl)) rfl
theorem wmL_40 : Cond.methodLink R_law 40 yX11_forget ∈ gG := gG_in (tin2 (List.mem_of_getElem? (i := 165) rfl)) rfl
theorem wmL_43 : Cond.methodLink R_law 43 yX12_forget ∈ gG := gG_in (tin4 (List.mem_of_getElem? (i := 204) rfl)) rfl
theorem wmL_44 : Cond.methodLink R_law 44 yX11_type ∈ gG := gG_in (tin2 (List.mem_of_getElem? (i := 169) rfl)) rfl
theorem wmL_47 : Cond.methodLink R_law 47 yX12_type ∈ gG := gG_in (tin4 (List.mem_of_getElem? (i := 208) rfl)) rfl
theorem wmL_48 : Cond.methodLink R_law 48 yX11_clear ∈ gG := gG_in (tin2 (List.mem_of_getElem? (i := 173) rfl)) rfl
theorem wmL_51 : Cond.methodLink R_law 51 yX12_clear ∈ gG := gG_in (tin4 (List.mem_of_getElem? (i := 213) rfl)) rfl
theorem wmL_52 : Cond.methodLink R_law 52 yX11_read ∈ gG := gG_in (tin2 (List.mem_of_getElem? (i := 177) rfl)) rfl
theorem wmL_55 : Cond.methodLink R_law 55 yX12_read ∈ gG := gG_in (tin4 (List.mem_of_getElem? (i := 217) rfl)) rfl
theorem wmL_56 : Cond.methodLink R_law 56 yX11_of ∈ gG := gG_in (tin3 (List.mem_of_getElem? (i := 59) rfl)) rfl
theorem wmL_60 : Cond.methodLink R_law 60 yX12_of ∈ gG := gG_in (tin5 (List.mem_of_getElem? (i := 10) rfl)) rfl
theorem wmL_61 : Cond.methodLink R_law 61 yX11_dent ∈ gG := gG_in (tin3 (List.mem_of_getElem? (i := 83) rfl)) rfl
theorem wmL_64 : Cond.methodLink R_law 64 yX12_dent ∈ gG := gG_in (tin5 (List.mem_of_getElem? (i := 26) rfl)) rfl
theorem wmL_65 : Cond.methodLink R_law 65 yX11_about ∈ gG := gG_in (tin3 (List.mem_of_getElem? (i := 91) rfl)) rfl
theorem wmL_68 : Cond.methodLink R_law 68 yX12_about ∈ gG := gG_in (tin5 (List.mem_of_getElem? (i := 34) rfl)) rfl
theorem wmL_69 : Cond.methodLink R_law 69 yX11_force ∈ gG := gG_in (tin3 (List.mem_of_getElem? (i := 101) rfl)) rfl
theorem wmL_72 : Cond.methodLink R_law 72 yX12_force ∈ gG := gG_in (tin5 (List.mem_of_getElem? (i := 38) rfl)) rfl
theorem wmL_73 : Cond.methodLink R_law 73 yX11_whose ∈ gG := gG_in (tin3 (List.mem_of_getElem? (i := 109) rfl)) rfl
theorem wmL_76 : Cond.methodLink R_law 76 yX12_whose ∈ gG := gG_in (tin5 (List.mem_of_getElem? (i := 42) rfl)) rfl
theorem wmL_77 : Cond.methodLink R_law 77 yX11_own ∈ gG := gG_in (tin3 (List.mem_of_getElem? (i := 121) rfl)) rfl
theorem wmL_80 : Cond.methodLink R_law 80 yX12_own ∈ gG := gG_in (tin5 (List.mem_of_getElem? (i := 54) rfl)) rfl
theorem wmL_81 : Cond.methodLink R_law 81 yX11_shown ∈ gG := gG_in (tin3 (List.mem_of_getElem? (i := 126) rfl)) rfl
theorem wmL_84 : Cond.methodLink R_law 84 yX12_shown ∈ gG := gG_in (tin5 (List.mem_of_getElem? (i := 58) rfl)) rfl
theorem wmL_85 : Cond.methodLink R_law 85 yX11_lost ∈ gG := gG_in (tin3 (List.mem_of_getElem? (i := 135) rfl)) rfl
theorem wmL_89 : Cond.methodLink R_law 89 yX12_lost ∈ gG := gG_in (tin5 (List.mem_of_getElem? (i := 62) rfl)) rfl
theorem wmL_90 : Cond.methodLink R_law 90 yX11_pen ∈ gG := gG_in (tin3 (List.mem_of_getElem? (i := 169) rfl)) rfl
theorem wmL_94 : Cond.methodLink R_law 94 yX12_pen ∈ gG := gG_in (tin5 (List.mem_of_getElem? (i := 86) rfl)) rfl
theorem wmL_95 : Cond.methodLink R_law 95 yX11_orders ∈ gG := gG_in (tin3 (List.mem_of_getElem? (i := 173) rfl)) rfl
theorem wmL_98 : Cond.methodLink R_law 98 yX12_orders ∈ gG := gG_in (tin5 (List.mem_of_getElem? (i := 90) rfl)) rfl
theorem wmL_99 : Cond.methodLink R_law 99 yX11_press ∈ gG := gG_in (tin3 (List.mem_of_getElem? (i := 196) rfl)) rfl
theorem wmL_102 : Cond.methodLink R_law 102 yX12_press ∈ gG := gG_in (tin5 (List.mem_of_getElem? (i := 110) rfl)) rfl
theorem wmL_103 : Cond.methodLink R_law 103 yX11_copies ∈ gG := gG_in (tin3 (List.mem_of_getElem? (i := 200) rfl)) rfl
theorem wmL_107 : Cond.methodLink R_law 107 yX12_copies ∈ gG := gG_in (tin5 (List.mem_of_getElem? (i := 114) rfl)) rfl
theorem wmL_108 : Cond.methodLink R_law 108 yX11_rub ∈ gG := gG_in (tin3 (List.mem_of_getElem? (i := 204) rfl)) rfl
theorem wmL_111 : Cond.methodLink R_law 111 yX12_rub ∈ gG := gG_in (tin5 (List.mem_of_getElem? (i := 118) rfl)) rfl
theorem wmL_112 : Cond.methodLink R_law 112 yX11_torn ∈ gG := gG_in (tin3 (List.mem_of_getElem? (i := 213) rfl)) rfl
theorem wmL_115 : Cond.methodLink R_law 115 yX12_torn ∈ gG := gG_in (tin5 (List.mem_of_getElem? (i := 126) rfl)) rfl
theorem wmL_116 : Cond.methodLink R_law 116 yX11_drawn ∈ gG := gG_in (tin3 (List.mem_of_getElem? (i := 217) rfl)) rfl
theorem wmL_119 : Cond.methodLink R_law 119 yX12_drawn ∈ gG := gG_in (tin5 (List.mem_of_getElem? (i := 130) rfl)) rfl
theorem wmL_120 : Cond.methodLink R_law 120 yX11_part ∈ gG := gG_in (tin3 (List.mem_of_getElem? (i := 237) rfl)) rfl
theorem wmL_124 : Cond.methodLink R_law 124 yX12_part ∈ gG := gG_in (tin5 (List.mem_of_getElem? (i := 144) rfl)) rfl
theorem wmL_125 : Cond.methodLink R_law 125 yX11_image ∈ gG := gG_in (tin4 (List.mem_of_getElem? (i := 1) rfl)) rfl
theorem wmL_128 : Cond.methodLink R_law 128 yX12_image ∈ gG := gG_in (tin5 (List.mem_of_getElem? (i := 148) rfl)) rfl
theorem wmL_129 : Cond.methodLink R_law 129 yX11_from ∈ gG := gG_in (tin4 (List.mem_of_getElem? (i := 9) rfl)) rfl
theorem wmL_132 : Cond.methodLink R_law 132 yX12_from ∈ gG := gG_in (tin5 (List.mem_of_getElem? (i := 156) rfl)) rfl
theorem wmL_133 : Cond.methodLink R_law 133 yX11_status ∈ gG := gG_in (tin4 (List.mem_of_getElem? (i := 13) rfl)) rfl
theorem wmL_136 : Cond.methodLink R_law 136 yX12_status ∈ gG := gG_in (tin5 (List.mem_of_getElem? (i := 160) rfl)) rfl
theorem wmL_137 : Cond.methodLink R_law 137 yX11_count ∈ gG := gG_in (tin4 (List.mem_of_getElem? (i := 17) rfl)) rfl
theorem wmL_140 : Cond.methodLink R_law 140 yX12_count ∈ gG := gG_in (tin5 (List.mem_of_getElem? (i := 165) rfl)) rfl
theorem wmL_141 : Cond.methodLink R_law 141 yX11_digest ∈ gG := gG_in (tin4 (List.mem_of_getElem? (i := 25) rfl)) rfl
theorem wmL_145 : Cond.methodLink R_law 145 yX12_digest ∈ gG := gG_in (tin5 (List.mem_of_getElem? (i := 173) rfl)) rfl
theorem wkL_7 : Cond.classLink R_law 7 RX11 ∈ gG := gG_in (tin1 (List.mem_of_getElem? (i := 20) rfl)) rfl
theorem wkL_10 : Cond.classLink R_law 10 RX12 ∈ gG := gG_in (tin4 (List.mem_of_getElem? (i := 36) rfl)) rfl
theorem wjX11 : Cond.instantiable RX11 15 ∈ gG := gG_in (tin1 (List.mem_of_getElem? (i := 21) rfl)) rfl
theorem wjX12 : Cond.instantiable RX12 30 ∈ gG := gG_in (tin4 (List.mem_of_getElem? (i := 37) rfl)) rfl
theorem wmL_9 : Cond.methodLink R_law 9 yX11_init ∈ gG := gG_in (tin1 (List.mem_of_getElem? (i := 22) rfl)) rfl
theorem wmL_12 : Cond.methodLink R_law 12 yX12_init ∈ gG := gG_in (tin4 (List.mem_of_getElem? (i := 38) rfl)) rfl
theorem kb_31 : (Int8.ofInt 31).toInt32 = (31 : Int32) := by decide +kernel
theorem kn_1 : Int32.ofInt 1 = nI 1 := by decide +kernel
theorem kn_2 : Int32.ofInt 2 = nI 2 := by decide +kernel
theorem kn_3 : Int32.ofInt 3 = nI 3 := by decide +kernel
theorem kn_4 : Int32.ofInt 4 = nI 4 := by decide +kernel
theorem kn_5 : Int32.ofInt 5 = nI 5 := by decide +kernel
theorem kn_6 : (Int8.ofInt 6).toInt32 = nI 6 := by decide +kernel
section
variable {p : Program} {l : Launch} {e : Env} {R : Room} {s : State} {m : MethodId} {args : Array Value} {below : List Frame} {meth : Method} {c : Code} {E : VE} {A : Nat → Prop} {cc : ByteArray} {nL cells slots : Nat} {ret : Option FieldType} {own : String} {Q : State → Prop} {w wA wB : va_W} {pc idx : Nat} {lv : List (Nat × Value)} {st : List Value}
variable {y : MethodName} {cy : ByteArray} {ny n : Nat} {ry : Option FieldType} {rm : Room} {S : Type} {b : Nat} {K : String}
theorem v_sld (C : VC p s m args meth c E A cc nL ret own) {b L : Nat} {xs : Nat → Int32} (hX : va_X b L xs s s.heap) (hbl : b < s.heap.size) (hbA : ¬ A b) {i : Int32} {j : Nat} (hin : vp_in i L) (hj : i.toNatClampNeg = j) (hd : decode cc pc = .ok (.iaload, 1)) (k : V p l e R s m args below meth c E A nL cells slots Q w (pc + 1) lv (.int (xs j) :: st)) : V p l e R s m args below meth c E A nL cells slots Q w pc lv (.int i :: .ref b :: st) := fun H locs ls hP hD hS hl => va_sld C.1 C.2.1 hX hbl hbA hS hin hd (hj ▸ k H locs ls hP hD hS hl)
theorem v_sln (C : VC p s m args meth c E A cc nL ret own) {b L : Nat} {xs : Nat → Int32} (hX : va_X b L xs s s.heap) (hbl : b < s.heap.size) (hbA : ¬ A b) (hd : decode cc pc = .ok (.arraylength, 1)) (k : V p l e R s m args below meth c E A nL cells slots Q w (pc + 1) lv (.int (nI L) :: st)) : V p l e R s m args below meth c E A nL cells slots Q w pc lv (.ref b :: st) := fun H locs ls hP hD hS hl => va_slen C.1 C.2.1 hX hbl hbA hS hd (k H locs ls hP hD hS hl)
theorem v_arg (C : VC p s m args meth c E A cc nL ret own) {b L : Nat} {xs : Nat → Int32} (hX : va_X b L xs s s.heap) (hbl : b < s.heap.size) (hbA : ¬ A b) (hL : L ≤ 3584) {j r1 r2 : Nat} (k : Nat) (hk : j + k < L) {kk : Int} (hkk : Int32.ofInt kk = nI k) (d0 : decode cc pc = .ok (.aload_n 0, 1)) (d1 : decode cc (pc + 1) = .ok (.iload_n 3, 1)) (d2 : decode cc (pc + 2) = .ok (.iconst kk, 1)) (d3 : decode cc (pc + 3) = .ok (.iadd, 1)) (d4 : decode cc (pc + 4) = .ok (.iaload, 1)) (kt : V p l e R s m args below meth c E A nL cells slots Q w (pc + 5) [(3, .int (nI j)), (2, .ref r2), (1, .ref r1), (0, .ref b)] (.int (xs (j + k)) :: st)) : V p l e R s m args below meth c E A nL cells slots Q w pc [(3, .int (nI j)), (2, .ref r2), (1, .ref r1), (0, .ref b)] (st) := by
  refine v_aload_n C 3 rfl rfl d0 ?_
  refine v_iload_n C 0 rfl rfl d1 ?_
  refine v_iconst C (nI k) hkk d2 ?_
  refine v_iadd C d3 ?_
  rw [nI_add]
  exact v_sld C hX hbl hbA (vp_in_nI hk (by omega)) (nI_clamp (by omega)) d4 kt
theorem v_argb (C : VC p s m args meth c E A cc nL ret own) {b L : Nat} {xs : Nat → Int32} (hX : va_X b L xs s s.heap) (hbl : b < s.heap.size) (hbA : ¬ A b) (hL : L ≤ 3584) {j r1 r2 : Nat} (k : Nat) (hk : j + k < L) {kk : Int} (hkk : (Int8.ofInt kk).toInt32 = nI k) (d0 : decode cc pc = .ok (.aload_n 0, 1)) (d1 : decode cc (pc + 1) = .ok (.iload_n 3, 1)) (d2 : decode cc (pc + 2) = .ok (.bipush kk, 2)) (d3 : decode cc (pc + 4) = .ok (.iadd, 1)) (d4 : decode cc (pc + 5) = .ok (.iaload, 1)) (kt : V p l e R s m args below meth c E A nL cells slots Q w (pc + 6) [(3, .int (nI j)), (2, .ref r2), (1, .ref r1), (0, .ref b)] (.int (xs (j + k)) :: st)) : V p l e R s m args below meth c E A nL cells slots Q w pc [(3, .int (nI j)), (2, .ref r2), (1, .ref r1), (0, .ref b)] (st) := by
  refine v_aload_n C 3 rfl rfl d0 ?_
  refine v_iload_n C 0 rfl rfl d1 ?_
  refine v_bipush C (nI k) hkk d2 ?_
  refine v_iadd C d3 ?_
  rw [nI_add]
  exact v_sld C hX hbl hbA (vp_in_nI hk (by omega)) (nI_clamp (by omega)) d4 kt
theorem v_freeL (C : VC p s m args meth c E A cc nL ret own) {H : Heap} {locs : List Loc} (hD : va_D A (wA ++ wB)) (hS : va_S A s.heap H locs) : ∀ q, va_A wA H.size q → A q := by
  intro q h
  rcases h with ⟨k, x, h⟩ | h
  · exact (va_D_app hD).1.2 k (q, x) h
  · exact C.2.2.2.2.2.2.2.1 q (Nat.le_trans hS.1 h)
theorem v_runL (C : VC p s m args meth c E A cc nL ret own) {Qc : Nat → Array Value → State → Outcome → State → Prop} (As rest : List Value) (hM : ∀ sz, Met l y (mW y cy ny ry) rm (CPre E (.ref b :: As) sz wA) (Qc sz) 0 0 (va_A wA sz))
    (mf : MF y cy ny ry n) (mv : MFv y K) (hlk : Cond.methodLink own idx y ∈ gG) (hn : As.length = n) (hR : rm.frames + 1 ≤ R.frames ∧ 8 + (ny + 11) + rm.locals ≤ R.locals) (hz : rm.cells = 0 ∧ rm.slots = 0)
    (qr : Nat) {ci : Nat} {fs : List Value} {qc : vw_C} (hcr : vwCl[ci]? = some qc) (hK : qc.1 = K) (her : wA[qr]? = some (b, .inr (ci, fs))) (hst : st = As.reverse ++ .ref b :: rest) (hroom : (rest.map fun v => v.category).sum ≤ 8) (hf : cells ≤ R.cells ∧ slots ≤ R.slots) (hd : decode cc pc = .ok (.invokevirtual idx, 3)) :
    ∀ (H : Heap) (locs : List Loc) (ls : Array Slot), va_P E.1 vwCl (wA ++ wB) H → va_D A (wA ++ wB) → va_S A s.heap H locs → lv_has ls nL lv → va_Run p l e R s m args below meth c H locs cells slots 0 0 (F0 m pc ls st) rest (Qc H.size (Value.ref b :: As).toArray) (va_A wA H.size) := by
  intro H locs ls hP hD hS hl
  subst hst
  subst hK
  have hPX : va_P E.1 vwCl wA H := va_P_iff.mpr (fun q hq => va_P_iff.mp hP q (List.mem_append_left _ hq))
  have cb : CallB R s args own idx y cy ny ry (mW y cy ny ry) rm 0 0 n := callB_of n C.2.2.2.2.2.1 (mW_good (fun _ h => h) mf.1) rfl hz.1 hz.2 (C.2.2.2.2.2.1 _ mf.2.1) (C.2.2.2.2.2.1 _ hlk) mf.2.2 hR
  exact va_runV ⟨C.1, C.2.1, C.2.2.1, C.2.2.2.2.1, C.2.2.2.2.2.1⟩ (hM H.size) ⟨cb, C.2.2.2.2.2.1 _ mv.1, C.2.2.2.2.2.1 _ mv.2⟩ ⟨CPre_blind, va_recv C.2.2.2.2.2.2.1 hPX hcr her, fun U hU hW => ⟨rfl, by rw [hU], by rw [hU]; exact hPX, va_K.moved hW.alike C.2.2.2.2.2.2.1, (va_D_app hD).1.weaken (fun _ _ _ _ => trivial), fun x hx => nst_warm (List.mem_filter.mp hx).2 hW (C.2.2.2.2.2.2.2.2.2.1 x hx), sF_go C.2.2.2.2.2.2.2.2.2.2 hS (v_freeL C hD hS) hW hU⟩⟩ rfl hn hl.1 rfl (lv_room hroom) hd hf
theorem v_goLi (C : VC p s m args meth c E A cc nL ret own) {Post : Int32 → S → Prop} (w1 : S → va_W) {rest : List Value} {a : Array Value} (hadr : ∀ u, (w1 u).map Prod.fst = wA.map Prod.fst)
    (run : ∀ (H : Heap) (locs : List Loc) (ls : Array Slot), va_P E.1 vwCl (wA ++ wB) H → va_D A (wA ++ wB) → va_S A s.heap H locs → lv_has ls nL lv → va_Run p l e R s m args below meth c H locs cells slots 0 0 (F0 m pc ls st) rest (CQi E Post w1 wA H.size a) (va_A wA H.size))
    (kk : ∀ (r : Int32) (u : S), Post r u → V p l e R s m args below meth c E A nL cells slots Q (w1 u ++ wB) (pc + 3) lv (.int r :: rest)) : V p l e R s m args below meth c E A nL cells slots Q (wA ++ wB) pc lv (st) := by
  intro H locs ls hP hD hS hl
  have hF := v_freeL C hD hS
  refine va_calli (run H locs ls hP hD hS hl) hS (fun q _ h => hF q h) hF (fun r u t H1 locs1 ht hvm hp hB hz hk hS1 => ?_)
  have hB : va_P E.1 vwCl (w1 u) H1 := ht ▸ hB
  rw [va_P_iff] at hP hB
  have old : ∀ q ∈ wB, va_at E.1 vwCl q H1 := by
    intro q hq
    have hat := hP q (List.mem_append_right _ hq)
    refine hat.kept (hk q.1 hat.lt (fun h => ?_))
    rcases h with ⟨k, x, h⟩ | h
    · exact (fun h => (va_D_app hD).2.2 (q.1, x) (List.mem_of_getElem? h) q hq rfl) h
    · exact absurd hat.lt (Nat.not_lt.mpr h)
  refine kk r u hp H1 locs1 ls (va_P_iff.mpr (fun q hq => ?_)) (va_D_adr hD (by rw [List.map_append, List.map_append, hadr u])) hS1 hl
  rcases List.mem_append.mp hq with h | h
  · exact hB q h
  · exact old q h
theorem v_goLl (C : VC p s m args meth c E A cc nL ret own) {Post : Int64 → S → Prop} (w1 : S → va_W) {rest : List Value} {a : Array Value} (hadr : ∀ u, (w1 u).map Prod.fst = wA.map Prod.fst)
    (run : ∀ (H : Heap) (locs : List Loc) (ls : Array Slot), va_P E.1 vwCl (wA ++ wB) H → va_D A (wA ++ wB) → va_S A s.heap H locs → lv_has ls nL lv → va_Run p l e R s m args below meth c H locs cells slots 0 0 (F0 m pc ls st) rest (CQl E Post w1 wA H.size a) (va_A wA H.size))
    (kk : ∀ (r : Int64) (u : S), Post r u → V p l e R s m args below meth c E A nL cells slots Q (w1 u ++ wB) (pc + 3) lv (.long r :: rest)) : V p l e R s m args below meth c E A nL cells slots Q (wA ++ wB) pc lv (st) := by
  intro H locs ls hP hD hS hl
  have hF := v_freeL C hD hS
  refine va_calll (run H locs ls hP hD hS hl) hS (fun q _ h => hF q h) hF (fun r u t H1 locs1 ht hvm hp hB hz hk hS1 => ?_)
  have hB : va_P E.1 vwCl (w1 u) H1 := ht ▸ hB
  rw [va_P_iff] at hP hB
  have old : ∀ q ∈ wB, va_at E.1 vwCl q H1 := by
    intro q hq
    have hat := hP q (List.mem_append_right _ hq)
    refine hat.kept (hk q.1 hat.lt (fun h => ?_))
    rcases h with ⟨k, x, h⟩ | h
    · exact (fun h => (va_D_app hD).2.2 (q.1, x) (List.mem_of_getElem? h) q hq rfl) h
    · exact absurd hat.lt (Nat.not_lt.mpr h)
  refine kk r u hp H1 locs1 ls (va_P_iff.mpr (fun q hq => ?_)) (va_D_adr hD (by rw [List.map_append, List.map_append, hadr u])) hS1 hl
  rcases List.mem_append.mp hq with h | h
  · exact hB q h
  · exact old q h
theorem v_freeR (C : VC p s m args meth c E A cc nL ret own) {H : Heap} {locs : List Loc} (hD : va_D A (wA ++ wB)) (hS : va_S A s.heap H locs) : ∀ q, va_A wB H.size q → A q := by
  intro q h
  rcases h with ⟨k, x, h⟩ | h
  · exact (va_D_app hD).2.1.2 k (q, x) h
  · exact C.2.2.2.2.2.2.2.1 q (Nat.le_trans hS.1 h)
theorem v_runR (C : VC p s m args meth c E A cc nL ret own) {Qc : Nat → Array Value → State → Outcome → State → Prop} (As rest : List Value) (hM : ∀ sz, Met l y (mW y cy ny ry) rm (CPre E (.ref b :: As) sz wB) (Qc sz) 0 0 (va_A wB sz))
    (mf : MF y cy ny ry n) (mv : MFv y K) (hlk : Cond.methodLink own idx y ∈ gG) (hn : As.length = n) (hR : rm.frames + 1 ≤ R.frames ∧ 8 + (ny + 11) + rm.locals ≤ R.locals) (hz : rm.cells = 0 ∧ rm.slots = 0)
    (qr : Nat) {ci : Nat} {fs : List Value} {qc : vw_C} (hcr : vwCl[ci]? = some qc) (hK : qc.1 = K) (her : wB[qr]? = some (b, .inr (ci, fs))) (hst : st = As.reverse ++ .ref b :: rest) (hroom : (rest.map fun v => v.category).sum ≤ 8) (hf : cells ≤ R.cells ∧ slots ≤ R.slots) (hd : decode cc pc = .ok (.invokevirtual idx, 3)) :
    ∀ (H : Heap) (locs : List Loc) (ls : Array Slot), va_P E.1 vwCl (wA ++ wB) H → va_D A (wA ++ wB) → va_S A s.heap H locs → lv_has ls nL lv → va_Run p l e R s m args below meth c H locs cells slots 0 0 (F0 m pc ls st) rest (Qc H.size (Value.ref b :: As).toArray) (va_A wB H.size) := by
  intro H locs ls hP hD hS hl
  subst hst
  subst hK
  have hPX : va_P E.1 vwCl wB H := va_P_iff.mpr (fun q hq => va_P_iff.mp hP q (List.mem_append_right _ hq))
  have cb : CallB R s args own idx y cy ny ry (mW y cy ny ry) rm 0 0 n := callB_of n C.2.2.2.2.2.1 (mW_good (fun _ h => h) mf.1) rfl hz.1 hz.2 (C.2.2.2.2.2.1 _ mf.2.1) (C.2.2.2.2.2.1 _ hlk) mf.2.2 hR
  exact va_runV ⟨C.1, C.2.1, C.2.2.1, C.2.2.2.2.1, C.2.2.2.2.2.1⟩ (hM H.size) ⟨cb, C.2.2.2.2.2.1 _ mv.1, C.2.2.2.2.2.1 _ mv.2⟩ ⟨CPre_blind, va_recv C.2.2.2.2.2.2.1 hPX hcr her, fun U hU hW => ⟨rfl, by rw [hU], by rw [hU]; exact hPX, va_K.moved hW.alike C.2.2.2.2.2.2.1, (va_D_app hD).2.1.weaken (fun _ _ _ _ => trivial), fun x hx => nst_warm (List.mem_filter.mp hx).2 hW (C.2.2.2.2.2.2.2.2.2.1 x hx), sF_go C.2.2.2.2.2.2.2.2.2.2 hS (v_freeR C hD hS) hW hU⟩⟩ rfl hn hl.1 rfl (lv_room hroom) hd hf
theorem v_goRi (C : VC p s m args meth c E A cc nL ret own) {Post : Int32 → S → Prop} (w1 : S → va_W) {rest : List Value} {a : Array Value} (hadr : ∀ u, (w1 u).map Prod.fst = wB.map Prod.fst)
    (run : ∀ (H : Heap) (locs : List Loc) (ls : Array Slot), va_P E.1 vwCl (wA ++ wB) H → va_D A (wA ++ wB) → va_S A s.heap H locs → lv_has ls nL lv → va_Run p l e R s m args below meth c H locs cells slots 0 0 (F0 m pc ls st) rest (CQi E Post w1 wB H.size a) (va_A wB H.size))
    (kk : ∀ (r : Int32) (u : S), Post r u → V p l e R s m args below meth c E A nL cells slots Q (wA ++ w1 u) (pc + 3) lv (.int r :: rest)) : V p l e R s m args below meth c E A nL cells slots Q (wA ++ wB) pc lv (st) := by
  intro H locs ls hP hD hS hl
  have hF := v_freeR C hD hS
  refine va_calli (run H locs ls hP hD hS hl) hS (fun q _ h => hF q h) hF (fun r u t H1 locs1 ht hvm hp hB hz hk hS1 => ?_)
  have hB : va_P E.1 vwCl (w1 u) H1 := ht ▸ hB
  rw [va_P_iff] at hP hB
  have old : ∀ q ∈ wA, va_at E.1 vwCl q H1 := by
    intro q hq
    have hat := hP q (List.mem_append_left _ hq)
    refine hat.kept (hk q.1 hat.lt (fun h => ?_))
    rcases h with ⟨k, x, h⟩ | h
    · exact (fun h => (va_D_app hD).2.2 q hq (q.1, x) (List.mem_of_getElem? h) rfl) h
    · exact absurd hat.lt (Nat.not_lt.mpr h)
  refine kk r u hp H1 locs1 ls (va_P_iff.mpr (fun q hq => ?_)) (va_D_adr hD (by rw [List.map_append, List.map_append, hadr u])) hS1 hl
  rcases List.mem_append.mp hq with h | h
  · exact old q h
  · exact hB q h
theorem v_goRl (C : VC p s m args meth c E A cc nL ret own) {Post : Int64 → S → Prop} (w1 : S → va_W) {rest : List Value} {a : Array Value} (hadr : ∀ u, (w1 u).map Prod.fst = wB.map Prod.fst)
    (run : ∀ (H : Heap) (locs : List Loc) (ls : Array Slot), va_P E.1 vwCl (wA ++ wB) H → va_D A (wA ++ wB) → va_S A s.heap H locs → lv_has ls nL lv → va_Run p l e R s m args below meth c H locs cells slots 0 0 (F0 m pc ls st) rest (CQl E Post w1 wB H.size a) (va_A wB H.size))
    (kk : ∀ (r : Int64) (u : S), Post r u → V p l e R s m args below meth c E A nL cells slots Q (wA ++ w1 u) (pc + 3) lv (.long r :: rest)) : V p l e R s m args below meth c E A nL cells slots Q (wA ++ wB) pc lv (st) := by
  intro H locs ls hP hD hS hl
  have hF := v_freeR C hD hS
  refine va_calll (run H locs ls hP hD hS hl) hS (fun q _ h => hF q h) hF (fun r u t H1 locs1 ht hvm hp hB hz hk hS1 => ?_)
  have hB : va_P E.1 vwCl (w1 u) H1 := ht ▸ hB
  rw [va_P_iff] at hP hB
  have old : ∀ q ∈ wA, va_at E.1 vwCl q H1 := by
    intro q hq
    have hat := hP q (List.mem_append_left _ hq)
    refine hat.kept (hk q.1 hat.lt (fun h => ?_))
    rcases h with ⟨k, x, h⟩ | h
    · exact (fun h => (va_D_app hD).2.2 q hq (q.1, x) (List.mem_of_getElem? h) rfl) h
    · exact absurd hat.lt (Nat.not_lt.mpr h)
  refine kk r u hp H1 locs1 ls (va_P_iff.mpr (fun q hq => ?_)) (va_D_adr hD (by rw [List.map_append, List.map_append, hadr u])) hS1 hl
  rcases List.mem_append.mp hq with h | h
  · exact old q h
  · exact hB q h
end
/-- the law's body: what holds all through it -/
def LX (p : Program) (s : State) (m : MethodId) (meth : Method) (c : Code) (E : VE) (b L : Nat) (xs : Nat → Int32) : Prop := VC p s m #[Value.ref b] meth c E (fun q => s.heap.size ≤ q) code 4 ret R_law ∧ va_X b L xs s s.heap ∧ b < s.heap.size ∧ L ≤ 3584
abbrev VL (p : Program) (l : Launch) (e : Env) (s : State) (m : MethodId) (below : List Frame) (meth : Method) (c : Code) (E : VE) (b : Nat) (w : va_W) (pc : Nat) (lv : List (Nat × Value)) (st : List Value) : Prop := V p l e room_1 s m #[Value.ref b] below meth c E (fun q => s.heap.size ≤ q) 4 68 8256 (lw_Z below #[Value.ref b] s) w pc lv st
