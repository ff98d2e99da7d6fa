section
variable {p : Program} {l : Launch} {e : Env} {R : Room} {s : State} {m : MethodId} {args : Array Value} {below : List Frame} {meth : Method} {c : Code} {E : VE} {A : Nat → Prop} {cc : ByteArray} {nL cells slots : Nat} {ret : Option FieldType} {own : String} {Q : State → Prop} {w : va_W} {pc idx : Nat} {lv : List (Nat × Value)} {st : List Value}
variable {y : MethodName} {cy : ByteArray} {ny n : Nat} {ry : Option FieldType} {rm : Room} {S : Type} {b : Nat} {K : String}
theorem v_ldcS0 (C : VC p s m args meth c E A cc nL ret RX7) (hd : decode cc pc = .ok (.ldc 48, 2)) (k : V p l e R s m args below meth c E A nL cells slots Q w (pc + 2) lv (.ref (E.2.2.2.2.1 0) :: st)) : V p l e R s m args below meth c E A nL cells slots Q w pc lv (st) := fun H locs ls hP hD hS hl => va_ldcS C.1 C.2.1 C.2.2.2.2.1 C.2.2.2.2.2.2.2.2.2.2.1 hd (k H locs ls hP hD hS hl)
theorem v_ldcS1 (C : VC p s m args meth c E A cc nL ret RX7) (hd : decode cc pc = .ok (.ldc 68, 2)) (k : V p l e R s m args below meth c E A nL cells slots Q w (pc + 2) lv (.ref (E.2.2.2.2.1 1) :: st)) : V p l e R s m args below meth c E A nL cells slots Q w pc lv (st) := fun H locs ls hP hD hS hl => va_ldcS C.1 C.2.1 C.2.2.2.2.1 C.2.2.2.2.2.2.2.2.2.2.2.1 hd (k H locs ls hP hD hS hl)
theorem v_ldcS2 (C : VC p s m args meth c E A cc nL ret RX7) (hd : decode cc pc = .ok (.ldc 73, 2)) (k : V p l e R s m args below meth c E A nL cells slots Q w (pc + 2) lv (.ref (E.2.2.2.2.1 2) :: st)) : V p l e R s m args below meth c E A nL cells slots Q w pc lv (st) := fun H locs ls hP hD hS hl => va_ldcS C.1 C.2.1 C.2.2.2.2.1 C.2.2.2.2.2.2.2.2.2.2.2.2.1 hd (k H locs ls hP hD hS hl)
theorem v_ldcS3 (C : VC p s m args meth c E A cc nL ret RX7) (hd : decode cc pc = .ok (.ldc 75, 2)) (k : V p l e R s m args below meth c E A nL cells slots Q w (pc + 2) lv (.ref (E.2.2.2.2.1 3) :: st)) : V p l e R s m args below meth c E A nL cells slots Q w pc lv (st) := fun H locs ls hP hD hS hl => va_ldcS C.1 C.2.1 C.2.2.2.2.1 C.2.2.2.2.2.2.2.2.2.2.2.2.2.1 hd (k H locs ls hP hD hS hl)
theorem v_null (C : VC p s m args meth c E A cc nL ret own) (hd : decode cc pc = .ok (.aconst_null, 1)) (k : V p l e R s m args below meth c E A nL cells slots Q w (pc + 1) lv (.null :: st)) : V p l e R s m args below meth c E A nL cells slots Q w pc lv (st) := fun H locs ls hP hD hS hl => lv_null C.1 C.2.1 hd (k H locs ls hP hD hS hl)
theorem v_ifnonnull (C : VC p s m args meth c E A cc nL ret own) {x : Nat} {off : Int} (tgt : Nat) (ht : (pc : Int) + off = (tgt : Int)) (hd : decode cc pc = .ok (.ifnonnull off, 3)) (k : V p l e R s m args below meth c E A nL cells slots Q w tgt lv (st)) : V p l e R s m args below meth c E A nL cells slots Q w pc lv (.ref x :: st) := fun H locs ls hP hD hS hl => lv_ifnonnull C.1 C.2.1 hd ht (k H locs ls hP hD hS hl)
theorem v_ifnonnullN (C : VC p s m args meth c E A cc nL ret own) {off : Int} (hd : decode cc pc = .ok (.ifnonnull off, 3)) (k : V p l e R s m args below meth c E A nL cells slots Q w (pc + 3) lv (st)) : V p l e R s m args below meth c E A nL cells slots Q w pc lv (.null :: st) := fun H locs ls hP hD hS hl => lv_ifnonnullN C.1 C.2.1 hd (k H locs ls hP hD hS hl)
theorem v_ifnull (C : VC p s m args meth c E A cc nL ret own) {x : Nat} {off : Int} (hd : decode cc pc = .ok (.ifnull off, 3)) (k : V p l e R s m args below meth c E A nL cells slots Q w (pc + 3) lv (st)) : V p l e R s m args below meth c E A nL cells slots Q w pc lv (.ref x :: st) := fun H locs ls hP hD hS hl => lv_ifnull C.1 C.2.1 hd (k H locs ls hP hD hS hl)
theorem v_ifnullN (C : VC p s m args meth c E A cc nL ret own) {off : Int} (tgt : Nat) (ht : (pc : Int) + off = (tgt : Int)) (hd : decode cc pc = .ok (.ifnull off, 3)) (k : V p l e R s m args below meth c E A nL cells slots Q w tgt lv (st)) : V p l e R s m args below meth c E A nL cells slots Q w pc lv (.null :: st) := fun H locs ls hP hD hS hl => lv_ifnullN C.1 C.2.1 hd ht (k H locs ls hP hD hS hl)
theorem v_aload_nN (C : VC p s m args meth c E A cc nL ret own) {k0 : Fin 4} {i : Nat} (j : Nat) (hj : lv[j]? = some (i, .null)) (hi : (k0 : Nat) = i) (hd : decode cc pc = .ok (.aload_n k0, 1)) (k : V p l e R s m args below meth c E A nL cells slots Q w (pc + 1) lv (.null :: st)) : V p l e R s m args below meth c E A nL cells slots Q w pc lv (st) := fun H locs ls hP hD hS hl => lv_aload_nN C.1 C.2.1 hd hi (lv_at hl j hj) (k H locs ls hP hD hS hl)
theorem v_aloadN (C : VC p s m args meth c E A cc nL ret own) {i : Nat} (j : Nat) (hj : lv[j]? = some (i, .null)) (hd : decode cc pc = .ok (.aload i, 2)) (k : V p l e R s m args below meth c E A nL cells slots Q w (pc + 2) lv (.null :: st)) : V p l e R s m args below meth c E A nL cells slots Q w pc lv (st) := fun H locs ls hP hD hS hl => lv_aloadN C.1 C.2.1 hd (lv_at hl j hj) (k H locs ls hP hD hS hl)
theorem v_astore_nN (C : VC p s m args meth c E A cc nL ret own) {k0 : Fin 4} {i : Nat} (lv' : List (Nat × Value)) (hl' : (i, Value.null) :: lv.filter (fun q => !(q.1 == i) && !(q.1 + 1 == i && q.2.category == 2)) = lv') (hi : (k0 : Nat) = i) (hn : i < nL) (hd : decode cc pc = .ok (.astore_n k0, 1)) (k : V p l e R s m args below meth c E A nL cells slots Q w (pc + 1) lv' (st)) : V p l e R s m args below meth c E A nL cells slots Q w pc lv (.null :: st) := fun H locs ls hP hD hS hl => lv_astore_nN C.1 C.2.1 hd hi hl hn hl' (fun ls' h' => k H locs ls' hP hD hS h')
theorem v_astoreN (C : VC p s m args meth c E A cc nL ret own) {i : Nat} (lv' : List (Nat × Value)) (hl' : (i, Value.null) :: lv.filter (fun q => !(q.1 == i) && !(q.1 + 1 == i && q.2.category == 2)) = lv') (hn : i < nL) (hd : decode cc pc = .ok (.astore i, 2)) (k : V p l e R s m args below meth c E A nL cells slots Q w (pc + 2) lv' (st)) : V p l e R s m args below meth c E A nL cells slots Q w pc lv (.null :: st) := fun H locs ls hP hD hS hl => lv_astoreN C.1 C.2.1 hd hl hn hl' (fun ls' h' => k H locs ls' hP hD hS h')
theorem v_aldq (C : VC p s m args meth c E A cc nL ret own) (q0 : Nat) {a n x : Nat} {f : Nat → Option Nat} {i : Int32} (ha : w[q0]? = some (a, .inl (E.2.2.2.1, n, .inr (.inr (.inr (.inr f)))))) (hin : vp_in i n) (hx : f i.toNatClampNeg = some x) (hd : decode cc pc = .ok (.aaload, 1)) (k : V p l e R s m args below meth c E A nL cells slots Q w (pc + 1) lv (.ref x :: st)) : V p l e R s m args below meth c E A nL cells slots Q w pc lv (.int i :: .ref a :: st) := fun H locs ls hP hD hS hl => va_aldq C.1 C.2.1 C.2.2.2.2.2.2.1 hP q0 2 ha rfl hin hd (by rw [hx]; exact (k H locs ls hP hD hS hl))
theorem v_alenq (C : VC p s m args meth c E A cc nL ret own) (q0 : Nat) {a : Nat} {x : vp_A} {v : Int32} (ha : w[q0]? = some (a, .inl (E.2.2.2.1, x))) (hv : Int32.ofNat x.1 = v) (hd : decode cc pc = .ok (.arraylength, 1)) (k : V p l e R s m args below meth c E A nL cells slots Q w (pc + 1) lv (.int v :: st)) : V p l e R s m args below meth c E A nL cells slots Q w pc lv (.ref a :: st) := fun H locs ls hP hD hS hl => va_alen C.1 C.2.1 C.2.2.2.2.2.2.1 hP q0 2 ha rfl hv hd (k H locs ls hP hD hS hl)
theorem v_gets (C : VC p s m args meth c E A cc nL ret own) {Cn f d : String} {v : Value} (hZ : va_Z Cn f d v A s s.heap) (hlk : Cond.fieldLink own idx Cn f d ∈ gG) (hd : decode cc pc = .ok (.getstatic idx, 3)) (k : V p l e R s m args below meth c E A nL cells slots Q w (pc + 3) lv (v :: st)) : V p l e R s m args below meth c E A nL cells slots Q w pc lv (st) := fun H locs ls hP hD hS hl => va_gets C.1 C.2.1 hZ hS C.2.2.2.2.1 (C.2.2.2.2.2.1 _ hlk) (fun _ h => h) hd (k H locs ls hP hD hS hl)
theorem v_getk (C : VC p s m args meth c E A cc nL ret own) {o f d : String} {q : Nat} {v : Value} (hE : va_OF o f d v q A s s.heap) (hlk : Cond.fieldLink own idx o f d ∈ gG) (hd : decode cc pc = .ok (.getfield idx, 3)) (k : V p l e R s m args below meth c E A nL cells slots Q w (pc + 3) lv (v :: st)) : V p l e R s m args below meth c E A nL cells slots Q w pc lv (.ref q :: st) := fun H locs ls hP hD hS hl => vk_getf C.1 C.2.1 hE hS C.2.2.2.2.1 (C.2.2.2.2.2.1 _ hlk) (fun _ h => h) hd (k H locs ls hP hD hS hl)
theorem v_tlen (C : VC p s m args meth c E A cc nL ret own) {ty : FieldType} {t N : Nat} {f : Nat → Value} {v : Int32} (hT : va_T ty t N f A s s.heap) (hv : Int32.ofNat N = v) (hd : decode cc pc = .ok (.arraylength, 1)) (k : V p l e R s m args below meth c E A nL cells slots Q w (pc + 1) lv (.int v :: st)) : V p l e R s m args below meth c E A nL cells slots Q w pc lv (.ref t :: st) := fun H locs ls hP hD hS hl => va_tlen C.1 C.2.1 hT hS hv hd (k H locs ls hP hD hS hl)
theorem v_tb (C : VC p s m args meth c E A cc nL ret own) {t N : Nat} {f : Nat → Value} {i : Int32} {v : Value} (hT : va_T .byte t N f A s s.heap) (hin : vp_in i N) (hv : f i.toNatClampNeg = v) (hd : decode cc pc = .ok (.baload, 1)) (k : V p l e R s m args below meth c E A nL cells slots Q w (pc + 1) lv (v :: st)) : V p l e R s m args below meth c E A nL cells slots Q w pc lv (.int i :: .ref t :: st) := fun H locs ls hP hD hS hl => va_tb C.1 C.2.1 hT hS hin hv hd (k H locs ls hP hD hS hl)
/-- an answer that is a value that is told, nothing changed -/
def CQq (E : VE) (v : Value) (w : va_W) (sz : Nat) : Array Value → State → Outcome → State → Prop := fun _ st oc t => (oc = .returned (some v) ∧ va_P E.1 vwCl w t.heap) ∧ va_F (va_A w sz) st t
theorem v_goq (C : VC p s m args meth c E A cc nL ret own) {v : Value} {wc : va_W} {rest : List Value} {a : Array Value} (is : List Nat) (hC : is.map (fun i => w[i]?) = wc.map some) (hw' : putc w is wc = w)
    (run : ∀ (H : Heap) (locs : List Loc) (ls : Array Slot), va_P E.1 vwCl w H → va_D A w → va_S A s.heap H locs → lv_has ls nL lv → va_Run p l e R s m args below meth c H locs cells slots 0 0 (F0 m pc ls st) rest (CQq E v wc H.size a) (va_A wc H.size))
    (kk : V p l e R s m args below meth c E A nL cells slots Q w (pc + 3) lv (v :: rest)) : V p l e R s m args below meth c E A nL cells slots Q w pc lv (st) := by
  intro H locs ls hP hD hS hl T hT X
  obtain ⟨v', st₀, t, T', L, h0, X', hL, e1, e2, ⟨⟨hv, hb⟩, hz, hk⟩, st'⟩ := run H locs ls hP hD hS hl T hT X
  cases hv
  rw [h0] at hz hk
  have hF := va_free hD hS C.2.2.2.2.2.2.2.1 is hC
  obtain ⟨h1, h2⟩ := put_join (H1 := T'.heap) hP hD is hC rfl (fun q h1 h2 => by rw [e1]; exact hk q h1 h2) (by rw [e1]; exact hb)
  rw [hw'] at h1 h2
  have hS' : va_S A s.heap T'.heap (locs ++ L) := ⟨Nat.le_trans hS.1 (by rw [e1]; exact hz), fun q h1 h2 => by rw [e1, hk q (Nat.lt_of_lt_of_le h1 hS.1) (fun z => h2 (hF q z))]; exact hS.2.1 q h1 h2, fun q hq => by
      rcases List.mem_append.mp hq with h | h
      · exact hS.2.2 q h
      · exact hF _ (hL q h)⟩
  obtain ⟨t2, a1, b1⟩ := kk T'.heap (locs ++ L) ls h1 h2 hS' hl T' rfl X'
  exact ⟨t2, st' t2 a1, b1⟩
theorem v_aretq {cn : String} (C : VC p s m args meth c E A cc nL (some (.object cn)) own) {v : Value} {w0 : va_W} (hA : va_A w0 s.heap.size = A) (hw : w = w0) (hv : v = .null ∨ ∃ a, v = .ref a) (hd : decode cc pc = .ok (.areturn, 1)) : V p l e R s m args below meth c E A nL cells slots (MQ below (CQq E v w0 s.heap.size) args s cells slots A) w pc lv [v] := by
  intro H locs ls hP hD hS hl
  subst hw
  exact W.aret C.1 C.2.1 C.2.2.2.1 (Or.inl ⟨_, rfl⟩) hv (fun t ht hW => ⟨⟨rfl, by show va_P _ _ _ t.heap; rw [ht]; exact hP⟩, hA ▸ hS.F ht⟩) hS.2.2 hd C.2.2.2.2.2.2.2.2.1
theorem v_irett {ty : FieldType} (C : VC p s m args meth c E A cc nL (some ty) own) {Post : Int32 → S → Prop} {wf : S → va_W} {w0 : va_W} {x : Int32} (hz : narrow ty (.int x) = .int x) (u : S) (hA : va_A w0 s.heap.size = A) (hw : w = wf u) (h : Post x u) (hd : decode cc pc = .ok (.ireturn, 1)) : V p l e R s m args below meth c E A nL cells slots (MQ below (CQi E Post wf w0 s.heap.size) args s cells slots A) w pc lv [.int x] := by
  intro H locs ls hP hD hS hl
  subst hw
  exact W.zret C.1 C.2.1 C.2.2.2.1 hz (fun t ht hW => ⟨⟨x, u, rfl, h, by show va_P _ _ _ t.heap; rw [ht]; exact hP⟩, hA ▸ hS.F ht⟩) hS.2.2 hd C.2.2.2.2.2.2.2.2.1
/-- a call of a literal's method: the callee has no world -/
theorem v_runK (C : VC p s m args meth c E A cc nL ret own) {Qc : Nat → Array Value → State → Outcome → State → Prop} (As rest : List Value) {i : Nat} (hi : i < 4) (hM : ∀ sz, Met l y (mW y cy ny ry) rm (CPre E (.ref (E.2.2.2.2.1 i) :: As) sz []) (Qc sz) 0 0 (va_A [] sz))
    (mf : MF y cy ny ry n) (hin : Cond.instanceMethod y ∈ gG) (hse : Cond.selects "java/lang/String" y y ∈ gG) (hlk : Cond.methodLink own idx y ∈ gG) (hn : As.length = n) (hR : rm.frames + 1 ≤ R.frames ∧ 8 + (ny + 11) + rm.locals ≤ R.locals) (hz : rm.cells = 0 ∧ rm.slots = 0)
    (hst : st = As.reverse ++ .ref (E.2.2.2.2.1 i) :: rest) (hroom : (rest.map fun v => v.category).sum ≤ 8) (hf : cells ≤ R.cells ∧ slots ≤ R.slots) (hd : decode cc pc = .ok (.invokevirtual idx, 3)) :
    ∀ (H : Heap) (locs : List Loc) (ls : Array Slot), va_P E.1 vwCl w H → va_D A w → va_S A s.heap H locs → lv_has ls nL lv → va_Run p l e R s m args below meth c H locs cells slots 0 0 (F0 m pc ls st) rest (Qc H.size (Value.ref (E.2.2.2.2.1 i) :: As).toArray) (va_A [] H.size) := by
  intro H locs ls hP hD hS hl
  subst hst
  have cb : CallB R s args own idx y cy ny ry (mW y cy ny ry) rm 0 0 n := callB_of n C.2.2.2.2.2.1 (mW_good (fun _ h => h) mf.1) rfl hz.1 hz.2 (C.2.2.2.2.2.1 _ mf.2.1) (C.2.2.2.2.2.1 _ hlk) mf.2.2 hR
  exact va_runV ⟨C.1, C.2.1, C.2.2.1, C.2.2.2.2.1, C.2.2.2.2.2.1⟩ (hM H.size) ⟨cb, C.2.2.2.2.2.1 _ hin, C.2.2.2.2.2.1 _ hse⟩ ⟨CPre_blind, vk_recv C.2.2.2.2.2.2.2.2.2.2.2.2.2.2.1 hi hS, v_pre C [] rfl rfl hP hD hS (.ref (E.2.2.2.2.1 i) :: As)⟩ rfl hn hl.1 rfl (lv_room hroom) hd hf
/-- a call of an overriding method: the named one is x, the receiver's class selects y -/
theorem v_runO (C : VC p s m args meth c E A cc nL ret own) {Qc : Nat → Array Value → State → Outcome → State → Prop} {x : MethodName} {b0 : ByteArray} {m0 : Nat} {r0 : Option FieldType} {wc : va_W} (As rest : List Value) (hM : ∀ sz, Met l y (mW y cy ny ry) rm (CPre E (.ref b :: As) sz wc) (Qc sz) 0 0 (va_A wc sz)) (is : List Nat) (hC : is.map (fun i => w[i]?) = wc.map some) (hnd : va_nd is = true)
    (mf : MF y cy ny ry n) (hx : MF x b0 m0 r0 n) (hxi : Cond.instanceMethod x ∈ gG) (hsm : Cond.sameMethod x.cls x.cls x.name x.desc ∈ gG) (hse : Cond.selects K x y ∈ gG) (hyi : Cond.instanceMethod y ∈ gG) (hlk : Cond.methodLink own idx x ∈ gG) (hn : As.length = n) (hR : rm.frames + 1 ≤ R.frames ∧ 8 + (ny + 11) + rm.locals ≤ R.locals) (hz : rm.cells = 0 ∧ rm.slots = 0)
    (qr : Nat) {ci : Nat} {fs : List Value} {qc : vw_C} (hcr : vwCl[ci]? = some qc) (hK : qc.1 = K) (her : w[qr]? = some (b, .inr (ci, fs))) (hst : st = As.reverse ++ .ref b :: rest) (hroom : (rest.map fun v => v.category).sum ≤ 8) (hf : cells ≤ R.cells ∧ slots ≤ R.slots) (hd : decode cc pc = .ok (.invokevirtual idx, 3)) :
    ∀ (H : Heap) (locs : List Loc) (ls : Array Slot), va_P E.1 vwCl w H → va_D A w → va_S A s.heap H locs → lv_has ls nL lv → va_Run p l e R s m args below meth c H locs cells slots 0 0 (F0 m pc ls st) rest (Qc H.size (Value.ref b :: As).toArray) (va_A wc H.size) := by
  intro H locs ls hP hD hS hl
  subst hst
  subst hK
  have g1 : ∀ {z : Cond}, z ∈ gG → z ∈ gG ∧ ((z.onTables && z.keeps) = true ∨ ∃ ty, z = .arrayClass ty) := fun h => ⟨h, good_of_word (List.mem_filter.mp h).2⟩
  have hG : GoodIn gG (va_wsO own idx qc.1 x.cls x y (mW y cy ny ry)) := by
    intro z hz
    rcases List.mem_append.mp hz with h | h
    · simp only [List.mem_cons, List.not_mem_nil, or_false] at h
      rcases h with h | h | h | h | h | h <;> subst h
      · exact g1 hlk
      · exact g1 hsm
      · exact g1 hxi
      · exact g1 hse
      · exact g1 hyi
      · exact g1 mf.2.1
    · exact mW_good (fun _ h => h) mf.1 z h
  exact va_runU ⟨C.1, C.2.1, C.2.2.1, C.2.2.2.2.1, C.2.2.2.2.2.1⟩ (hM H.size) (va_cwO n C.2.2.2.2.2.1 hG rfl hz.1 hz.2 hx.1 ⟨hx.2.2.1, hx.2.2.2.1, hx.2.2.2.2⟩ hR) ⟨CPre_blind, va_recv C.2.2.2.2.2.2.1 hP hcr her, v_pre C is hC hnd hP hD hS (.ref b :: As)⟩ rfl hn hl.1 rfl (lv_room hroom) hd hf
/-- super.m(..): the superclass has it itself -/
theorem v_runSU (C : VC p s m args meth c E A cc nL ret own) {Qc : Nat → Array Value → State → Outcome → State → Prop} {wc : va_W} (As rest : List Value) (hM : ∀ sz, Met l y (mW y cy ny ry) rm (CPre E (.ref b :: As) sz wc) (Qc sz) 0 0 (va_A wc sz)) (is : List Nat) (hC : is.map (fun i => w[i]?) = wc.map some) (hnd : va_nd is = true)
    (mf : MF y cy ny ry n) (hno : y.name ≠ "<init>") (hsm : Cond.sameMethod y.cls y.cls y.name y.desc ∈ gG) (hsu : Cond.superclass own y.cls ∈ gG) (hyi : Cond.instanceMethod y ∈ gG) (hlk : Cond.methodLink own idx y ∈ gG) (hn : As.length = n) (hR : rm.frames + 1 ≤ R.frames ∧ 8 + (ny + 11) + rm.locals ≤ R.locals) (hz : rm.cells = 0 ∧ rm.slots = 0)
    (qr : Nat) {ci : Nat} {fs : List Value} {qc : vw_C} (hcr : vwCl[ci]? = some qc) (her : w[qr]? = some (b, .inr (ci, fs))) (hst : st = As.reverse ++ .ref b :: rest) (hroom : (rest.map fun v => v.category).sum ≤ 8) (hf : cells ≤ R.cells ∧ slots ≤ R.slots) (hd : decode cc pc = .ok (.invokespecial idx, 3)) :
    ∀ (H : Heap) (locs : List Loc) (ls : Array Slot), va_P E.1 vwCl w H → va_D A w → va_S A s.heap H locs → lv_has ls nL lv → va_Run p l e R s m args below meth c H locs cells slots 0 0 (F0 m pc ls st) rest (Qc H.size (Value.ref b :: As).toArray) (va_A wc H.size) := by
  intro H locs ls hP hD hS hl
  subst hst
  have g1 : ∀ {z : Cond}, z ∈ gG → z ∈ gG ∧ ((z.onTables && z.keeps) = true ∨ ∃ ty, z = .arrayClass ty) := fun h => ⟨h, good_of_word (List.mem_filter.mp h).2⟩
  have hG : GoodIn gG (va_wsSU own idx y (mW y cy ny ry)) := by
    intro z hz
    rcases List.mem_append.mp hz with h | h
    · simp only [List.mem_cons, List.not_mem_nil, or_false] at h
      rcases h with h | h | h | h | h <;> subst h
      · exact g1 hlk
      · exact g1 hsm
      · exact g1 hsu
      · exact g1 hyi
      · exact g1 mf.2.1
    · exact mW_good (fun _ h => h) mf.1 z h
  exact va_runSU (C.2.2.2.2.2.2.1.1 ci qc hcr).2 ⟨C.1, C.2.1, C.2.2.1, C.2.2.2.2.1, C.2.2.2.2.2.1⟩ (hM H.size) (va_cwSU n C.2.2.2.2.2.1 hG rfl hz.1 hz.2 ⟨hno, mf.2.2.2.2⟩ hR) ⟨CPre_blind, va_recv C.2.2.2.2.2.2.1 hP hcr her, v_pre C is hC hnd hP hD hS (.ref b :: As)⟩ rfl hn hl.1 rfl (lv_room hroom) hd hf
/-- super.m(..) where the superclass x.cls inherits it: y is its superclass's -/
theorem v_runSX (C : VC p s m args meth c E A cc nL ret own) {Qc : Nat → Array Value → State → Outcome → State → Prop} {x : MethodName} {wc : va_W} (As rest : List Value) (hM : ∀ sz, Met l y (mW y cy ny ry) rm (CPre E (.ref b :: As) sz wc) (Qc sz) 0 0 (va_A wc sz)) (is : List Nat) (hC : is.map (fun i => w[i]?) = wc.map some) (hnd : va_nd is = true)
    (mf : MF y cy ny ry n) (hyx : y = ⟨y.cls, x.name, x.desc⟩) (hno : x.name ≠ "<init>") (hsm : Cond.sameMethod x.cls y.cls x.name x.desc ∈ gG) (hsu : Cond.superclass own x.cls ∈ gG) (hsu2 : Cond.superclass x.cls y.cls ∈ gG) (hyi : Cond.instanceMethod y ∈ gG) (hlk : Cond.methodLink own idx x ∈ gG) (hn : As.length = n) (hR : rm.frames + 1 ≤ R.frames ∧ 8 + (ny + 11) + rm.locals ≤ R.locals) (hz : rm.cells = 0 ∧ rm.slots = 0)
    (qr : Nat) {ci : Nat} {fs : List Value} {qc : vw_C} (hcr : vwCl[ci]? = some qc) (her : w[qr]? = some (b, .inr (ci, fs))) (hst : st = As.reverse ++ .ref b :: rest) (hroom : (rest.map fun v => v.category).sum ≤ 8) (hf : cells ≤ R.cells ∧ slots ≤ R.slots) (hd : decode cc pc = .ok (.invokespecial idx, 3)) :
    ∀ (H : Heap) (locs : List Loc) (ls : Array Slot), va_P E.1 vwCl w H → va_D A w → va_S A s.heap H locs → lv_has ls nL lv → va_Run p l e R s m args below meth c H locs cells slots 0 0 (F0 m pc ls st) rest (Qc H.size (Value.ref b :: As).toArray) (va_A wc H.size) := by
  intro H locs ls hP hD hS hl T hT X
  subst hst
  have hw := C.2.2.2.2.2.1
  have hown := C.2.2.2.2.1
  have hK : Back l R p e below s args y 3 8 (PreOf R 0 0 (CPre E (.ref b :: As) H.size wc)) (PostOf (Qc H.size) 0 0 (va_A wc H.size)) :=
    back_of (bytes := cy) (maxL := ny) (ret := ry) (hM H.size) CPre_blind hz.1 hz.2 hR.1 hR.2 (pay_in hw (mW_good (fun _ h => h) mf.1)) List.mem_cons_self (fun a' U hW => word_at hW (Or.inl (by first | rfl | simp [Cond.onTables, Cond.keeps, Cond.steady])) (hw _ mf.2.1))
  obtain ⟨cellB, hcB, hoB, hclB⟩ := va_recv C.2.2.2.2.2.2.1 hP hcr her
  obtain ⟨hfc, kB, hkB, -⟩ := (C.2.2.2.2.2.2.1.1 ci qc hcr).2
  have hkc : cellB.cls = E.1.1 ci := Option.some.inj (hclB.symm.trans hfc)
  obtain ⟨mk, methM, hnamed, hmethM, hstM, habM⟩ := Cond.instanceMethod_spec (hw _ hyi)
  obtain ⟨methM', cM, hmethM', -, -, -, -, -, -, hsigM⟩ := Cond.code_spec hnamed (hw _ mf.1)
  cases hmethM.symm.trans hmethM'
  obtain ⟨ps, dk, kp, hps, hdk, hkp, hsuper, -, -, hnid⟩ := Cond.superclass_spec hown (hw _ hsu)
  obtain ⟨ps2, dk2, kp2, hps2, hdk2, hkp2, hsuper2, -, -, -⟩ := Cond.superclass_spec hps (hw _ hsu2)
  have hnm : s.methodNamed? ⟨y.cls, x.name, x.desc⟩ = some mk := by rw [← hyx]; exact hnamed
  have hpm : ps2 = mk.cls := Option.some.inj (hps2.symm.trans (findClass_of_methodNamed hnamed))
  have hdk2' : s.vm.classes[ps]? = some dk2 := hdk2
  have hsub : s.vm.isSubclass ps mk.cls = true := by
    have hlt : ps < s.vm.classes.size := (Array.getElem?_eq_some_iff.mp hdk2').1
    obtain ⟨f, hf⟩ : ∃ f, s.vm.classes.size = f + 1 := ⟨Nat.pred s.vm.classes.size, (Nat.succ_pred_eq_of_pos (Nat.lt_of_le_of_lt (Nat.zero_le _) hlt)).symm⟩
    rw [← hpm]
    simp [Vm.isSubclass, hf, Vm.isSubclassAux, hdk2', hsuper2]
  have hlen : As.length = methM.sig.parameters.length := by
    have h2 := mf.2.2.2.2
    rw [hsigM] at h2
    rw [hn]
    exact (Option.some.inj h2).symm
  obtain ⟨vm₁, X₁, hstep₁⟩ := X.invokespecialUp C.1 hown (hw _ hlk) (hw _ hsm) hnm hmethM hstM habM hno hdk hnid hps hsuper hsub (a := b) (cell := cellB) (by rw [hT]; exact hcB)
    (fun z h => by rw [h] at hoB; cases hoB) (kcell := kB) (by rw [hkc]; exact hkB) (g := F0 m pc ls (As.reverse ++ .ref b :: rest)) rfl (argsL := As) (rest := rest) hlen rfl (by rw [C.2.1]; exact hd)
  obtain ⟨v, B, X', ⟨g', mk', t, L, e1, e2, hq, h1, hL, h2, h3⟩, hsteps⟩ := hK m meth c ⟨T.setVm vm₁, locs, cells, slots⟩ { F0 m pc ls (As.reverse ++ .ref b :: rest) with stack := rest } (.invokespecial idx) mk (Value.ref b :: As).toArray X₁ rfl (hl.1.trans C.2.2.1.symm) (by rw [C.2.1]; exact hd) (lv_room hroom) (X₁.named hnamed) ⟨hf.1, hf.2, v_pre C is hC hnd hP hD hS (.ref b :: As) (T.setVm vm₁) hT X₁.warmed⟩
  obtain ⟨U', l2, c2, s2⟩ := B
  dsimp only [Pt.U, Pt.locs, Pt.cells, Pt.slots] at X' e1 e2 h1 h2 h3 hsteps
  subst h1; subst h2; subst h3
  exact ⟨v, (T.setVm vm₁).calling g' mk' (Value.ref b :: As).toArray, t, U', L, hT, X', hL, e1, e2, hq, fun target h => hstep₁ _ (by rw [doInvoke_state]; exact hsteps.trans h)⟩
end

theorem wcX6_forceAt : Cond.code yX6_forceAt cX6_forceAt 4 (some .int) ∈ gG := gG_in (tin2 (List.mem_of_getElem? (i := 110) rfl)) rfl
theorem wiX6 : Cond.initialized RX6 ∈ gG := gG_in (tin1 (List.mem_of_getElem? (i := 3) rfl)) rfl
theorem mfX6_forceAt : MF yX6_forceAt cX6_forceAt 4 (some .int) 2 := ⟨wcX6_forceAt, wiX6, by decide +kernel⟩
theorem wnX6_forceAt : Cond.instanceMethod yX6_forceAt ∈ gG := gG_in (tin2 (List.mem_of_getElem? (i := 88) rfl)) rfl
theorem wcX0_forceAt : Cond.code yX0_forceAt cX0_forceAt 3 (some .int) ∈ gG := gG_in (tin2 (List.mem_of_getElem? (i := 93) rfl)) rfl
theorem wiX0 : Cond.initialized RX0 ∈ gG := gG_in (tin1 (List.mem_of_getElem? (i := 4) rfl)) rfl
theorem mfX0_forceAt : MF yX0_forceAt cX0_forceAt 3 (some .int) 2 := ⟨wcX0_forceAt, wiX0, by decide +kernel⟩
theorem wnX0_forceAt : Cond.instanceMethod yX0_forceAt ∈ gG := gG_in (tin2 (List.mem_of_getElem? (i := 92) rfl)) rfl
theorem wcX3_forceAt : Cond.code yX3_forceAt cX3_forceAt 3 (some .int) ∈ gG := gG_in (tin2 (List.mem_of_getElem? (i := 100) rfl)) rfl
theorem wiX3 : Cond.initialized RX3 ∈ gG := gG_in (tin1 (List.mem_of_getElem? (i := 5) rfl)) rfl
theorem mfX3_forceAt : MF yX3_forceAt cX3_forceAt 3 (some .int) 2 := ⟨wcX3_forceAt, wiX3, by decide +kernel⟩
theorem wnX3_forceAt : Cond.instanceMethod yX3_forceAt ∈ gG := gG_in (tin2 (List.mem_of_getElem? (i := 99) rfl)) rfl
theorem wcX1_forceAt : Cond.code yX1_forceAt cX1_forceAt 3 (some .int) ∈ gG := gG_in (tin2 (List.mem_of_getElem? (i := 97) rfl)) rfl
theorem wiX1 : Cond.initialized RX1 ∈ gG := gG_in (tin1 (List.mem_of_getElem? (i := 7) rfl)) rfl
theorem mfX1_forceAt : MF yX1_forceAt cX1_forceAt 3 (some .int) 2 := ⟨wcX1_forceAt, wiX1, by decide +kernel⟩
theorem wnX1_forceAt : Cond.instanceMethod yX1_forceAt ∈ gG := gG_in (tin2 (List.mem_of_getElem? (i := 96) rfl)) rfl
theorem wcX10_forceAt : Cond.code yX10_forceAt cX10_forceAt 3 (some .int) ∈ gG := gG_in (tin2 (List.mem_of_getElem? (i := 106) rfl)) rfl
theorem wiX10 : Cond.initialized RX10 ∈ gG := gG_in (tin1 (List.mem_of_getElem? (i := 8) rfl)) rfl
theorem mfX10_forceAt : MF yX10_forceAt cX10_forceAt 3 (some .int) 2 := ⟨wcX10_forceAt, wiX10, by decide +kernel⟩
theorem wnX10_forceAt : Cond.instanceMethod yX10_forceAt ∈ gG := gG_in (tin2 (List.mem_of_getElem? (i := 105) rfl)) rfl
theorem wcX6_leavesInk : Cond.code yX6_leavesInk cX6_leavesInk 1 (some .boolean) ∈ gG := gG_in (tin2 (List.mem_of_getElem? (i := 126) rfl)) rfl
theorem mfX6_leavesInk : MF yX6_leavesInk cX6_leavesInk 1 (some .boolean) 0 := ⟨wcX6_leavesInk, wiX6, by decide +kernel⟩
theorem wnX6_leavesInk : Cond.instanceMethod yX6_leavesInk ∈ gG := gG_in (tin2 (List.mem_of_getElem? (i := 116) rfl)) rfl
theorem wcX9_leavesInk : Cond.code yX9_leavesInk cX9_leavesInk 1 (some .boolean) ∈ gG := gG_in (tin2 (List.mem_of_getElem? (i := 124) rfl)) rfl
theorem wiX9 : Cond.initialized RX9 ∈ gG := gG_in (tin1 (List.mem_of_getElem? (i := 6) rfl)) rfl
theorem mfX9_leavesInk : MF yX9_leavesInk cX9_leavesInk 1 (some .boolean) 0 := ⟨wcX9_leavesInk, wiX9, by decide +kernel⟩
theorem wnX9_leavesInk : Cond.instanceMethod yX9_leavesInk ∈ gG := gG_in (tin2 (List.mem_of_getElem? (i := 123) rfl)) rfl
theorem wcX5_penOf : Cond.code yX5_penOf cX5_penOf 2 (some (.object "PressedPad$Pencil")) ∈ gG := gG_in (tin2 (List.mem_of_getElem? (i := 86) rfl)) rfl
theorem mfX5_penOf : MF yX5_penOf cX5_penOf 2 (some (.object "PressedPad$Pencil")) 1 := ⟨wcX5_penOf, wiX5, by decide +kernel⟩
theorem wnX5_penOf : Cond.instanceMethod yX5_penOf ∈ gG := gG_in (tin2 (List.mem_of_getElem? (i := 85) rfl)) rfl
theorem wcX11_imageOf : Cond.code yX11_imageOf cX11_imageOf 2 (some (.object "PressedPad$Pad")) ∈ gG := gG_in (tin4 (List.mem_of_getElem? (i := 8) rfl)) rfl
theorem mfX11_imageOf : MF yX11_imageOf cX11_imageOf 2 (some (.object "PressedPad$Pad")) 1 := ⟨wcX11_imageOf, wiX11, by decide +kernel⟩
theorem wnX11_imageOf : Cond.instanceMethod yX11_imageOf ∈ gG := gG_in (tin4 (List.mem_of_getElem? (i := 7) rfl)) rfl
theorem wcJ0_length_8abf5 : Cond.code yJ0_length_8abf5 cJ0_length_8abf5 1 (some .int) ∈ gG := gG_in (tin2 (List.mem_of_getElem? (i := 213) rfl)) rfl
theorem wiJ0 : Cond.initialized RJ0 ∈ gG := gG_in (tin1 (List.mem_of_getElem? (i := 15) rfl)) rfl
theorem mfJ0_length_8abf5 : MF yJ0_length_8abf5 cJ0_length_8abf5 1 (some .int) 0 := ⟨wcJ0_length_8abf5, wiJ0, by decide +kernel⟩
theorem wnJ0_length_8abf5 : Cond.instanceMethod yJ0_length_8abf5 ∈ gG := gG_in (tin2 (List.mem_of_getElem? (i := 211) rfl)) rfl
theorem wcJ0_charAt_5068e : Cond.code yJ0_charAt_5068e cJ0_charAt_5068e 2 (some .char) ∈ gG := gG_in (tin2 (List.mem_of_getElem? (i := 223) rfl)) rfl
theorem mfJ0_charAt_5068e : MF yJ0_charAt_5068e cJ0_charAt_5068e 2 (some .char) 1 := ⟨wcJ0_charAt_5068e, wiJ0, by decide +kernel⟩
theorem wnJ0_charAt_5068e : Cond.instanceMethod yJ0_charAt_5068e ∈ gG := gG_in (tin2 (List.mem_of_getElem? (i := 221) rfl)) rfl
theorem wcJ0_coder_7d493 : Cond.code yJ0_coder_7d493 cJ0_coder_7d493 1 (some .byte) ∈ gG := gG_in (tin2 (List.mem_of_getElem? (i := 217) rfl)) rfl
theorem mfJ0_coder_7d493 : MF yJ0_coder_7d493 cJ0_coder_7d493 1 (some .byte) 0 := ⟨wcJ0_coder_7d493, wiJ0, by decide +kernel⟩
theorem wnJ0_coder_7d493 : Cond.instanceMethod yJ0_coder_7d493 ∈ gG := gG_in (tin2 (List.mem_of_getElem? (i := 215) rfl)) rfl
theorem wcJ0_isLatin1_aae02 : Cond.code yJ0_isLatin1_aae02 cJ0_isLatin1_aae02 1 (some .boolean) ∈ gG := gG_in (tin2 (List.mem_of_getElem? (i := 227) rfl)) rfl
theorem mfJ0_isLatin1_aae02 : MF yJ0_isLatin1_aae02 cJ0_isLatin1_aae02 1 (some .boolean) 0 := ⟨wcJ0_isLatin1_aae02, wiJ0, by decide +kernel⟩
theorem wnJ0_isLatin1_aae02 : Cond.instanceMethod yJ0_isLatin1_aae02 ∈ gG := gG_in (tin2 (List.mem_of_getElem? (i := 225) rfl)) rfl
theorem wcJ0_checkIndex_df160 : Cond.code yJ0_checkIndex_df160 cJ0_checkIndex_df160 2 none ∈ gG := gG_in (tin2 (List.mem_of_getElem? (i := 233) rfl)) rfl
theorem mfJ0_checkIndex_df160 : MF yJ0_checkIndex_df160 cJ0_checkIndex_df160 2 none 2 := ⟨wcJ0_checkIndex_df160, wiJ0, by decide +kernel⟩
theorem wtJ0_checkIndex_df160 : Cond.static yJ0_checkIndex_df160 ∈ gG := gG_in (tin2 (List.mem_of_getElem? (i := 232) rfl)) rfl
theorem wcJ1_charAt_3b067 : Cond.code yJ1_charAt_3b067 cJ1_charAt_3b067 2 (some .char) ∈ gG := gG_in (tin2 (List.mem_of_getElem? (i := 230) rfl)) rfl
theorem wiJ1 : Cond.initialized RJ1 ∈ gG := gG_in (tin1 (List.mem_of_getElem? (i := 16) rfl)) rfl
theorem mfJ1_charAt_3b067 : MF yJ1_charAt_3b067 cJ1_charAt_3b067 2 (some .char) 2 := ⟨wcJ1_charAt_3b067, wiJ1, by decide +kernel⟩
theorem wtJ1_charAt_3b067 : Cond.static yJ1_charAt_3b067 ∈ gG := gG_in (tin2 (List.mem_of_getElem? (i := 229) rfl)) rfl
theorem wcJ3_checkIndex_8e157 : Cond.code yJ3_checkIndex_8e157 cJ3_checkIndex_8e157 3 (some .int) ∈ gG := gG_in (tin2 (List.mem_of_getElem? (i := 238) rfl)) rfl
theorem wiJ3 : Cond.initialized RJ3 ∈ gG := gG_in (tin1 (List.mem_of_getElem? (i := 17) rfl)) rfl
theorem mfJ3_checkIndex_8e157 : MF yJ3_checkIndex_8e157 cJ3_checkIndex_8e157 3 (some .int) 3 := ⟨wcJ3_checkIndex_8e157, wiJ3, by decide +kernel⟩
theorem wtJ3_checkIndex_8e157 : Cond.static yJ3_checkIndex_8e157 ∈ gG := gG_in (tin2 (List.mem_of_getElem? (i := 237) rfl)) rfl
theorem wmX0_7 : Cond.methodLink RX0 7 yX6_forceAt ∈ gG := gG_in (tin2 (List.mem_of_getElem? (i := 94) rfl)) rfl
theorem wmX3_7 : Cond.methodLink RX3 7 yX6_forceAt ∈ gG := gG_in (tin2 (List.mem_of_getElem? (i := 101) rfl)) rfl
theorem wmX1_7 : Cond.methodLink RX1 7 yX3_forceAt ∈ gG := gG_in (tin2 (List.mem_of_getElem? (i := 98) rfl)) rfl
theorem wmX10_7 : Cond.methodLink RX10 7 (⟨RX9, "forceAt", "(II)I"⟩ : MethodName) ∈ gG := gG_in (tin2 (List.mem_of_getElem? (i := 107) rfl)) rfl
theorem wmX5_31 : Cond.methodLink RX5 31 yX5_penOf ∈ gG := gG_in (tin2 (List.mem_of_getElem? (i := 83) rfl)) rfl
theorem wmX5_35 : Cond.methodLink RX5 35 yX6_forceAt ∈ gG := gG_in (tin2 (List.mem_of_getElem? (i := 87) rfl)) rfl
theorem wmX5_39 : Cond.methodLink RX5 39 yX6_leavesInk ∈ gG := gG_in (tin2 (List.mem_of_getElem? (i := 115) rfl)) rfl
theorem wzX6_X6_forceAt_X6_forceAt : Cond.selects RX6 yX6_forceAt yX6_forceAt ∈ gG := gG_in (tin2 (List.mem_of_getElem? (i := 89) rfl)) rfl
theorem wzX0_X6_forceAt_X0_forceAt : Cond.selects RX0 yX6_forceAt yX0_forceAt ∈ gG := gG_in (tin2 (List.mem_of_getElem? (i := 91) rfl)) rfl
theorem wzX3_X6_forceAt_X3_forceAt : Cond.selects RX3 yX6_forceAt yX3_forceAt ∈ gG := gG_in (tin2 (List.mem_of_getElem? (i := 102) rfl)) rfl
theorem wzX9_X6_forceAt_X0_forceAt : Cond.selects RX9 yX6_forceAt yX0_forceAt ∈ gG := gG_in (tin2 (List.mem_of_getElem? (i := 103) rfl)) rfl
theorem wzX1_X6_forceAt_X1_forceAt : Cond.selects RX1 yX6_forceAt yX1_forceAt ∈ gG := gG_in (tin2 (List.mem_of_getElem? (i := 95) rfl)) rfl
theorem wzX10_X6_forceAt_X10_forceAt : Cond.selects RX10 yX6_forceAt yX10_forceAt ∈ gG := gG_in (tin2 (List.mem_of_getElem? (i := 104) rfl)) rfl
theorem wzX6_X6_leavesInk_X6_leavesInk : Cond.selects RX6 yX6_leavesInk yX6_leavesInk ∈ gG := gG_in (tin2 (List.mem_of_getElem? (i := 117) rfl)) rfl
theorem wzX0_X6_leavesInk_X6_leavesInk : Cond.selects RX0 yX6_leavesInk yX6_leavesInk ∈ gG := gG_in (tin2 (List.mem_of_getElem? (i := 119) rfl)) rfl
theorem wzX3_X6_leavesInk_X6_leavesInk : Cond.selects RX3 yX6_leavesInk yX6_leavesInk ∈ gG := gG_in (tin2 (List.mem_of_getElem? (i := 121) rfl)) rfl
theorem wzX9_X6_leavesInk_X9_leavesInk : Cond.selects RX9 yX6_leavesInk yX9_leavesInk ∈ gG := gG_in (tin2 (List.mem_of_getElem? (i := 122) rfl)) rfl
theorem wzX1_X6_leavesInk_X6_leavesInk : Cond.selects RX1 yX6_leavesInk yX6_leavesInk ∈ gG := gG_in (tin2 (List.mem_of_getElem? (i := 120) rfl)) rfl
theorem wzX10_X6_leavesInk_X9_leavesInk : Cond.selects RX10 yX6_leavesInk yX9_leavesInk ∈ gG := gG_in (tin2 (List.mem_of_getElem? (i := 125) rfl)) rfl
theorem wzX5_X5_penOf_X5_penOf : Cond.selects RX5 yX5_penOf yX5_penOf ∈ gG := gG_in (tinp (List.mem_of_getElem? (i := 3) rfl)) rfl
theorem wzX11_X11_imageOf_X11_imageOf : Cond.selects RX11 yX11_imageOf yX11_imageOf ∈ gG := gG_in (tinp (List.mem_of_getElem? (i := 22) rfl)) rfl
theorem wqX6f : Cond.sameMethod RX6 RX6 "forceAt" "(II)I" ∈ gG := gG_in (tin2 (List.mem_of_getElem? (i := 90) rfl)) rfl
theorem wqX9f : Cond.sameMethod RX9 RX0 "forceAt" "(II)I" ∈ gG := gG_in (tin2 (List.mem_of_getElem? (i := 108) rfl)) rfl
theorem wqX6i : Cond.sameMethod RX6 RX6 "leavesInk" "()Z" ∈ gG := gG_in (tin2 (List.mem_of_getElem? (i := 118) rfl)) rfl
theorem wqX3f : Cond.sameMethod RX3 RX3 "forceAt" "(II)I" ∈ gG := gG_in (tin5 (List.mem_of_getElem? (i := 183) rfl)) rfl
theorem wuX0 : Cond.superclass RX0 RX6 ∈ gG := gG_in (tin1 (List.mem_of_getElem? (i := 48) rfl)) rfl
theorem wuX3 : Cond.superclass RX3 RX6 ∈ gG := gG_in (tin1 (List.mem_of_getElem? (i := 55) rfl)) rfl
theorem wuX9 : Cond.superclass RX9 RX0 ∈ gG := gG_in (tin1 (List.mem_of_getElem? (i := 62) rfl)) rfl
theorem wuX1 : Cond.superclass RX1 RX3 ∈ gG := gG_in (tin1 (List.mem_of_getElem? (i := 69) rfl)) rfl
theorem wuX10 : Cond.superclass RX10 RX9 ∈ gG := gG_in (tin1 (List.mem_of_getElem? (i := 76) rfl)) rfl
theorem wzJ0_J0_length_8abf5_J0_length_8abf5 : Cond.selects RJ0 yJ0_length_8abf5 yJ0_length_8abf5 ∈ gG := gG_in (tin2 (List.mem_of_getElem? (i := 212) rfl)) rfl
theorem wzJ0_J0_charAt_5068e_J0_charAt_5068e : Cond.selects RJ0 yJ0_charAt_5068e yJ0_charAt_5068e ∈ gG := gG_in (tin2 (List.mem_of_getElem? (i := 222) rfl)) rfl
theorem wzJ0_J0_coder_7d493_J0_coder_7d493 : Cond.selects RJ0 yJ0_coder_7d493 yJ0_coder_7d493 ∈ gG := gG_in (tin2 (List.mem_of_getElem? (i := 216) rfl)) rfl
theorem wzJ0_J0_isLatin1_aae02_J0_isLatin1_aae02 : Cond.selects RJ0 yJ0_isLatin1_aae02 yJ0_isLatin1_aae02 ∈ gG := gG_in (tin2 (List.mem_of_getElem? (i := 226) rfl)) rfl
theorem wmJ0_335 : Cond.methodLink RJ0 335 yJ0_coder_7d493 ∈ gG := gG_in (tin2 (List.mem_of_getElem? (i := 214) rfl)) rfl
theorem wmJ0_492 : Cond.methodLink RJ0 492 yJ0_isLatin1_aae02 ∈ gG := gG_in (tin2 (List.mem_of_getElem? (i := 224) rfl)) rfl
theorem wmJ0_495 : Cond.methodLink RJ0 495 yJ1_charAt_3b067 ∈ gG := gG_in (tin2 (List.mem_of_getElem? (i := 228) rfl)) rfl
theorem wmJ1_9 : Cond.methodLink RJ1 9 yJ0_checkIndex_df160 ∈ gG := gG_in (tin2 (List.mem_of_getElem? (i := 231) rfl)) rfl
theorem wmJ0_1059 : Cond.methodLink RJ0 1059 yJ3_checkIndex_8e157 ∈ gG := gG_in (tin2 (List.mem_of_getElem? (i := 236) rfl)) rfl
theorem wfJ0_38 : Cond.fieldLink "java/lang/String" 38 "java/lang/String" "COMPACT_STRINGS" "Z" ∈ gG := gG_in (tin2 (List.mem_of_getElem? (i := 218) rfl)) rfl
theorem wfJ0_1053 : Cond.fieldLink "java/lang/String" 1053 "jdk/internal/util/Preconditions" "SIOOBE_FORMATTER" "Ljava/util/function/BiFunction;" ∈ gG := gG_in (tin2 (List.mem_of_getElem? (i := 234) rfl)) rfl
theorem wfJ0_9 : Cond.fieldLink "java/lang/String" 9 "java/lang/String" "value" "[B" ∈ gG := gG_in (tin5 (List.mem_of_getElem? (i := 189) rfl)) rfl
theorem wfJ0_15 : Cond.fieldLink "java/lang/String" 15 "java/lang/String" "coder" "B" ∈ gG := gG_in (tin5 (List.mem_of_getElem? (i := 190) rfl)) rfl
theorem wfX11_26 : Cond.fieldLink RX11 26 (TX11 3).1 (TX11 3).2.1 (TX11 3).2.2.1 ∈ gG := gG_in (tin1 (List.mem_of_getElem? (i := 219) rfl)) rfl
theorem wfX11_29 : Cond.fieldLink RX11 29 (TX11 4).1 (TX11 4).2.1 (TX11 4).2.2.1 ∈ gG := gG_in (tin1 (List.mem_of_getElem? (i := 220) rfl)) rfl
theorem wfX5_25 : Cond.fieldLink RX5 25 (TX5 0).1 (TX5 0).2.1 (TX5 0).2.2.1 ∈ gG := gG_in (tin1 (List.mem_of_getElem? (i := 77) rfl)) rfl
theorem wyX5_0 : Cond.laysFinal "PressedPad$PenBox" "PressedPad$PenBox" "pens" "[LPressedPad$Pencil;" ∈ gG := gG_in (tin1 (List.mem_of_getElem? (i := 78) rfl)) rfl
theorem cuX5 : ∀ w ∈ u_ws RX5 TX5 1, w ∈ gG := List.forall_mem_cons.mpr ⟨wyX5_0, fun _ h => absurd h List.not_mem_nil⟩
theorem cfX5 : CF RX5 TX5 1 tyX5 := ⟨cuX5, tyX5_ok, nmX5⟩
theorem ks_255 : (Int16.ofInt 255).toInt32 = (255 : Int32) := by decide +kernel
theorem dX6_forceAt_0 : decode cX6_forceAt 0 = .ok (.iload_n 1, 1) := by decide +kernel
theorem dX6_forceAt_1 : decode cX6_forceAt 1 = .ok (.iload_n 2, 1) := by decide +kernel
theorem dX6_forceAt_2 : decode cX6_forceAt 2 = .ok (.isub, 1) := by decide +kernel
theorem dX6_forceAt_3 : decode cX6_forceAt 3 = .ok (.istore_n 3, 1) := by decide +kernel
theorem dX6_forceAt_4 : decode cX6_forceAt 4 = .ok (.iload_n 3, 1) := by decide +kernel
theorem dX6_forceAt_5 : decode cX6_forceAt 5 = .ok (.ifCond .ge 7, 3) := by decide +kernel
theorem dX6_forceAt_8 : decode cX6_forceAt 8 = .ok (.iconst 0, 1) := by decide +kernel
theorem dX6_forceAt_9 : decode cX6_forceAt 9 = .ok (.goto 15, 3) := by decide +kernel
theorem dX6_forceAt_12 : decode cX6_forceAt 12 = .ok (.iload_n 3, 1) := by decide +kernel
theorem dX6_forceAt_13 : decode cX6_forceAt 13 = .ok (.bipush 9, 2) := by decide +kernel
theorem dX6_forceAt_15 : decode cX6_forceAt 15 = .ok (.if_icmp .le 8, 3) := by decide +kernel
theorem dX6_forceAt_18 : decode cX6_forceAt 18 = .ok (.bipush 9, 2) := by decide +kernel
theorem dX6_forceAt_20 : decode cX6_forceAt 20 = .ok (.goto 4, 3) := by decide +kernel
theorem dX6_forceAt_23 : decode cX6_forceAt 23 = .ok (.iload_n 3, 1) := by decide +kernel
theorem dX6_forceAt_24 : decode cX6_forceAt 24 = .ok (.ireturn, 1) := by decide +kernel
theorem dX0_forceAt_0 : decode cX0_forceAt 0 = .ok (.aload_n 0, 1) := by decide +kernel
theorem dX0_forceAt_1 : decode cX0_forceAt 1 = .ok (.iload_n 1, 1) := by decide +kernel
theorem dX0_forceAt_2 : decode cX0_forceAt 2 = .ok (.iconst 1, 1) := by decide +kernel
theorem dX0_forceAt_3 : decode cX0_forceAt 3 = .ok (.iadd, 1) := by decide +kernel
theorem dX0_forceAt_4 : decode cX0_forceAt 4 = .ok (.iload_n 2, 1) := by decide +kernel
theorem dX0_forceAt_5 : decode cX0_forceAt 5 = .ok (.invokespecial 7, 3) := by decide +kernel
theorem dX0_forceAt_8 : decode cX0_forceAt 8 = .ok (.ireturn, 1) := by decide +kernel
theorem dX3_forceAt_0 : decode cX3_forceAt 0 = .ok (.aload_n 0, 1) := by decide +kernel
theorem dX3_forceAt_1 : decode cX3_forceAt 1 = .ok (.iload_n 1, 1) := by decide +kernel
theorem dX3_forceAt_2 : decode cX3_forceAt 2 = .ok (.iload_n 2, 1) := by decide +kernel
theorem dX3_forceAt_3 : decode cX3_forceAt 3 = .ok (.invokespecial 7, 3) := by decide +kernel
theorem dX3_forceAt_6 : decode cX3_forceAt 6 = .ok (.iconst 2, 1) := by decide +kernel
theorem dX3_forceAt_7 : decode cX3_forceAt 7 = .ok (.idiv, 1) := by decide +kernel
theorem dX3_forceAt_8 : decode cX3_forceAt 8 = .ok (.ireturn, 1) := by decide +kernel
theorem dX1_forceAt_0 : decode cX1_forceAt 0 = .ok (.iload_n 2, 1) := by decide +kernel
theorem dX1_forceAt_1 : decode cX1_forceAt 1 = .ok (.iconst 1, 1) := by decide +kernel
theorem dX1_forceAt_2 : decode cX1_forceAt 2 = .ok (.if_icmp .le 7, 3) := by decide +kernel
theorem dX1_forceAt_5 : decode cX1_forceAt 5 = .ok (.iconst 0, 1) := by decide +kernel
theorem dX1_forceAt_6 : decode cX1_forceAt 6 = .ok (.goto 9, 3) := by decide +kernel
theorem dX1_forceAt_9 : decode cX1_forceAt 9 = .ok (.aload_n 0, 1) := by decide +kernel
theorem dX1_forceAt_10 : decode cX1_forceAt 10 = .ok (.iload_n 1, 1) := by decide +kernel
theorem dX1_forceAt_11 : decode cX1_forceAt 11 = .ok (.iload_n 2, 1) := by decide +kernel
theorem dX1_forceAt_12 : decode cX1_forceAt 12 = .ok (.invokespecial 7, 3) := by decide +kernel
theorem dX1_forceAt_15 : decode cX1_forceAt 15 = .ok (.ireturn, 1) := by decide +kernel
theorem dX10_forceAt_0 : decode cX10_forceAt 0 = .ok (.aload_n 0, 1) := by decide +kernel
theorem dX10_forceAt_1 : decode cX10_forceAt 1 = .ok (.iload_n 1, 1) := by decide +kernel
theorem dX10_forceAt_2 : decode cX10_forceAt 2 = .ok (.iload_n 2, 1) := by decide +kernel
theorem dX10_forceAt_3 : decode cX10_forceAt 3 = .ok (.iconst 2, 1) := by decide +kernel
theorem dX10_forceAt_4 : decode cX10_forceAt 4 = .ok (.idiv, 1) := by decide +kernel
theorem dX10_forceAt_5 : decode cX10_forceAt 5 = .ok (.invokespecial 7, 3) := by decide +kernel
theorem dX10_forceAt_8 : decode cX10_forceAt 8 = .ok (.ireturn, 1) := by decide +kernel
theorem dX6_leavesInk_0 : decode cX6_leavesInk 0 = .ok (.iconst 1, 1) := by decide +kernel
theorem dX6_leavesInk_1 : decode cX6_leavesInk 1 = .ok (.ireturn, 1) := by decide +kernel
theorem dX9_leavesInk_0 : decode cX9_leavesInk 0 = .ok (.iconst 0, 1) := by decide +kernel
theorem dX9_leavesInk_1 : decode cX9_leavesInk 1 = .ok (.ireturn, 1) := by decide +kernel
theorem dX5_penOf_0 : decode cX5_penOf 0 = .ok (.iload_n 1, 1) := by decide +kernel
theorem dX5_penOf_1 : decode cX5_penOf 1 = .ok (.ifCond .lt 21, 3) := by decide +kernel
theorem dX5_penOf_4 : decode cX5_penOf 4 = .ok (.iload_n 1, 1) := by decide +kernel
theorem dX5_penOf_5 : decode cX5_penOf 5 = .ok (.aload_n 0, 1) := by decide +kernel
theorem dX5_penOf_6 : decode cX5_penOf 6 = .ok (.getfield 25, 3) := by decide +kernel
theorem dX5_penOf_9 : decode cX5_penOf 9 = .ok (.arraylength, 1) := by decide +kernel
theorem dX5_penOf_10 : decode cX5_penOf 10 = .ok (.if_icmp .ge 12, 3) := by decide +kernel
theorem dX5_penOf_13 : decode cX5_penOf 13 = .ok (.aload_n 0, 1) := by decide +kernel
theorem dX5_penOf_14 : decode cX5_penOf 14 = .ok (.getfield 25, 3) := by decide +kernel
theorem dX5_penOf_17 : decode cX5_penOf 17 = .ok (.iload_n 1, 1) := by decide +kernel
theorem dX5_penOf_18 : decode cX5_penOf 18 = .ok (.aaload, 1) := by decide +kernel
theorem dX5_penOf_19 : decode cX5_penOf 19 = .ok (.goto 4, 3) := by decide +kernel
theorem dX5_penOf_22 : decode cX5_penOf 22 = .ok (.aconst_null, 1) := by decide +kernel
theorem dX5_penOf_23 : decode cX5_penOf 23 = .ok (.areturn, 1) := by decide +kernel
theorem dX5_forceOf_0 : decode cX5_forceOf 0 = .ok (.aload_n 0, 1) := by decide +kernel
theorem dX5_forceOf_1 : decode cX5_forceOf 1 = .ok (.iload_n 1, 1) := by decide +kernel
theorem dX5_forceOf_2 : decode cX5_forceOf 2 = .ok (.invokevirtual 31, 3) := by decide +kernel
theorem dX5_forceOf_5 : decode cX5_forceOf 5 = .ok (.astore 4, 2) := by decide +kernel
theorem dX5_forceOf_7 : decode cX5_forceOf 7 = .ok (.aload 4, 2) := by decide +kernel
theorem dX5_forceOf_9 : decode cX5_forceOf 9 = .ok (.ifnonnull 7, 3) := by decide +kernel
theorem dX5_forceOf_12 : decode cX5_forceOf 12 = .ok (.iconst 0, 1) := by decide +kernel
theorem dX5_forceOf_13 : decode cX5_forceOf 13 = .ok (.goto 10, 3) := by decide +kernel
theorem dX5_forceOf_16 : decode cX5_forceOf 16 = .ok (.aload 4, 2) := by decide +kernel
theorem dX5_forceOf_18 : decode cX5_forceOf 18 = .ok (.iload_n 2, 1) := by decide +kernel
theorem dX5_forceOf_19 : decode cX5_forceOf 19 = .ok (.iload_n 3, 1) := by decide +kernel
theorem dX5_forceOf_20 : decode cX5_forceOf 20 = .ok (.invokevirtual 35, 3) := by decide +kernel
theorem dX5_forceOf_23 : decode cX5_forceOf 23 = .ok (.ireturn, 1) := by decide +kernel
theorem dX5_hasInk_0 : decode cX5_hasInk 0 = .ok (.aload_n 0, 1) := by decide +kernel
theorem dX5_hasInk_1 : decode cX5_hasInk 1 = .ok (.iload_n 1, 1) := by decide +kernel
theorem dX5_hasInk_2 : decode cX5_hasInk 2 = .ok (.invokevirtual 31, 3) := by decide +kernel
theorem dX5_hasInk_5 : decode cX5_hasInk 5 = .ok (.astore_n 2, 1) := by decide +kernel
theorem dX5_hasInk_6 : decode cX5_hasInk 6 = .ok (.aload_n 2, 1) := by decide +kernel
theorem dX5_hasInk_7 : decode cX5_hasInk 7 = .ok (.ifnull 14, 3) := by decide +kernel
theorem dX5_hasInk_10 : decode cX5_hasInk 10 = .ok (.aload_n 2, 1) := by decide +kernel
theorem dX5_hasInk_11 : decode cX5_hasInk 11 = .ok (.invokevirtual 39, 3) := by decide +kernel
theorem dX5_hasInk_14 : decode cX5_hasInk 14 = .ok (.ifCond .eq 7, 3) := by decide +kernel
theorem dX5_hasInk_17 : decode cX5_hasInk 17 = .ok (.iconst 1, 1) := by decide +kernel
theorem dX5_hasInk_18 : decode cX5_hasInk 18 = .ok (.goto 4, 3) := by decide +kernel
theorem dX5_hasInk_21 : decode cX5_hasInk 21 = .ok (.iconst 0, 1) := by decide +kernel
theorem dX5_hasInk_22 : decode cX5_hasInk 22 = .ok (.ireturn, 1) := by decide +kernel
theorem dX11_imageOf_0 : decode cX11_imageOf 0 = .ok (.iload_n 1, 1) := by decide +kernel
theorem dX11_imageOf_1 : decode cX11_imageOf 1 = .ok (.ifCond .ne 10, 3) := by decide +kernel
theorem dX11_imageOf_4 : decode cX11_imageOf 4 = .ok (.aload_n 0, 1) := by decide +kernel
theorem dX11_imageOf_5 : decode cX11_imageOf 5 = .ok (.getfield 26, 3) := by decide +kernel
theorem dX11_imageOf_8 : decode cX11_imageOf 8 = .ok (.goto 7, 3) := by decide +kernel
theorem dX11_imageOf_11 : decode cX11_imageOf 11 = .ok (.aload_n 0, 1) := by decide +kernel
theorem dX11_imageOf_12 : decode cX11_imageOf 12 = .ok (.getfield 29, 3) := by decide +kernel
theorem dX11_imageOf_15 : decode cX11_imageOf 15 = .ok (.areturn, 1) := by decide +kernel
theorem dJ0_length_8abf5_0 : decode cJ0_length_8abf5 0 = .ok (.aload_n 0, 1) := by decide +kernel
theorem dJ0_length_8abf5_1 : decode cJ0_length_8abf5 1 = .ok (.getfield 9, 3) := by decide +kernel
theorem dJ0_length_8abf5_4 : decode cJ0_length_8abf5 4 = .ok (.arraylength, 1) := by decide +kernel
theorem dJ0_length_8abf5_5 : decode cJ0_length_8abf5 5 = .ok (.aload_n 0, 1) := by decide +kernel
theorem dJ0_length_8abf5_6 : decode cJ0_length_8abf5 6 = .ok (.invokevirtual 335, 3) := by decide +kernel
theorem dJ0_length_8abf5_9 : decode cJ0_length_8abf5 9 = .ok (.ishr, 1) := by decide +kernel
theorem dJ0_length_8abf5_10 : decode cJ0_length_8abf5 10 = .ok (.ireturn, 1) := by decide +kernel
theorem dJ0_charAt_5068e_0 : decode cJ0_charAt_5068e 0 = .ok (.aload_n 0, 1) := by decide +kernel
theorem dJ0_charAt_5068e_1 : decode cJ0_charAt_5068e 1 = .ok (.invokevirtual 492, 3) := by decide +kernel
theorem dJ0_charAt_5068e_4 : decode cJ0_charAt_5068e 4 = .ok (.ifCond .eq 12, 3) := by decide +kernel
theorem dJ0_charAt_5068e_7 : decode cJ0_charAt_5068e 7 = .ok (.aload_n 0, 1) := by decide +kernel
theorem dJ0_charAt_5068e_8 : decode cJ0_charAt_5068e 8 = .ok (.getfield 9, 3) := by decide +kernel
theorem dJ0_charAt_5068e_11 : decode cJ0_charAt_5068e 11 = .ok (.iload_n 1, 1) := by decide +kernel
theorem dJ0_charAt_5068e_12 : decode cJ0_charAt_5068e 12 = .ok (.invokestatic 495, 3) := by decide +kernel
theorem dJ0_charAt_5068e_15 : decode cJ0_charAt_5068e 15 = .ok (.ireturn, 1) := by decide +kernel
theorem dJ0_charAt_5068e_16 : decode cJ0_charAt_5068e 16 = .ok (.aload_n 0, 1) := by decide +kernel
theorem dJ0_charAt_5068e_17 : decode cJ0_charAt_5068e 17 = .ok (.getfield 9, 3) := by decide +kernel
theorem dJ0_charAt_5068e_20 : decode cJ0_charAt_5068e 20 = .ok (.iload_n 1, 1) := by decide +kernel
theorem dJ0_charAt_5068e_21 : decode cJ0_charAt_5068e 21 = .ok (.invokestatic 498, 3) := by decide +kernel
theorem dJ0_charAt_5068e_24 : decode cJ0_charAt_5068e 24 = .ok (.ireturn, 1) := by decide +kernel
theorem dJ0_coder_7d493_0 : decode cJ0_coder_7d493 0 = .ok (.getstatic 38, 3) := by decide +kernel
theorem dJ0_coder_7d493_3 : decode cJ0_coder_7d493 3 = .ok (.ifCond .eq 10, 3) := by decide +kernel
theorem dJ0_coder_7d493_6 : decode cJ0_coder_7d493 6 = .ok (.aload_n 0, 1) := by decide +kernel
theorem dJ0_coder_7d493_7 : decode cJ0_coder_7d493 7 = .ok (.getfield 15, 3) := by decide +kernel
theorem dJ0_coder_7d493_10 : decode cJ0_coder_7d493 10 = .ok (.goto 4, 3) := by decide +kernel
theorem dJ0_coder_7d493_13 : decode cJ0_coder_7d493 13 = .ok (.iconst 1, 1) := by decide +kernel
theorem dJ0_coder_7d493_14 : decode cJ0_coder_7d493 14 = .ok (.ireturn, 1) := by decide +kernel
theorem dJ0_isLatin1_aae02_0 : decode cJ0_isLatin1_aae02 0 = .ok (.getstatic 38, 3) := by decide +kernel
theorem dJ0_isLatin1_aae02_3 : decode cJ0_isLatin1_aae02 3 = .ok (.ifCond .eq 14, 3) := by decide +kernel
theorem dJ0_isLatin1_aae02_6 : decode cJ0_isLatin1_aae02 6 = .ok (.aload_n 0, 1) := by decide +kernel
theorem dJ0_isLatin1_aae02_7 : decode cJ0_isLatin1_aae02 7 = .ok (.getfield 15, 3) := by decide +kernel
theorem dJ0_isLatin1_aae02_10 : decode cJ0_isLatin1_aae02 10 = .ok (.ifCond .ne 7, 3) := by decide +kernel
theorem dJ0_isLatin1_aae02_13 : decode cJ0_isLatin1_aae02 13 = .ok (.iconst 1, 1) := by decide +kernel
theorem dJ0_isLatin1_aae02_14 : decode cJ0_isLatin1_aae02 14 = .ok (.goto 4, 3) := by decide +kernel
theorem dJ0_isLatin1_aae02_17 : decode cJ0_isLatin1_aae02 17 = .ok (.iconst 0, 1) := by decide +kernel
theorem dJ0_isLatin1_aae02_18 : decode cJ0_isLatin1_aae02 18 = .ok (.ireturn, 1) := by decide +kernel
theorem dJ0_checkIndex_df160_0 : decode cJ0_checkIndex_df160 0 = .ok (.iload_n 0, 1) := by decide +kernel
theorem dJ0_checkIndex_df160_1 : decode cJ0_checkIndex_df160 1 = .ok (.iload_n 1, 1) := by decide +kernel
theorem dJ0_checkIndex_df160_2 : decode cJ0_checkIndex_df160 2 = .ok (.getstatic 1053, 3) := by decide +kernel
theorem dJ0_checkIndex_df160_5 : decode cJ0_checkIndex_df160 5 = .ok (.invokestatic 1059, 3) := by decide +kernel
theorem dJ0_checkIndex_df160_8 : decode cJ0_checkIndex_df160 8 = .ok (.pop, 1) := by decide +kernel
theorem dJ0_checkIndex_df160_9 : decode cJ0_checkIndex_df160 9 = .ok (.return_, 1) := by decide +kernel
theorem dJ1_charAt_3b067_0 : decode cJ1_charAt_3b067 0 = .ok (.iload_n 1, 1) := by decide +kernel
theorem dJ1_charAt_3b067_1 : decode cJ1_charAt_3b067 1 = .ok (.aload_n 0, 1) := by decide +kernel
theorem dJ1_charAt_3b067_2 : decode cJ1_charAt_3b067 2 = .ok (.arraylength, 1) := by decide +kernel
theorem dJ1_charAt_3b067_3 : decode cJ1_charAt_3b067 3 = .ok (.invokestatic 9, 3) := by decide +kernel
theorem dJ1_charAt_3b067_6 : decode cJ1_charAt_3b067 6 = .ok (.aload_n 0, 1) := by decide +kernel
theorem dJ1_charAt_3b067_7 : decode cJ1_charAt_3b067 7 = .ok (.iload_n 1, 1) := by decide +kernel
theorem dJ1_charAt_3b067_8 : decode cJ1_charAt_3b067 8 = .ok (.baload, 1) := by decide +kernel
theorem dJ1_charAt_3b067_9 : decode cJ1_charAt_3b067 9 = .ok (.sipush 255, 3) := by decide +kernel
theorem dJ1_charAt_3b067_12 : decode cJ1_charAt_3b067 12 = .ok (.iand, 1) := by decide +kernel
theorem dJ1_charAt_3b067_13 : decode cJ1_charAt_3b067 13 = .ok (.i2c, 1) := by decide +kernel
theorem dJ1_charAt_3b067_14 : decode cJ1_charAt_3b067 14 = .ok (.ireturn, 1) := by decide +kernel
theorem dJ3_checkIndex_8e157_0 : decode cJ3_checkIndex_8e157 0 = .ok (.iload_n 0, 1) := by decide +kernel
theorem dJ3_checkIndex_8e157_1 : decode cJ3_checkIndex_8e157 1 = .ok (.ifCond .lt 8, 3) := by decide +kernel
theorem dJ3_checkIndex_8e157_4 : decode cJ3_checkIndex_8e157 4 = .ok (.iload_n 0, 1) := by decide +kernel
theorem dJ3_checkIndex_8e157_5 : decode cJ3_checkIndex_8e157 5 = .ok (.iload_n 1, 1) := by decide +kernel
theorem dJ3_checkIndex_8e157_6 : decode cJ3_checkIndex_8e157 6 = .ok (.if_icmp .lt 10, 3) := by decide +kernel
theorem dJ3_checkIndex_8e157_9 : decode cJ3_checkIndex_8e157 9 = .ok (.aload_n 2, 1) := by decide +kernel
theorem dJ3_checkIndex_8e157_10 : decode cJ3_checkIndex_8e157 10 = .ok (.iload_n 0, 1) := by decide +kernel
theorem dJ3_checkIndex_8e157_11 : decode cJ3_checkIndex_8e157 11 = .ok (.iload_n 1, 1) := by decide +kernel
theorem dJ3_checkIndex_8e157_12 : decode cJ3_checkIndex_8e157 12 = .ok (.invokestatic 95, 3) := by decide +kernel
theorem dJ3_checkIndex_8e157_15 : decode cJ3_checkIndex_8e157 15 = .ok (.athrow, 1) := by decide +kernel
theorem dJ3_checkIndex_8e157_16 : decode cJ3_checkIndex_8e157 16 = .ok (.iload_n 0, 1) := by decide +kernel
theorem dJ3_checkIndex_8e157_17 : decode cJ3_checkIndex_8e157 17 = .ok (.ireturn, 1) := by decide +kernel
def rmP0 : Room := { frames := 0, cells := 0, slots := 0, locals := 0 }
def rmP1 : Room := { frames := 1, cells := 0, slots := 0, locals := 30 }
def rmP2 : Room := { frames := 2, cells := 0, slots := 0, locals := 60 }
def rmP3 : Room := { frames := 3, cells := 0, slots := 0, locals := 90 }
set_option maxHeartbeats 4000000 in
set_option maxRecDepth 100000 in
theorem ctX6_forceAt (l : Launch) (E : VE) (a : Nat) (x1 x2 : Int32) (sz : Nat) : Met l yX6_forceAt (mW yX6_forceAt cX6_forceAt 4 (some .int)) rmP0 (CPre E [.ref a, .int x1, .int x2] sz []) (CQi E (fun (z : Int32) (_ : Unit) => z = fo0 x1 x2) (fun _ => []) [] sz) 0 0 (va_A [] sz) := by
  refine v_met (by decide) (Nat.le_of_ble_eq_true rfl) ?_
  intro pr e s m below meth c A hsz hA C
  subst hsz
  refine v_iload_n (pc := 0) C 1 rfl rfl dX6_forceAt_0 ?_
  refine v_iload_n (pc := 1) C 2 rfl rfl dX6_forceAt_1 ?_
  refine v_isub (pc := 2) C dX6_forceAt_2 ?_
  refine v_istore_n (pc := 3) C [(3, .int (x1 - x2)), (0, .ref a), (1, .int x1), (2, .int x2)] rfl rfl (by decide) dX6_forceAt_3 ?_
  refine v_iload_n (pc := 4) C 0 rfl rfl dX6_forceAt_4 ?_
  refine v_if_ge (pc := 5) C 12 rfl dX6_forceAt_5 (fun h => ?_) (fun h => ?_)
  · refine v_iload_n (pc := 12) C 0 rfl rfl dX6_forceAt_12 ?_
    refine v_bipush (pc := 13) C 9 kb_9 dX6_forceAt_13 ?_
    refine v_icmp_le (pc := 15) C 23 rfl dX6_forceAt_15 (fun h2 => ?_) (fun h2 => ?_)
    · refine v_iload_n (pc := 23) C 0 rfl rfl dX6_forceAt_23 ?_
      exact v_ireti (pc := 24) C () hA rfl (by rw [fo0, if_neg (Int32.not_lt.mpr h), if_neg (Int32.not_lt.mpr h2)]) dX6_forceAt_24
    · refine v_bipush (pc := 18) C 9 kb_9 dX6_forceAt_18 ?_
      refine v_goto (pc := 20) C 24 rfl dX6_forceAt_20 ?_
      exact v_ireti (pc := 24) C () hA rfl (by rw [fo0, if_neg (Int32.not_lt.mpr h), if_pos (Int32.not_le.mp h2)]) dX6_forceAt_24
  · refine v_iconst (pc := 8) C 0 ki_0 dX6_forceAt_8 ?_
    refine v_goto (pc := 9) C 24 rfl dX6_forceAt_9 ?_
    exact v_ireti (pc := 24) C () hA rfl (by rw [fo0, if_pos (Int32.not_le.mp h)]) dX6_forceAt_24
set_option maxHeartbeats 4000000 in
set_option maxRecDepth 100000 in
theorem ctX0_forceAt (l : Launch) (E : VE) (a ci : Nat) {q : vw_C} (hc : vwCl[ci]? = some q) (x1 x2 : Int32) (sz : Nat) : Met l yX0_forceAt (mW yX0_forceAt cX0_forceAt 3 (some .int)) rmP1 (CPre E [.ref a, .int x1, .int x2] sz [(a, .inr (ci, []))]) (CQi E (fun (z : Int32) (_ : Unit) => z = fo0 (x1 + 1) x2) (fun _ => [(a, .inr (ci, []))]) [(a, .inr (ci, []))] sz) 0 0 (va_A [(a, .inr (ci, []))] sz) := by
  refine v_met (by decide) (Nat.le_of_ble_eq_true rfl) ?_
  intro pr e s m below meth c A hsz hA C
  subst hsz
  refine v_aload_n (pc := 0) C 0 rfl rfl dX0_forceAt_0 ?_
  refine v_iload_n (pc := 1) C 1 rfl rfl dX0_forceAt_1 ?_
  refine v_iconst (pc := 2) C 1 ki_1 dX0_forceAt_2 ?_
  refine v_iadd (pc := 3) C dX0_forceAt_3 ?_
  refine v_iload_n (pc := 4) C 2 rfl rfl dX0_forceAt_4 ?_
  refine v_goi (pc := 5) C (wc := []) (wc' := fun (_ : Unit) => []) (w' := fun (_ : Unit) => [(a, .inr (ci, []))]) [] rfl (fun _ => rfl) (fun _ => rfl) (v_runSU (pc := 5) C [.int (x1 + 1), .int x2] [] (fun sz => ctX6_forceAt l E a (x1 + 1) x2 sz) [] rfl rfl mfX6_forceAt (by decide) wqX6f wuX0 wnX6_forceAt wmX0_7 rfl ⟨Nat.le_of_ble_eq_true rfl, Nat.le_of_ble_eq_true rfl⟩ ⟨rfl, rfl⟩ 0 hc rfl rfl (Nat.le_of_ble_eq_true rfl) ⟨Nat.zero_le _, Nat.zero_le _⟩ dX0_forceAt_5) (fun r _ hr => ?_)
  exact v_ireti (pc := 8) C () hA rfl hr dX0_forceAt_8
set_option maxHeartbeats 4000000 in
set_option maxRecDepth 100000 in
theorem ctX3_forceAt (l : Launch) (E : VE) (a ci : Nat) {q : vw_C} (hc : vwCl[ci]? = some q) (x1 x2 : Int32) (sz : Nat) : Met l yX3_forceAt (mW yX3_forceAt cX3_forceAt 3 (some .int)) rmP1 (CPre E [.ref a, .int x1, .int x2] sz [(a, .inr (ci, []))]) (CQi E (fun (z : Int32) (_ : Unit) => z = fo0 x1 x2 / 2) (fun _ => [(a, .inr (ci, []))]) [(a, .inr (ci, []))] sz) 0 0 (va_A [(a, .inr (ci, []))] sz) := by
  refine v_met (by decide) (Nat.le_of_ble_eq_true rfl) ?_
  intro pr e s m below meth c A hsz hA C
  subst hsz
  refine v_aload_n (pc := 0) C 0 rfl rfl dX3_forceAt_0 ?_
  refine v_iload_n (pc := 1) C 1 rfl rfl dX3_forceAt_1 ?_
  refine v_iload_n (pc := 2) C 2 rfl rfl dX3_forceAt_2 ?_
  refine v_goi (pc := 3) C (wc := []) (wc' := fun (_ : Unit) => []) (w' := fun (_ : Unit) => [(a, .inr (ci, []))]) [] rfl (fun _ => rfl) (fun _ => rfl) (v_runSU (pc := 3) C [.int x1, .int x2] [] (fun sz => ctX6_forceAt l E a x1 x2 sz) [] rfl rfl mfX6_forceAt (by decide) wqX6f wuX3 wnX6_forceAt wmX3_7 rfl ⟨Nat.le_of_ble_eq_true rfl, Nat.le_of_ble_eq_true rfl⟩ ⟨rfl, rfl⟩ 0 hc rfl rfl (Nat.le_of_ble_eq_true rfl) ⟨Nat.zero_le _, Nat.zero_le _⟩ dX3_forceAt_3) (fun r _ hr => ?_)
  refine v_iconst (pc := 6) C 2 ki_2 dX3_forceAt_6 ?_
  refine v_idiv (pc := 7) C (by decide) dX3_forceAt_7 ?_
  exact v_ireti (pc := 8) C () hA rfl (by rw [hr]) dX3_forceAt_8
set_option maxHeartbeats 4000000 in
set_option maxRecDepth 100000 in
theorem ctX1_forceAt (l : Launch) (E : VE) (a ci : Nat) {q : vw_C} (hc : vwCl[ci]? = some q) (x1 x2 : Int32) (sz : Nat) : Met l yX1_forceAt (mW yX1_forceAt cX1_forceAt 3 (some .int)) rmP2 (CPre E [.ref a, .int x1, .int x2] sz [(a, .inr (ci, []))]) (CQi E (fun (z : Int32) (_ : Unit) => z = if 1 < x2 then 0 else fo0 x1 x2 / 2) (fun _ => [(a, .inr (ci, []))]) [(a, .inr (ci, []))] sz) 0 0 (va_A [(a, .inr (ci, []))] sz) := by
  refine v_met (by decide) (Nat.le_of_ble_eq_true rfl) ?_
  intro pr e s m below meth c A hsz hA C
  subst hsz
  refine v_iload_n (pc := 0) C 2 rfl rfl dX1_forceAt_0 ?_
  refine v_iconst (pc := 1) C 1 ki_1 dX1_forceAt_1 ?_
  refine v_icmp_le (pc := 2) C 9 rfl dX1_forceAt_2 (fun h => ?_) (fun h => ?_)
  · refine v_aload_n (pc := 9) C 0 rfl rfl dX1_forceAt_9 ?_
    refine v_iload_n (pc := 10) C 1 rfl rfl dX1_forceAt_10 ?_
    refine v_iload_n (pc := 11) C 2 rfl rfl dX1_forceAt_11 ?_
    refine v_goi (pc := 12) C (wc := [(a, .inr (ci, []))]) (wc' := fun (_ : Unit) => [(a, .inr (ci, []))]) (w' := fun (_ : Unit) => [(a, .inr (ci, []))]) [0] rfl (fun _ => rfl) (fun _ => rfl) (v_runSU (pc := 12) C [.int x1, .int x2] [] (fun sz => ctX3_forceAt l E a ci hc x1 x2 sz) [0] rfl rfl mfX3_forceAt (by decide) wqX3f wuX1 wnX3_forceAt wmX1_7 rfl ⟨Nat.le_of_ble_eq_true rfl, Nat.le_of_ble_eq_true rfl⟩ ⟨rfl, rfl⟩ 0 hc rfl rfl (Nat.le_of_ble_eq_true rfl) ⟨Nat.zero_le _, Nat.zero_le _⟩ dX1_forceAt_12) (fun r _ hr => ?_)
    exact v_ireti (pc := 15) C () hA rfl (by rw [hr, if_neg (Int32.not_lt.mpr h)]) dX1_forceAt_15
  · refine v_iconst (pc := 5) C 0 ki_0 dX1_forceAt_5 ?_
    refine v_goto (pc := 6) C 15 rfl dX1_forceAt_6 ?_
    exact v_ireti (pc := 15) C () hA rfl (by rw [if_pos (Int32.not_le.mp h)]) dX1_forceAt_15
set_option maxHeartbeats 4000000 in
set_option maxRecDepth 100000 in
theorem ctX10_forceAt (l : Launch) (E : VE) (a ci : Nat) {q : vw_C} (hc : vwCl[ci]? = some q) (x1 x2 : Int32) (sz : Nat) : Met l yX10_forceAt (mW yX10_forceAt cX10_forceAt 3 (some .int)) rmP2 (CPre E [.ref a, .int x1, .int x2] sz [(a, .inr (ci, []))]) (CQi E (fun (z : Int32) (_ : Unit) => z = fo0 (x1 + 1) (x2 / 2)) (fun _ => [(a, .inr (ci, []))]) [(a, .inr (ci, []))] sz) 0 0 (va_A [(a, .inr (ci, []))] sz) := by
  refine v_met (by decide) (Nat.le_of_ble_eq_true rfl) ?_
  intro pr e s m below meth c A hsz hA C
  subst hsz
  refine v_aload_n (pc := 0) C 0 rfl rfl dX10_forceAt_0 ?_
  refine v_iload_n (pc := 1) C 1 rfl rfl dX10_forceAt_1 ?_
  refine v_iload_n (pc := 2) C 2 rfl rfl dX10_forceAt_2 ?_
  refine v_iconst (pc := 3) C 2 ki_2 dX10_forceAt_3 ?_
  refine v_idiv (pc := 4) C (by decide) dX10_forceAt_4 ?_
  refine v_goi (pc := 5) C (wc := [(a, .inr (ci, []))]) (wc' := fun (_ : Unit) => [(a, .inr (ci, []))]) (w' := fun (_ : Unit) => [(a, .inr (ci, []))]) [0] rfl (fun _ => rfl) (fun _ => rfl) (v_runSX (pc := 5) C (x := ⟨RX9, "forceAt", "(II)I"⟩) [.int x1, .int (x2 / 2)] [] (fun sz => ctX0_forceAt l E a ci hc x1 (x2 / 2) sz) [0] rfl rfl mfX0_forceAt rfl (by decide) wqX9f wuX10 wuX9 wnX0_forceAt wmX10_7 rfl ⟨Nat.le_of_ble_eq_true rfl, Nat.le_of_ble_eq_true rfl⟩ ⟨rfl, rfl⟩ 0 hc rfl rfl (Nat.le_of_ble_eq_true rfl) ⟨Nat.zero_le _, Nat.zero_le _⟩ dX10_forceAt_5) (fun r _ hr => ?_)
  exact v_ireti (pc := 8) C () hA rfl hr dX10_forceAt_8
set_option maxHeartbeats 4000000 in
set_option maxRecDepth 100000 in
theorem ctX6_leavesInk (l : Launch) (E : VE) (a : Nat) (sz : Nat) : Met l yX6_leavesInk (mW yX6_leavesInk cX6_leavesInk 1 (some .boolean)) rmP0 (CPre E [.ref a] sz []) (CQi E (fun (z : Int32) (_ : Unit) => z = 1) (fun _ => []) [] sz) 0 0 (va_A [] sz) := by
  refine v_met (by decide) (Nat.le_of_ble_eq_true rfl) ?_
  intro pr e s m below meth c A hsz hA C
  subst hsz
  refine v_iconst (pc := 0) C 1 ki_1 dX6_leavesInk_0 ?_
  exact v_iretz (pc := 1) C (by rfl) () hA rfl rfl dX6_leavesInk_1
set_option maxHeartbeats 4000000 in
set_option maxRecDepth 100000 in
theorem ctX9_leavesInk (l : Launch) (E : VE) (a : Nat) (sz : Nat) : Met l yX9_leavesInk (mW yX9_leavesInk cX9_leavesInk 1 (some .boolean)) rmP0 (CPre E [.ref a] sz []) (CQi E (fun (z : Int32) (_ : Unit) => z = 0) (fun _ => []) [] sz) 0 0 (va_A [] sz) := by
  refine v_met (by decide) (Nat.le_of_ble_eq_true rfl) ?_
  intro pr e s m below meth c A hsz hA C
  subst hsz
  refine v_iconst (pc := 0) C 0 ki_0 dX9_leavesInk_0 ?_
  exact v_iretz (pc := 1) C (by rfl) () hA rfl rfl dX9_leavesInk_1
def pnv (a : Nat → Nat) (k : Int32) : Value := if k < 0 ∨ 6 ≤ k then .null else .ref (a (2 + k.toNatClampNeg))
set_option maxHeartbeats 4000000 in
set_option maxRecDepth 100000 in
theorem ctX5_penOf (l : Launch) (E : VE) (a : Nat → Nat) (x1 : Int32) {v : Value} (hv : pnv a x1 = v) (sz : Nat) : Met l yX5_penOf (mW yX5_penOf cX5_penOf 2 (some (.object "PressedPad$Pencil"))) rmP0 (CPre E [.ref (a 0), .int x1] sz (bBox E a)) (CQq E v (bBox E a) sz) 0 0 (va_A (bBox E a) sz) := by
  refine v_met (by decide) (Nat.le_of_ble_eq_true rfl) ?_
  intro pr e s m below meth c A hsz hA C
  subst hsz
  refine v_iload_n (pc := 0) C 1 rfl rfl dX5_penOf_0 ?_
  refine v_if_lt (pc := 1) C 22 rfl dX5_penOf_1 (fun h => ?_) (fun h => ?_)
  · obtain rfl : v = .null := hv.symm.trans (if_pos (Or.inl h))
    refine v_null (pc := 22) C dX5_penOf_22 ?_
    exact v_aretq (pc := 23) C hA rfl (Or.inl rfl) dX5_penOf_23
  · refine v_iload_n (pc := 4) C 1 rfl rfl dX5_penOf_4 ?_
    refine v_aload_n (pc := 5) C 0 rfl rfl dX5_penOf_5 ?_
    refine v_get (pc := 6) C cfX5 rfl 0 0 rfl (by decide) wfX5_25 rfl dX5_penOf_6 ?_
    refine v_alenq (pc := 9) C 1 (v := 6) rfl rfl dX5_penOf_9 ?_
    refine v_icmp_ge (pc := 10) C 22 rfl dX5_penOf_10 (fun h2 => ?_) (fun h2 => ?_)
    · obtain rfl : v = .null := hv.symm.trans (if_pos (Or.inr h2))
      refine v_null (pc := 22) C dX5_penOf_22 ?_
      exact v_aretq (pc := 23) C hA rfl (Or.inl rfl) dX5_penOf_23
    · obtain rfl : v = .ref (a (2 + x1.toNatClampNeg)) := hv.symm.trans (if_neg (fun z => z.elim h h2))
      have hin : vp_in x1 6 := by
        obtain ⟨j, hj, rfl⟩ := nI_of h
        refine vp_in_nI (Nat.not_le.mp fun q => h2 ?_) (by decide)
        exact nI_le (a := 6) q hj
      refine v_aload_n (pc := 13) C 0 rfl rfl dX5_penOf_13 ?_
      refine v_get (pc := 14) C cfX5 rfl 0 0 rfl (by decide) wfX5_25 rfl dX5_penOf_14 ?_
      refine v_iload_n (pc := 17) C 1 rfl rfl dX5_penOf_17 ?_
      refine v_aldq (pc := 18) C 1 rfl hin rfl dX5_penOf_18 ?_
      refine v_goto (pc := 19) C 23 rfl dX5_penOf_19 ?_
      exact v_aretq (pc := 23) C hA rfl (Or.inr ⟨_, rfl⟩) dX5_penOf_23
set_option maxHeartbeats 4000000 in
set_option maxRecDepth 100000 in
theorem ctX5_forceOf (l : Launch) (E : VE) (a : Nat → Nat) (x1 : Int32) (x2 : Int32) (x3 : Int32) {Post : Int32 → Prop} (hw : wpX5_forceOf x1 x2 x3 Post) (sz : Nat) : Met l yX5_forceOf (mW yX5_forceOf cX5_forceOf 5 (some .int)) rmX5_forceOf (CPre E [.ref (a 0), .int x1, .int x2, .int x3] sz (fl [bBox E a])) (CQi E (fun (z : Int32) (_ : Unit) => Post z) (fun _ => (fl [bBox E a])) (fl [bBox E a]) sz) 0 0 (va_A (fl [bBox E a]) sz) := by
  refine v_met (by decide) (Nat.le_of_ble_eq_true rfl) ?_
  intro pr e s m below meth c A hsz hA C
  subst hsz
  have hw : Post (fo x1 x2 x3) := hw
  refine v_w (w' := bBox E a) rfl ?_
  refine v_aload_n (pc := 0) C 0 rfl rfl dX5_forceOf_0 ?_
  refine v_iload_n (pc := 1) C 1 rfl rfl dX5_forceOf_1 ?_
  by_cases h0 : x1 = 0
  · subst h0
    have ef : fo 0 x2 x3 = fo0 x2 x3 := (by rw [fo, if_pos rfl])
    rw [ef] at hw
    have hv : pnv a 0 = .ref (a 2) := by rw [pnv, if_neg (by decide)]; rfl
    refine v_goq (pc := 2) C (wc := bBox E a) [0, 1, 2, 3, 4, 5, 6, 7] rfl rfl (v_runV (pc := 2) C [.int 0] [] (fun sz => ctX5_penOf l E a 0 hv sz) [0, 1, 2, 3, 4, 5, 6, 7] rfl rfl mfX5_penOf ⟨wnX5_penOf, wzX5_X5_penOf_X5_penOf⟩ wmX5_31 rfl ⟨Nat.le_of_ble_eq_true rfl, Nat.le_of_ble_eq_true rfl⟩ ⟨rfl, rfl⟩ 0 (ci := 5) (qc := (RX5, TX5, 1)) rfl rfl rfl rfl (Nat.le_of_ble_eq_true rfl) ⟨Nat.zero_le _, Nat.zero_le _⟩ dX5_forceOf_2) ?_
    refine v_astore (pc := 5) C [(4, .ref (a 2)), (0, .ref (a 0)), (1, .int 0), (2, .int x2), (3, .int x3)] rfl (by decide) dX5_forceOf_5 ?_
    refine v_aload (pc := 7) C 0 rfl dX5_forceOf_7 ?_
    refine v_ifnonnull (pc := 9) C 16 rfl dX5_forceOf_9 ?_
    refine v_aload (pc := 16) C 0 rfl dX5_forceOf_16 ?_
    refine v_iload_n (pc := 18) C 3 rfl rfl dX5_forceOf_18 ?_
    refine v_iload_n (pc := 19) C 4 rfl rfl dX5_forceOf_19 ?_
    refine v_goi (pc := 20) C (wc := []) (wc' := fun (_ : Unit) => []) (w' := fun (_ : Unit) => bBox E a) [] rfl (fun _ => rfl) (fun _ => rfl) (v_runO (pc := 20) C (K := RX6) [.int x2, .int x3] [] (fun sz => ctX6_forceAt l E (a 2) x2 x3 sz) [] rfl rfl mfX6_forceAt mfX6_forceAt wnX6_forceAt wqX6f wzX6_X6_forceAt_X6_forceAt wnX6_forceAt wmX5_35 rfl ⟨Nat.le_of_ble_eq_true rfl, Nat.le_of_ble_eq_true rfl⟩ ⟨rfl, rfl⟩ 2 (ci := 6) (qc := (RX6, TX6, 0)) rfl rfl rfl rfl (Nat.le_of_ble_eq_true rfl) ⟨Nat.zero_le _, Nat.zero_le _⟩ dX5_forceOf_20) (fun r _ hr => ?_)
    exact v_ireti (pc := 23) C () hA rfl (by rw [hr]; exact hw) dX5_forceOf_23
  by_cases h1 : x1 = 1
  · subst h1
    have ef : fo 1 x2 x3 = fo0 (x2 + 1) x3 := (by rw [fo, if_neg (by decide), if_pos rfl])
    rw [ef] at hw
    have hv : pnv a 1 = .ref (a 3) := by rw [pnv, if_neg (by decide)]; rfl
    refine v_goq (pc := 2) C (wc := bBox E a) [0, 1, 2, 3, 4, 5, 6, 7] rfl rfl (v_runV (pc := 2) C [.int 1] [] (fun sz => ctX5_penOf l E a 1 hv sz) [0, 1, 2, 3, 4, 5, 6, 7] rfl rfl mfX5_penOf ⟨wnX5_penOf, wzX5_X5_penOf_X5_penOf⟩ wmX5_31 rfl ⟨Nat.le_of_ble_eq_true rfl, Nat.le_of_ble_eq_true rfl⟩ ⟨rfl, rfl⟩ 0 (ci := 5) (qc := (RX5, TX5, 1)) rfl rfl rfl rfl (Nat.le_of_ble_eq_true rfl) ⟨Nat.zero_le _, Nat.zero_le _⟩ dX5_forceOf_2) ?_
    refine v_astore (pc := 5) C [(4, .ref (a 3)), (0, .ref (a 0)), (1, .int 1), (2, .int x2), (3, .int x3)] rfl (by decide) dX5_forceOf_5 ?_
    refine v_aload (pc := 7) C 0 rfl dX5_forceOf_7 ?_
    refine v_ifnonnull (pc := 9) C 16 rfl dX5_forceOf_9 ?_
    refine v_aload (pc := 16) C 0 rfl dX5_forceOf_16 ?_
    refine v_iload_n (pc := 18) C 3 rfl rfl dX5_forceOf_18 ?_
    refine v_iload_n (pc := 19) C 4 rfl rfl dX5_forceOf_19 ?_
    refine v_goi (pc := 20) C (wc := [(a 3, .inr (0, []))]) (wc' := fun (_ : Unit) => [(a 3, .inr (0, []))]) (w' := fun (_ : Unit) => bBox E a) [3] rfl (fun _ => rfl) (fun _ => rfl) (v_runO (pc := 20) C (K := RX0) [.int x2, .int x3] [] (fun sz => ctX0_forceAt l E (a 3) 0 (q := (RX0, TX0, 0)) rfl x2 x3 sz) [3] rfl rfl mfX0_forceAt mfX6_forceAt wnX6_forceAt wqX6f wzX0_X6_forceAt_X0_forceAt wnX0_forceAt wmX5_35 rfl ⟨Nat.le_of_ble_eq_true rfl, Nat.le_of_ble_eq_true rfl⟩ ⟨rfl, rfl⟩ 3 (ci := 0) (qc := (RX0, TX0, 0)) rfl rfl rfl rfl (Nat.le_of_ble_eq_true rfl) ⟨Nat.zero_le _, Nat.zero_le _⟩ dX5_forceOf_20) (fun r _ hr => ?_)
    exact v_ireti (pc := 23) C () hA rfl (by rw [hr]; exact hw) dX5_forceOf_23
  by_cases h2 : x1 = 2
  · subst h2
    have ef : fo 2 x2 x3 = fo0 x2 x3 / 2 := (by rw [fo, if_neg (by decide), if_neg (by decide), if_pos rfl])
    rw [ef] at hw
    have hv : pnv a 2 = .ref (a 4) := by rw [pnv, if_neg (by decide)]; rfl
    refine v_goq (pc := 2) C (wc := bBox E a) [0, 1, 2, 3, 4, 5, 6, 7] rfl rfl (v_runV (pc := 2) C [.int 2] [] (fun sz => ctX5_penOf l E a 2 hv sz) [0, 1, 2, 3, 4, 5, 6, 7] rfl rfl mfX5_penOf ⟨wnX5_penOf, wzX5_X5_penOf_X5_penOf⟩ wmX5_31 rfl ⟨Nat.le_of_ble_eq_true rfl, Nat.le_of_ble_eq_true rfl⟩ ⟨rfl, rfl⟩ 0 (ci := 5) (qc := (RX5, TX5, 1)) rfl rfl rfl rfl (Nat.le_of_ble_eq_true rfl) ⟨Nat.zero_le _, Nat.zero_le _⟩ dX5_forceOf_2) ?_
    refine v_astore (pc := 5) C [(4, .ref (a 4)), (0, .ref (a 0)), (1, .int 2), (2, .int x2), (3, .int x3)] rfl (by decide) dX5_forceOf_5 ?_
    refine v_aload (pc := 7) C 0 rfl dX5_forceOf_7 ?_
    refine v_ifnonnull (pc := 9) C 16 rfl dX5_forceOf_9 ?_
    refine v_aload (pc := 16) C 0 rfl dX5_forceOf_16 ?_
    refine v_iload_n (pc := 18) C 3 rfl rfl dX5_forceOf_18 ?_
    refine v_iload_n (pc := 19) C 4 rfl rfl dX5_forceOf_19 ?_
    refine v_goi (pc := 20) C (wc := [(a 4, .inr (3, []))]) (wc' := fun (_ : Unit) => [(a 4, .inr (3, []))]) (w' := fun (_ : Unit) => bBox E a) [4] rfl (fun _ => rfl) (fun _ => rfl) (v_runO (pc := 20) C (K := RX3) [.int x2, .int x3] [] (fun sz => ctX3_forceAt l E (a 4) 3 (q := (RX3, TX3, 0)) rfl x2 x3 sz) [4] rfl rfl mfX3_forceAt mfX6_forceAt wnX6_forceAt wqX6f wzX3_X6_forceAt_X3_forceAt wnX3_forceAt wmX5_35 rfl ⟨Nat.le_of_ble_eq_true rfl, Nat.le_of_ble_eq_true rfl⟩ ⟨rfl, rfl⟩ 4 (ci := 3) (qc := (RX3, TX3, 0)) rfl rfl rfl rfl (Nat.le_of_ble_eq_true rfl) ⟨Nat.zero_le _, Nat.zero_le _⟩ dX5_forceOf_20) (fun r _ hr => ?_)
    exact v_ireti (pc := 23) C () hA rfl (by rw [hr]; exact hw) dX5_forceOf_23
  by_cases h3 : x1 = 3
  · subst h3
    have ef : fo 3 x2 x3 = fo0 (x2 + 1) x3 := (by rw [fo, if_neg (by decide), if_neg (by decide), if_neg (by decide), if_pos rfl])
    rw [ef] at hw
    have hv : pnv a 3 = .ref (a 5) := by rw [pnv, if_neg (by decide)]; rfl
    refine v_goq (pc := 2) C (wc := bBox E a) [0, 1, 2, 3, 4, 5, 6, 7] rfl rfl (v_runV (pc := 2) C [.int 3] [] (fun sz => ctX5_penOf l E a 3 hv sz) [0, 1, 2, 3, 4, 5, 6, 7] rfl rfl mfX5_penOf ⟨wnX5_penOf, wzX5_X5_penOf_X5_penOf⟩ wmX5_31 rfl ⟨Nat.le_of_ble_eq_true rfl, Nat.le_of_ble_eq_true rfl⟩ ⟨rfl, rfl⟩ 0 (ci := 5) (qc := (RX5, TX5, 1)) rfl rfl rfl rfl (Nat.le_of_ble_eq_true rfl) ⟨Nat.zero_le _, Nat.zero_le _⟩ dX5_forceOf_2) ?_
    refine v_astore (pc := 5) C [(4, .ref (a 5)), (0, .ref (a 0)), (1, .int 3), (2, .int x2), (3, .int x3)] rfl (by decide) dX5_forceOf_5 ?_
    refine v_aload (pc := 7) C 0 rfl dX5_forceOf_7 ?_
    refine v_ifnonnull (pc := 9) C 16 rfl dX5_forceOf_9 ?_
    refine v_aload (pc := 16) C 0 rfl dX5_forceOf_16 ?_
    refine v_iload_n (pc := 18) C 3 rfl rfl dX5_forceOf_18 ?_
    refine v_iload_n (pc := 19) C 4 rfl rfl dX5_forceOf_19 ?_
    refine v_goi (pc := 20) C (wc := [(a 5, .inr (9, []))]) (wc' := fun (_ : Unit) => [(a 5, .inr (9, []))]) (w' := fun (_ : Unit) => bBox E a) [5] rfl (fun _ => rfl) (fun _ => rfl) (v_runO (pc := 20) C (K := RX9) [.int x2, .int x3] [] (fun sz => ctX0_forceAt l E (a 5) 9 (q := (RX9, TX9, 0)) rfl x2 x3 sz) [5] rfl rfl mfX0_forceAt mfX6_forceAt wnX6_forceAt wqX6f wzX9_X6_forceAt_X0_forceAt wnX0_forceAt wmX5_35 rfl ⟨Nat.le_of_ble_eq_true rfl, Nat.le_of_ble_eq_true rfl⟩ ⟨rfl, rfl⟩ 5 (ci := 9) (qc := (RX9, TX9, 0)) rfl rfl rfl rfl (Nat.le_of_ble_eq_true rfl) ⟨Nat.zero_le _, Nat.zero_le _⟩ dX5_forceOf_20) (fun r _ hr => ?_)
    exact v_ireti (pc := 23) C () hA rfl (by rw [hr]; exact hw) dX5_forceOf_23
  by_cases h4 : x1 = 4
  · subst h4
    have ef : fo 4 x2 x3 = (if 1 < x3 then 0 else fo0 x2 x3 / 2) := (by rw [fo, if_neg (by decide), if_neg (by decide), if_neg (by decide), if_neg (by decide), if_pos rfl])
    rw [ef] at hw
    have hv : pnv a 4 = .ref (a 6) := by rw [pnv, if_neg (by decide)]; rfl
    refine v_goq (pc := 2) C (wc := bBox E a) [0, 1, 2, 3, 4, 5, 6, 7] rfl rfl (v_runV (pc := 2) C [.int 4] [] (fun sz => ctX5_penOf l E a 4 hv sz) [0, 1, 2, 3, 4, 5, 6, 7] rfl rfl mfX5_penOf ⟨wnX5_penOf, wzX5_X5_penOf_X5_penOf⟩ wmX5_31 rfl ⟨Nat.le_of_ble_eq_true rfl, Nat.le_of_ble_eq_true rfl⟩ ⟨rfl, rfl⟩ 0 (ci := 5) (qc := (RX5, TX5, 1)) rfl rfl rfl rfl (Nat.le_of_ble_eq_true rfl) ⟨Nat.zero_le _, Nat.zero_le _⟩ dX5_forceOf_2) ?_
    refine v_astore (pc := 5) C [(4, .ref (a 6)), (0, .ref (a 0)), (1, .int 4), (2, .int x2), (3, .int x3)] rfl (by decide) dX5_forceOf_5 ?_
    refine v_aload (pc := 7) C 0 rfl dX5_forceOf_7 ?_
    refine v_ifnonnull (pc := 9) C 16 rfl dX5_forceOf_9 ?_
    refine v_aload (pc := 16) C 0 rfl dX5_forceOf_16 ?_
    refine v_iload_n (pc := 18) C 3 rfl rfl dX5_forceOf_18 ?_
    refine v_iload_n (pc := 19) C 4 rfl rfl dX5_forceOf_19 ?_
    refine v_goi (pc := 20) C (wc := [(a 6, .inr (1, []))]) (wc' := fun (_ : Unit) => [(a 6, .inr (1, []))]) (w' := fun (_ : Unit) => bBox E a) [6] rfl (fun _ => rfl) (fun _ => rfl) (v_runO (pc := 20) C (K := RX1) [.int x2, .int x3] [] (fun sz => ctX1_forceAt l E (a 6) 1 (q := (RX1, TX1, 0)) rfl x2 x3 sz) [6] rfl rfl mfX1_forceAt mfX6_forceAt wnX6_forceAt wqX6f wzX1_X6_forceAt_X1_forceAt wnX1_forceAt wmX5_35 rfl ⟨Nat.le_of_ble_eq_true rfl, Nat.le_of_ble_eq_true rfl⟩ ⟨rfl, rfl⟩ 6 (ci := 1) (qc := (RX1, TX1, 0)) rfl rfl rfl rfl (Nat.le_of_ble_eq_true rfl) ⟨Nat.zero_le _, Nat.zero_le _⟩ dX5_forceOf_20) (fun r _ hr => ?_)
    exact v_ireti (pc := 23) C () hA rfl (by rw [hr]; exact hw) dX5_forceOf_23
  by_cases h5 : x1 = 5
  · subst h5
    have ef : fo 5 x2 x3 = fo0 (x2 + 1) (x3 / 2) := (by rw [fo, if_neg (by decide), if_neg (by decide), if_neg (by decide), if_neg (by decide), if_neg (by decide), if_pos rfl])
    rw [ef] at hw
    have hv : pnv a 5 = .ref (a 7) := by rw [pnv, if_neg (by decide)]; rfl
    refine v_goq (pc := 2) C (wc := bBox E a) [0, 1, 2, 3, 4, 5, 6, 7] rfl rfl (v_runV (pc := 2) C [.int 5] [] (fun sz => ctX5_penOf l E a 5 hv sz) [0, 1, 2, 3, 4, 5, 6, 7] rfl rfl mfX5_penOf ⟨wnX5_penOf, wzX5_X5_penOf_X5_penOf⟩ wmX5_31 rfl ⟨Nat.le_of_ble_eq_true rfl, Nat.le_of_ble_eq_true rfl⟩ ⟨rfl, rfl⟩ 0 (ci := 5) (qc := (RX5, TX5, 1)) rfl rfl rfl rfl (Nat.le_of_ble_eq_true rfl) ⟨Nat.zero_le _, Nat.zero_le _⟩ dX5_forceOf_2) ?_
    refine v_astore (pc := 5) C [(4, .ref (a 7)), (0, .ref (a 0)), (1, .int 5), (2, .int x2), (3, .int x3)] rfl (by decide) dX5_forceOf_5 ?_
    refine v_aload (pc := 7) C 0 rfl dX5_forceOf_7 ?_
    refine v_ifnonnull (pc := 9) C 16 rfl dX5_forceOf_9 ?_
    refine v_aload (pc := 16) C 0 rfl dX5_forceOf_16 ?_
    refine v_iload_n (pc := 18) C 3 rfl rfl dX5_forceOf_18 ?_
    refine v_iload_n (pc := 19) C 4 rfl rfl dX5_forceOf_19 ?_
    refine v_goi (pc := 20) C (wc := [(a 7, .inr (10, []))]) (wc' := fun (_ : Unit) => [(a 7, .inr (10, []))]) (w' := fun (_ : Unit) => bBox E a) [7] rfl (fun _ => rfl) (fun _ => rfl) (v_runO (pc := 20) C (K := RX10) [.int x2, .int x3] [] (fun sz => ctX10_forceAt l E (a 7) 10 (q := (RX10, TX10, 0)) rfl x2 x3 sz) [7] rfl rfl mfX10_forceAt mfX6_forceAt wnX6_forceAt wqX6f wzX10_X6_forceAt_X10_forceAt wnX10_forceAt wmX5_35 rfl ⟨Nat.le_of_ble_eq_true rfl, Nat.le_of_ble_eq_true rfl⟩ ⟨rfl, rfl⟩ 7 (ci := 10) (qc := (RX10, TX10, 0)) rfl rfl rfl rfl (Nat.le_of_ble_eq_true rfl) ⟨Nat.zero_le _, Nat.zero_le _⟩ dX5_forceOf_20) (fun r _ hr => ?_)
    exact v_ireti (pc := 23) C () hA rfl (by rw [hr]; exact hw) dX5_forceOf_23
  have hv : pnv a x1 = .null := by
      by_cases hn : x1 < 0
      · exact if_pos (Or.inl hn)
      · obtain ⟨j, hj, rfl⟩ := nI_of hn
        refine if_pos (Or.inr (nI_le (a := 6) (Nat.not_lt.mp fun q => ?_) hj))
        obtain rfl | rfl | rfl | rfl | rfl | rfl : j = 0 ∨ j = 1 ∨ j = 2 ∨ j = 3 ∨ j = 4 ∨ j = 5 := by omega
        · exact h0 rfl
        · exact h1 rfl
        · exact h2 rfl
        · exact h3 rfl
        · exact h4 rfl
        · exact h5 rfl
  have ef : fo x1 x2 x3 = 0 := by rw [fo, if_neg h0, if_neg h1, if_neg h2, if_neg h3, if_neg h4, if_neg h5]
  rw [ef] at hw
  refine v_goq (pc := 2) C (wc := bBox E a) [0, 1, 2, 3, 4, 5, 6, 7] rfl rfl (v_runV (pc := 2) C [.int x1] [] (fun sz => ctX5_penOf l E a x1 hv sz) [0, 1, 2, 3, 4, 5, 6, 7] rfl rfl mfX5_penOf ⟨wnX5_penOf, wzX5_X5_penOf_X5_penOf⟩ wmX5_31 rfl ⟨Nat.le_of_ble_eq_true rfl, Nat.le_of_ble_eq_true rfl⟩ ⟨rfl, rfl⟩ 0 (ci := 5) (qc := (RX5, TX5, 1)) rfl rfl rfl rfl (Nat.le_of_ble_eq_true rfl) ⟨Nat.zero_le _, Nat.zero_le _⟩ dX5_forceOf_2) ?_
  refine v_astoreN (pc := 5) C [(4, .null), (0, .ref (a 0)), (1, .int x1), (2, .int x2), (3, .int x3)] rfl (by decide) dX5_forceOf_5 ?_
  refine v_aloadN (pc := 7) C 0 rfl dX5_forceOf_7 ?_
  refine v_ifnonnullN (pc := 9) C dX5_forceOf_9 ?_
  refine v_iconst (pc := 12) C 0 ki_0 dX5_forceOf_12 ?_
  refine v_goto (pc := 13) C 23 rfl dX5_forceOf_13 ?_
  exact v_ireti (pc := 23) C () hA rfl hw dX5_forceOf_23
set_option maxHeartbeats 4000000 in
set_option maxRecDepth 100000 in
theorem ctX5_hasInk (l : Launch) (E : VE) (a : Nat → Nat) (x1 : Int32) {Post : Int32 → Prop} (hw : wpX5_hasInk x1 Post) (sz : Nat) : Met l yX5_hasInk (mW yX5_hasInk cX5_hasInk 3 (some .boolean)) rmX5_hasInk (CPre E [.ref (a 0), .int x1] sz (fl [bBox E a])) (CQi E (fun (z : Int32) (_ : Unit) => Post z) (fun _ => (fl [bBox E a])) (fl [bBox E a]) sz) 0 0 (va_A (fl [bBox E a]) sz) := by
  refine v_met (by decide) (Nat.le_of_ble_eq_true rfl) ?_
  intro pr e s m below meth c A hsz hA C
  subst hsz
  have hw : Post (hink x1) := hw
  refine v_w (w' := bBox E a) rfl ?_
  refine v_aload_n (pc := 0) C 0 rfl rfl dX5_hasInk_0 ?_
  refine v_iload_n (pc := 1) C 1 rfl rfl dX5_hasInk_1 ?_
  by_cases h0 : x1 = 0
  · subst h0
    have ef : hink 0 = 1 := (by rw [hink, if_pos rfl])
    rw [ef] at hw
    have hv : pnv a 0 = .ref (a 2) := by rw [pnv, if_neg (by decide)]; rfl
    refine v_goq (pc := 2) C (wc := bBox E a) [0, 1, 2, 3, 4, 5, 6, 7] rfl rfl (v_runV (pc := 2) C [.int 0] [] (fun sz => ctX5_penOf l E a 0 hv sz) [0, 1, 2, 3, 4, 5, 6, 7] rfl rfl mfX5_penOf ⟨wnX5_penOf, wzX5_X5_penOf_X5_penOf⟩ wmX5_31 rfl ⟨Nat.le_of_ble_eq_true rfl, Nat.le_of_ble_eq_true rfl⟩ ⟨rfl, rfl⟩ 0 (ci := 5) (qc := (RX5, TX5, 1)) rfl rfl rfl rfl (Nat.le_of_ble_eq_true rfl) ⟨Nat.zero_le _, Nat.zero_le _⟩ dX5_hasInk_2) ?_
    refine v_astore_n (pc := 5) C [(2, .ref (a 2)), (0, .ref (a 0)), (1, .int 0)] rfl rfl (by decide) dX5_hasInk_5 ?_
    refine v_aload_n (pc := 6) C 0 rfl rfl dX5_hasInk_6 ?_
    refine v_ifnull (pc := 7) C dX5_hasInk_7 ?_
    refine v_aload_n (pc := 10) C 0 rfl rfl dX5_hasInk_10 ?_
    refine v_goi (pc := 11) C (wc := []) (wc' := fun (_ : Unit) => []) (w' := fun (_ : Unit) => bBox E a) [] rfl (fun _ => rfl) (fun _ => rfl) (v_runO (pc := 11) C (K := RX6) [] [] (fun sz => ctX6_leavesInk l E (a 2) sz) [] rfl rfl mfX6_leavesInk mfX6_leavesInk wnX6_leavesInk wqX6i wzX6_X6_leavesInk_X6_leavesInk wnX6_leavesInk wmX5_39 rfl ⟨Nat.le_of_ble_eq_true rfl, Nat.le_of_ble_eq_true rfl⟩ ⟨rfl, rfl⟩ 2 (ci := 6) (qc := (RX6, TX6, 0)) rfl rfl rfl rfl (Nat.le_of_ble_eq_true rfl) ⟨Nat.zero_le _, Nat.zero_le _⟩ dX5_hasInk_11) (fun r _ hr => ?_)
    refine v_if_eq (pc := 14) C 21 rfl dX5_hasInk_14 (fun h => absurd (hr.symm.trans h) (by decide)) (fun _ => ?_)
    refine v_iconst (pc := 17) C 1 ki_1 dX5_hasInk_17 ?_
    refine v_goto (pc := 18) C 22 rfl dX5_hasInk_18 ?_
    exact v_iretz (pc := 22) C (by rfl) () hA rfl hw dX5_hasInk_22
  by_cases h1 : x1 = 1
  · subst h1
    have ef : hink 1 = 1 := (by rw [hink, if_neg (by decide), if_pos rfl])
    rw [ef] at hw
    have hv : pnv a 1 = .ref (a 3) := by rw [pnv, if_neg (by decide)]; rfl
    refine v_goq (pc := 2) C (wc := bBox E a) [0, 1, 2, 3, 4, 5, 6, 7] rfl rfl (v_runV (pc := 2) C [.int 1] [] (fun sz => ctX5_penOf l E a 1 hv sz) [0, 1, 2, 3, 4, 5, 6, 7] rfl rfl mfX5_penOf ⟨wnX5_penOf, wzX5_X5_penOf_X5_penOf⟩ wmX5_31 rfl ⟨Nat.le_of_ble_eq_true rfl, Nat.le_of_ble_eq_true rfl⟩ ⟨rfl, rfl⟩ 0 (ci := 5) (qc := (RX5, TX5, 1)) rfl rfl rfl rfl (Nat.le_of_ble_eq_true rfl) ⟨Nat.zero_le _, Nat.zero_le _⟩ dX5_hasInk_2) ?_
    refine v_astore_n (pc := 5) C [(2, .ref (a 3)), (0, .ref (a 0)), (1, .int 1)] rfl rfl (by decide) dX5_hasInk_5 ?_
    refine v_aload_n (pc := 6) C 0 rfl rfl dX5_hasInk_6 ?_
    refine v_ifnull (pc := 7) C dX5_hasInk_7 ?_
    refine v_aload_n (pc := 10) C 0 rfl rfl dX5_hasInk_10 ?_
    refine v_goi (pc := 11) C (wc := []) (wc' := fun (_ : Unit) => []) (w' := fun (_ : Unit) => bBox E a) [] rfl (fun _ => rfl) (fun _ => rfl) (v_runO (pc := 11) C (K := RX0) [] [] (fun sz => ctX6_leavesInk l E (a 3) sz) [] rfl rfl mfX6_leavesInk mfX6_leavesInk wnX6_leavesInk wqX6i wzX0_X6_leavesInk_X6_leavesInk wnX6_leavesInk wmX5_39 rfl ⟨Nat.le_of_ble_eq_true rfl, Nat.le_of_ble_eq_true rfl⟩ ⟨rfl, rfl⟩ 3 (ci := 0) (qc := (RX0, TX0, 0)) rfl rfl rfl rfl (Nat.le_of_ble_eq_true rfl) ⟨Nat.zero_le _, Nat.zero_le _⟩ dX5_hasInk_11) (fun r _ hr => ?_)
    refine v_if_eq (pc := 14) C 21 rfl dX5_hasInk_14 (fun h => absurd (hr.symm.trans h) (by decide)) (fun _ => ?_)
    refine v_iconst (pc := 17) C 1 ki_1 dX5_hasInk_17 ?_
    refine v_goto (pc := 18) C 22 rfl dX5_hasInk_18 ?_
    exact v_iretz (pc := 22) C (by rfl) () hA rfl hw dX5_hasInk_22
  by_cases h2 : x1 = 2
  · subst h2
    have ef : hink 2 = 1 := (by rw [hink, if_neg (by decide), if_neg (by decide), if_pos rfl])
    rw [ef] at hw
    have hv : pnv a 2 = .ref (a 4) := by rw [pnv, if_neg (by decide)]; rfl
    refine v_goq (pc := 2) C (wc := bBox E a) [0, 1, 2, 3, 4, 5, 6, 7] rfl rfl (v_runV (pc := 2) C [.int 2] [] (fun sz => ctX5_penOf l E a 2 hv sz) [0, 1, 2, 3, 4, 5, 6, 7] rfl rfl mfX5_penOf ⟨wnX5_penOf, wzX5_X5_penOf_X5_penOf⟩ wmX5_31 rfl ⟨Nat.le_of_ble_eq_true rfl, Nat.le_of_ble_eq_true rfl⟩ ⟨rfl, rfl⟩ 0 (ci := 5) (qc := (RX5, TX5, 1)) rfl rfl rfl rfl (Nat.le_of_ble_eq_true rfl) ⟨Nat.zero_le _, Nat.zero_le _⟩ dX5_hasInk_2) ?_
    refine v_astore_n (pc := 5) C [(2, .ref (a 4)), (0, .ref (a 0)), (1, .int 2)] rfl rfl (by decide) dX5_hasInk_5 ?_
    refine v_aload_n (pc := 6) C 0 rfl rfl dX5_hasInk_6 ?_
    refine v_ifnull (pc := 7) C dX5_hasInk_7 ?_
    refine v_aload_n (pc := 10) C 0 rfl rfl dX5_hasInk_10 ?_
    refine v_goi (pc := 11) C (wc := []) (wc' := fun (_ : Unit) => []) (w' := fun (_ : Unit) => bBox E a) [] rfl (fun _ => rfl) (fun _ => rfl) (v_runO (pc := 11) C (K := RX3) [] [] (fun sz => ctX6_leavesInk l E (a 4) sz) [] rfl rfl mfX6_leavesInk mfX6_leavesInk wnX6_leavesInk wqX6i wzX3_X6_leavesInk_X6_leavesInk wnX6_leavesInk wmX5_39 rfl ⟨Nat.le_of_ble_eq_true rfl, Nat.le_of_ble_eq_true rfl⟩ ⟨rfl, rfl⟩ 4 (ci := 3) (qc := (RX3, TX3, 0)) rfl rfl rfl rfl (Nat.le_of_ble_eq_true rfl) ⟨Nat.zero_le _, Nat.zero_le _⟩ dX5_hasInk_11) (fun r _ hr => ?_)
    refine v_if_eq (pc := 14) C 21 rfl dX5_hasInk_14 (fun h => absurd (hr.symm.trans h) (by decide)) (fun _ => ?_)
    refine v_iconst (pc := 17) C 1 ki_1 dX5_hasInk_17 ?_
    refine v_goto (pc := 18) C 22 rfl dX5_hasInk_18 ?_
    exact v_iretz (pc := 22) C (by rfl) () hA rfl hw dX5_hasInk_22
  by_cases h3 : x1 = 3
  · subst h3
    have ef : hink 3 = 0 := (by rw [hink, if_neg (by decide), if_neg (by decide), if_neg (by decide), if_pos rfl])
    rw [ef] at hw
    have hv : pnv a 3 = .ref (a 5) := by rw [pnv, if_neg (by decide)]; rfl
    refine v_goq (pc := 2) C (wc := bBox E a) [0, 1, 2, 3, 4, 5, 6, 7] rfl rfl (v_runV (pc := 2) C [.int 3] [] (fun sz => ctX5_penOf l E a 3 hv sz) [0, 1, 2, 3, 4, 5, 6, 7] rfl rfl mfX5_penOf ⟨wnX5_penOf, wzX5_X5_penOf_X5_penOf⟩ wmX5_31 rfl ⟨Nat.le_of_ble_eq_true rfl, Nat.le_of_ble_eq_true rfl⟩ ⟨rfl, rfl⟩ 0 (ci := 5) (qc := (RX5, TX5, 1)) rfl rfl rfl rfl (Nat.le_of_ble_eq_true rfl) ⟨Nat.zero_le _, Nat.zero_le _⟩ dX5_hasInk_2) ?_
    refine v_astore_n (pc := 5) C [(2, .ref (a 5)), (0, .ref (a 0)), (1, .int 3)] rfl rfl (by decide) dX5_hasInk_5 ?_
    refine v_aload_n (pc := 6) C 0 rfl rfl dX5_hasInk_6 ?_
    refine v_ifnull (pc := 7) C dX5_hasInk_7 ?_
    refine v_aload_n (pc := 10) C 0 rfl rfl dX5_hasInk_10 ?_
    refine v_goi (pc := 11) C (wc := []) (wc' := fun (_ : Unit) => []) (w' := fun (_ : Unit) => bBox E a) [] rfl (fun _ => rfl) (fun _ => rfl) (v_runO (pc := 11) C (K := RX9) [] [] (fun sz => ctX9_leavesInk l E (a 5) sz) [] rfl rfl mfX9_leavesInk mfX6_leavesInk wnX6_leavesInk wqX6i wzX9_X6_leavesInk_X9_leavesInk wnX9_leavesInk wmX5_39 rfl ⟨Nat.le_of_ble_eq_true rfl, Nat.le_of_ble_eq_true rfl⟩ ⟨rfl, rfl⟩ 5 (ci := 9) (qc := (RX9, TX9, 0)) rfl rfl rfl rfl (Nat.le_of_ble_eq_true rfl) ⟨Nat.zero_le _, Nat.zero_le _⟩ dX5_hasInk_11) (fun r _ hr => ?_)
    refine v_if_eq (pc := 14) C 21 rfl dX5_hasInk_14 (fun _ => ?_) (fun h => absurd hr h)
    refine v_iconst (pc := 21) C 0 ki_0 dX5_hasInk_21 ?_
    exact v_iretz (pc := 22) C (by rfl) () hA rfl hw dX5_hasInk_22
  by_cases h4 : x1 = 4
  · subst h4
    have ef : hink 4 = 1 := (by rw [hink, if_neg (by decide), if_neg (by decide), if_neg (by decide), if_neg (by decide), if_pos rfl])
    rw [ef] at hw
    have hv : pnv a 4 = .ref (a 6) := by rw [pnv, if_neg (by decide)]; rfl
    refine v_goq (pc := 2) C (wc := bBox E a) [0, 1, 2, 3, 4, 5, 6, 7] rfl rfl (v_runV (pc := 2) C [.int 4] [] (fun sz => ctX5_penOf l E a 4 hv sz) [0, 1, 2, 3, 4, 5, 6, 7] rfl rfl mfX5_penOf ⟨wnX5_penOf, wzX5_X5_penOf_X5_penOf⟩ wmX5_31 rfl ⟨Nat.le_of_ble_eq_true rfl, Nat.le_of_ble_eq_true rfl⟩ ⟨rfl, rfl⟩ 0 (ci := 5) (qc := (RX5, TX5, 1)) rfl rfl rfl rfl (Nat.le_of_ble_eq_true rfl) ⟨Nat.zero_le _, Nat.zero_le _⟩ dX5_hasInk_2) ?_
    refine v_astore_n (pc := 5) C [(2, .ref (a 6)), (0, .ref (a 0)), (1, .int 4)] rfl rfl (by decide) dX5_hasInk_5 ?_
    refine v_aload_n (pc := 6) C 0 rfl rfl dX5_hasInk_6 ?_
    refine v_ifnull (pc := 7) C dX5_hasInk_7 ?_
    refine v_aload_n (pc := 10) C 0 rfl rfl dX5_hasInk_10 ?_
    refine v_goi (pc := 11) C (wc := []) (wc' := fun (_ : Unit) => []) (w' := fun (_ : Unit) => bBox E a) [] rfl (fun _ => rfl) (fun _ => rfl) (v_runO (pc := 11) C (K := RX1) [] [] (fun sz => ctX6_leavesInk l E (a 6) sz) [] rfl rfl mfX6_leavesInk mfX6_leavesInk wnX6_leavesInk wqX6i wzX1_X6_leavesInk_X6_leavesInk wnX6_leavesInk wmX5_39 rfl ⟨Nat.le_of_ble_eq_true rfl, Nat.le_of_ble_eq_true rfl⟩ ⟨rfl, rfl⟩ 6 (ci := 1) (qc := (RX1, TX1, 0)) rfl rfl rfl rfl (Nat.le_of_ble_eq_true rfl) ⟨Nat.zero_le _, Nat.zero_le _⟩ dX5_hasInk_11) (fun r _ hr => ?_)
    refine v_if_eq (pc := 14) C 21 rfl dX5_hasInk_14 (fun h => absurd (hr.symm.trans h) (by decide)) (fun _ => ?_)
    refine v_iconst (pc := 17) C 1 ki_1 dX5_hasInk_17 ?_
    refine v_goto (pc := 18) C 22 rfl dX5_hasInk_18 ?_
    exact v_iretz (pc := 22) C (by rfl) () hA rfl hw dX5_hasInk_22
  by_cases h5 : x1 = 5
  · subst h5
    have ef : hink 5 = 0 := (by decide)
    rw [ef] at hw
    have hv : pnv a 5 = .ref (a 7) := by rw [pnv, if_neg (by decide)]; rfl
    refine v_goq (pc := 2) C (wc := bBox E a) [0, 1, 2, 3, 4, 5, 6, 7] rfl rfl (v_runV (pc := 2) C [.int 5] [] (fun sz => ctX5_penOf l E a 5 hv sz) [0, 1, 2, 3, 4, 5, 6, 7] rfl rfl mfX5_penOf ⟨wnX5_penOf, wzX5_X5_penOf_X5_penOf⟩ wmX5_31 rfl ⟨Nat.le_of_ble_eq_true rfl, Nat.le_of_ble_eq_true rfl⟩ ⟨rfl, rfl⟩ 0 (ci := 5) (qc := (RX5, TX5, 1)) rfl rfl rfl rfl (Nat.le_of_ble_eq_true rfl) ⟨Nat.zero_le _, Nat.zero_le _⟩ dX5_hasInk_2) ?_
    refine v_astore_n (pc := 5) C [(2, .ref (a 7)), (0, .ref (a 0)), (1, .int 5)] rfl rfl (by decide) dX5_hasInk_5 ?_
    refine v_aload_n (pc := 6) C 0 rfl rfl dX5_hasInk_6 ?_
    refine v_ifnull (pc := 7) C dX5_hasInk_7 ?_
    refine v_aload_n (pc := 10) C 0 rfl rfl dX5_hasInk_10 ?_
    refine v_goi (pc := 11) C (wc := []) (wc' := fun (_ : Unit) => []) (w' := fun (_ : Unit) => bBox E a) [] rfl (fun _ => rfl) (fun _ => rfl) (v_runO (pc := 11) C (K := RX10) [] [] (fun sz => ctX9_leavesInk l E (a 7) sz) [] rfl rfl mfX9_leavesInk mfX6_leavesInk wnX6_leavesInk wqX6i wzX10_X6_leavesInk_X9_leavesInk wnX9_leavesInk wmX5_39 rfl ⟨Nat.le_of_ble_eq_true rfl, Nat.le_of_ble_eq_true rfl⟩ ⟨rfl, rfl⟩ 7 (ci := 10) (qc := (RX10, TX10, 0)) rfl rfl rfl rfl (Nat.le_of_ble_eq_true rfl) ⟨Nat.zero_le _, Nat.zero_le _⟩ dX5_hasInk_11) (fun r _ hr => ?_)
    refine v_if_eq (pc := 14) C 21 rfl dX5_hasInk_14 (fun _ => ?_) (fun h => absurd hr h)
    refine v_iconst (pc := 21) C 0 ki_0 dX5_hasInk_21 ?_
    exact v_iretz (pc := 22) C (by rfl) () hA rfl hw dX5_hasInk_22
  have hv : pnv a x1 = .null := by
      by_cases hn : x1 < 0
      · exact if_pos (Or.inl hn)
      · obtain ⟨j, hj, rfl⟩ := nI_of hn
        refine if_pos (Or.inr (nI_le (a := 6) (Nat.not_lt.mp fun q => ?_) hj))
        obtain rfl | rfl | rfl | rfl | rfl | rfl : j = 0 ∨ j = 1 ∨ j = 2 ∨ j = 3 ∨ j = 4 ∨ j = 5 := by omega
        · exact h0 rfl
        · exact h1 rfl
        · exact h2 rfl
        · exact h3 rfl
        · exact h4 rfl
        · exact h5 rfl
  have ef : hink x1 = 0 := by rw [hink, if_neg h0, if_neg h1, if_neg h2, if_neg h3, if_neg h4]
  rw [ef] at hw
  refine v_goq (pc := 2) C (wc := bBox E a) [0, 1, 2, 3, 4, 5, 6, 7] rfl rfl (v_runV (pc := 2) C [.int x1] [] (fun sz => ctX5_penOf l E a x1 hv sz) [0, 1, 2, 3, 4, 5, 6, 7] rfl rfl mfX5_penOf ⟨wnX5_penOf, wzX5_X5_penOf_X5_penOf⟩ wmX5_31 rfl ⟨Nat.le_of_ble_eq_true rfl, Nat.le_of_ble_eq_true rfl⟩ ⟨rfl, rfl⟩ 0 (ci := 5) (qc := (RX5, TX5, 1)) rfl rfl rfl rfl (Nat.le_of_ble_eq_true rfl) ⟨Nat.zero_le _, Nat.zero_le _⟩ dX5_hasInk_2) ?_
  refine v_astore_nN (pc := 5) C [(2, .null), (0, .ref (a 0)), (1, .int x1)] rfl rfl (by decide) dX5_hasInk_5 ?_
  refine v_aload_nN (pc := 6) C 0 rfl rfl dX5_hasInk_6 ?_
  refine v_ifnullN (pc := 7) C 21 rfl dX5_hasInk_7 ?_
  refine v_iconst (pc := 21) C 0 ki_0 dX5_hasInk_21 ?_
  exact v_iretz (pc := 22) C (by rfl) () hA rfl hw dX5_hasInk_22
set_option maxHeartbeats 4000000 in
set_option maxRecDepth 100000 in
theorem ctX11_imageOf (l : Launch) (E : VE) (a : Nat → Nat → Nat) (t : Nat → St) (x1 : Int32) {v : Value} (hv : (if x1 = 0 then Value.ref (a 4 0) else .ref (a 5 0)) = v) (sz : Nat) : Met l yX11_imageOf (mW yX11_imageOf cX11_imageOf 2 (some (.object "PressedPad$Pad"))) rmP0 (CPre E [.ref (a 0 0), .int x1] sz (bObj E a t)) (CQq E v (bObj E a t) sz) 0 0 (va_A (bObj E a t) sz) := by
  refine v_met (by decide) (Nat.le_of_ble_eq_true rfl) ?_
  intro pr e s m below meth c A hsz hA C
  subst hsz
  refine v_iload_n (pc := 0) C 1 rfl rfl dX11_imageOf_0 ?_
  refine v_if_ne (pc := 1) C 11 rfl dX11_imageOf_1 (fun h => ?_) (fun h => ?_)
  · obtain rfl : v = .ref (a 5 0) := hv.symm.trans (if_neg h)
    refine v_aload_n (pc := 11) C 0 rfl rfl dX11_imageOf_11 ?_
    refine v_get (pc := 12) C cfX11 rfl 0 4 rfl (by decide) wfX11_29 rfl dX11_imageOf_12 ?_
    exact v_aretq (pc := 15) C hA rfl (Or.inr ⟨_, rfl⟩) dX11_imageOf_15
  · obtain rfl : v = .ref (a 4 0) := hv.symm.trans (if_pos h)
    refine v_aload_n (pc := 4) C 0 rfl rfl dX11_imageOf_4 ?_
    refine v_get (pc := 5) C cfX11 rfl 0 3 rfl (by decide) wfX11_26 rfl dX11_imageOf_5 ?_
    refine v_goto (pc := 8) C 15 rfl dX11_imageOf_8 ?_
    exact v_aretq (pc := 15) C hA rfl (Or.inr ⟨_, rfl⟩) dX11_imageOf_15
theorem slen_shr : ∀ i, i < 4 → nI (lenS.getD i 0) >>> ((0 : Int32) &&& 31) = nI (lenS.getD i 0) := by decide +kernel
theorem slen_lt : ∀ i, i < 4 → lenS.getD i 0 < 2 ^ 31 := by decide +kernel
theorem sbyt : ∀ i, i < 4 → ∀ k, k < lenS.getD i 0 → ((((bytS.getD i []).getD k 0) &&& 255).toUInt32 % 65536).toInt32 = (bytS.getD i []).getD k 0 ∧ narrow .char (.int ((bytS.getD i []).getD k 0)) = .int ((bytS.getD i []).getD k 0) := by decide +kernel
set_option maxHeartbeats 4000000 in
set_option maxRecDepth 100000 in
theorem ctJ0_coder_7d493 (l : Launch) (E : VE) {i : Nat} (hi : i < 4) (sz : Nat) : Met l yJ0_coder_7d493 (mW yJ0_coder_7d493 cJ0_coder_7d493 1 (some .byte)) rmP0 (CPre E [.ref (E.2.2.2.2.1 i)] sz []) (CQi E (fun (z : Int32) (_ : Unit) => z = 0) (fun _ => []) [] sz) 0 0 (va_A [] sz) := by
  refine v_met (by decide) (Nat.le_of_ble_eq_true rfl) ?_
  intro pr e s m below meth c A hsz hA C
  subst hsz
  refine v_gets (pc := 0) C C.2.2.2.2.2.2.2.2.2.2.2.2.2.2.2.1 wfJ0_38 dJ0_coder_7d493_0 ?_
  refine v_if_eq (pc := 3) C 13 rfl dJ0_coder_7d493_3 (fun h => absurd h (by decide)) (fun _ => ?_)
  refine v_aload_n (pc := 6) C 0 rfl rfl dJ0_coder_7d493_6 ?_
  refine v_getk (pc := 7) C (C.2.2.2.2.2.2.2.2.2.2.2.2.2.2.1.1 i hi).2.1 wfJ0_15 dJ0_coder_7d493_7 ?_
  refine v_goto (pc := 10) C 14 rfl dJ0_coder_7d493_10 ?_
  exact v_irett (pc := 14) C (by rfl) () hA rfl rfl dJ0_coder_7d493_14
set_option maxHeartbeats 4000000 in
set_option maxRecDepth 100000 in
theorem ctJ0_isLatin1_aae02 (l : Launch) (E : VE) {i : Nat} (hi : i < 4) (sz : Nat) : Met l yJ0_isLatin1_aae02 (mW yJ0_isLatin1_aae02 cJ0_isLatin1_aae02 1 (some .boolean)) rmP0 (CPre E [.ref (E.2.2.2.2.1 i)] sz []) (CQi E (fun (z : Int32) (_ : Unit) => z = 1) (fun _ => []) [] sz) 0 0 (va_A [] sz) := by
  refine v_met (by decide) (Nat.le_of_ble_eq_true rfl) ?_
  intro pr e s m below meth c A hsz hA C
  subst hsz
  refine v_gets (pc := 0) C C.2.2.2.2.2.2.2.2.2.2.2.2.2.2.2.1 wfJ0_38 dJ0_isLatin1_aae02_0 ?_
  refine v_if_eq (pc := 3) C 17 rfl dJ0_isLatin1_aae02_3 (fun h => absurd h (by decide)) (fun _ => ?_)
  refine v_aload_n (pc := 6) C 0 rfl rfl dJ0_isLatin1_aae02_6 ?_
  refine v_getk (pc := 7) C (C.2.2.2.2.2.2.2.2.2.2.2.2.2.2.1.1 i hi).2.1 wfJ0_15 dJ0_isLatin1_aae02_7 ?_
  refine v_if_ne (pc := 10) C 17 rfl dJ0_isLatin1_aae02_10 (fun h => absurd rfl h) (fun _ => ?_)
  refine v_iconst (pc := 13) C 1 ki_1 dJ0_isLatin1_aae02_13 ?_
  refine v_goto (pc := 14) C 18 rfl dJ0_isLatin1_aae02_14 ?_
  exact v_irett (pc := 18) C (by rfl) () hA rfl rfl dJ0_isLatin1_aae02_18
set_option maxHeartbeats 4000000 in
set_option maxRecDepth 100000 in
theorem ctJ0_length_8abf5 (l : Launch) (E : VE) {i : Nat} (hi : i < 4) (sz : Nat) : Met l yJ0_length_8abf5 (mW yJ0_length_8abf5 cJ0_length_8abf5 1 (some .int)) rmP1 (CPre E [.ref (E.2.2.2.2.1 i)] sz []) (CQi E (fun (z : Int32) (_ : Unit) => z = nI (lenS.getD i 0)) (fun _ => []) [] sz) 0 0 (va_A [] sz) := by
  refine v_met (by decide) (Nat.le_of_ble_eq_true rfl) ?_
  intro pr e s m below meth c A hsz hA C
  subst hsz
  refine v_aload_n (pc := 0) C 0 rfl rfl dJ0_length_8abf5_0 ?_
  refine v_getk (pc := 1) C (C.2.2.2.2.2.2.2.2.2.2.2.2.2.2.1.1 i hi).2.2.1 wfJ0_9 dJ0_length_8abf5_1 ?_
  refine v_tlen (pc := 4) C (C.2.2.2.2.2.2.2.2.2.2.2.2.2.2.1.1 i hi).2.2.2 (v := nI (lenS.getD i 0)) rfl dJ0_length_8abf5_4 ?_
  refine v_aload_n (pc := 5) C 0 rfl rfl dJ0_length_8abf5_5 ?_
  refine v_goi (pc := 6) C (wc := []) (wc' := fun (_ : Unit) => []) (w' := fun (_ : Unit) => []) [] rfl (fun _ => rfl) (fun _ => rfl) (v_runK (pc := 6) C [] [.int (nI (lenS.getD i 0))] hi (fun sz => ctJ0_coder_7d493 l E hi sz) mfJ0_coder_7d493 wnJ0_coder_7d493 wzJ0_J0_coder_7d493_J0_coder_7d493 wmJ0_335 rfl ⟨Nat.le_of_ble_eq_true rfl, Nat.le_of_ble_eq_true rfl⟩ ⟨rfl, rfl⟩ rfl (Nat.le_of_ble_eq_true rfl) ⟨Nat.zero_le _, Nat.zero_le _⟩ dJ0_length_8abf5_6) (fun r _ hr => ?_)
  refine v_ishr (pc := 9) C dJ0_length_8abf5_9 ?_
  exact v_ireti (pc := 10) C () hA rfl (by rw [hr]; exact slen_shr i hi) dJ0_length_8abf5_10
set_option maxHeartbeats 4000000 in
set_option maxRecDepth 100000 in
theorem ctJ3_checkIndex_8e157 (l : Launch) (E : VE) {j n : Int32} (h0 : ¬ j < 0) (h1 : j < n) {v : Value} (hv : v = .null ∨ ∃ t, v = .ref t) (sz : Nat) : Met l yJ3_checkIndex_8e157 (mW yJ3_checkIndex_8e157 cJ3_checkIndex_8e157 3 (some .int)) rmP0 (CPre E [.int j, .int n, v] sz []) (CQi E (fun (z : Int32) (_ : Unit) => True) (fun _ => []) [] sz) 0 0 (va_A [] sz) := by
  rcases hv with rfl | ⟨t, rfl⟩
  · refine v_met (by decide) (Nat.le_of_ble_eq_true rfl) ?_
    intro pr e s m below meth c A hsz hA C
    subst hsz
    refine v_iload_n (pc := 0) C 0 rfl rfl dJ3_checkIndex_8e157_0 ?_
    refine v_if_lt (pc := 1) C 9 rfl dJ3_checkIndex_8e157_1 (fun h => absurd h h0) (fun _ => ?_)
    refine v_iload_n (pc := 4) C 0 rfl rfl dJ3_checkIndex_8e157_4 ?_
    refine v_iload_n (pc := 5) C 1 rfl rfl dJ3_checkIndex_8e157_5 ?_
    refine v_icmp_lt (pc := 6) C 16 rfl dJ3_checkIndex_8e157_6 (fun _ => ?_) (fun h => absurd h1 h)
    refine v_iload_n (pc := 16) C 0 rfl rfl dJ3_checkIndex_8e157_16 ?_
    exact v_ireti (pc := 17) C () hA rfl trivial dJ3_checkIndex_8e157_17
  · refine v_met (by decide) (Nat.le_of_ble_eq_true rfl) ?_
    intro pr e s m below meth c A hsz hA C
    subst hsz
    refine v_iload_n (pc := 0) C 0 rfl rfl dJ3_checkIndex_8e157_0 ?_
    refine v_if_lt (pc := 1) C 9 rfl dJ3_checkIndex_8e157_1 (fun h => absurd h h0) (fun _ => ?_)
    refine v_iload_n (pc := 4) C 0 rfl rfl dJ3_checkIndex_8e157_4 ?_
    refine v_iload_n (pc := 5) C 1 rfl rfl dJ3_checkIndex_8e157_5 ?_
    refine v_icmp_lt (pc := 6) C 16 rfl dJ3_checkIndex_8e157_6 (fun _ => ?_) (fun h => absurd h1 h)
    refine v_iload_n (pc := 16) C 0 rfl rfl dJ3_checkIndex_8e157_16 ?_
    exact v_ireti (pc := 17) C () hA rfl trivial dJ3_checkIndex_8e157_17

set_option maxHeartbeats 4000000 in
set_option maxRecDepth 100000 in
theorem ctJ0_checkIndex_df160 (l : Launch) (E : VE) {j n : Int32} (h0 : ¬ j < 0) (h1 : j < n) (sz : Nat) : Met l yJ0_checkIndex_df160 (mW yJ0_checkIndex_df160 cJ0_checkIndex_df160 2 none) rmP1 (CPre E [.int j, .int n] sz []) (CQv E (fun (_ : Unit) => True) (fun _ => []) [] sz) 0 0 (va_A [] sz) := by
  refine v_met (by decide) (Nat.le_of_ble_eq_true rfl) ?_
  intro pr e s m below meth c A hsz hA C
  subst hsz
  refine v_iload_n (pc := 0) C 0 rfl rfl dJ0_checkIndex_df160_0 ?_
  refine v_iload_n (pc := 1) C 1 rfl rfl dJ0_checkIndex_df160_1 ?_
  rcases C.2.2.2.2.2.2.2.2.2.2.2.2.2.2.2.2 with hZ | ⟨t, hZ⟩
  · refine v_gets (pc := 2) C hZ wfJ0_1053 dJ0_checkIndex_df160_2 ?_
    refine v_goi (pc := 5) C (wc := []) (wc' := fun (_ : Unit) => []) (w' := fun (_ : Unit) => []) [] rfl (fun _ => rfl) (fun _ => rfl) (v_runS (pc := 5) C [.int j, .int n, .null] [] (fun sz => ctJ3_checkIndex_8e157 l E h0 h1 (Or.inl rfl) sz) [] rfl rfl mfJ3_checkIndex_8e157 wtJ3_checkIndex_8e157 wmJ0_1059 rfl ⟨Nat.le_of_ble_eq_true rfl, Nat.le_of_ble_eq_true rfl⟩ ⟨rfl, rfl⟩ rfl (Nat.le_of_ble_eq_true rfl) ⟨Nat.zero_le _, Nat.zero_le _⟩ dJ0_checkIndex_df160_5) (fun r _ hr => ?_)
    refine v_pop (pc := 8) C rfl dJ0_checkIndex_df160_8 ?_
    exact v_vret (pc := 9) C () hA rfl trivial dJ0_checkIndex_df160_9
  · refine v_gets (pc := 2) C hZ wfJ0_1053 dJ0_checkIndex_df160_2 ?_
    refine v_goi (pc := 5) C (wc := []) (wc' := fun (_ : Unit) => []) (w' := fun (_ : Unit) => []) [] rfl (fun _ => rfl) (fun _ => rfl) (v_runS (pc := 5) C [.int j, .int n, .ref t] [] (fun sz => ctJ3_checkIndex_8e157 l E h0 h1 (Or.inr ⟨_, rfl⟩) sz) [] rfl rfl mfJ3_checkIndex_8e157 wtJ3_checkIndex_8e157 wmJ0_1059 rfl ⟨Nat.le_of_ble_eq_true rfl, Nat.le_of_ble_eq_true rfl⟩ ⟨rfl, rfl⟩ rfl (Nat.le_of_ble_eq_true rfl) ⟨Nat.zero_le _, Nat.zero_le _⟩ dJ0_checkIndex_df160_5) (fun r _ hr => ?_)
    refine v_pop (pc := 8) C rfl dJ0_checkIndex_df160_8 ?_
    exact v_vret (pc := 9) C () hA rfl trivial dJ0_checkIndex_df160_9

set_option maxHeartbeats 4000000 in
set_option maxRecDepth 100000 in
theorem ctJ1_charAt_3b067 (l : Launch) (E : VE) {i : Nat} (hi : i < 4) {j : Int32} (hj : vp_in j (lenS.getD i 0)) (sz : Nat) : Met l yJ1_charAt_3b067 (mW yJ1_charAt_3b067 cJ1_charAt_3b067 2 (some .char)) rmP2 (CPre E [.ref (E.2.2.2.2.2 i), .int j] sz []) (CQi E (fun (z : Int32) (_ : Unit) => z = ((bytS.getD i []).getD j.toNatClampNeg 0)) (fun _ => []) [] sz) 0 0 (va_A [] sz) := by
  refine v_met (by decide) (Nat.le_of_ble_eq_true rfl) ?_
  intro pr e s m below meth c A hsz hA C
  subst hsz
  have h0 : ¬ j < 0 := fun q => hj (Or.inl q)
  have hk : j.toNatClampNeg < lenS.getD i 0 := Nat.not_le.mp fun q => hj (Or.inr q)
  have h1 : j < nI (lenS.getD i 0) := by
    obtain ⟨k, hk2, rfl⟩ := nI_of h0
    rw [nI_clamp hk2] at hk
    exact nI_lt hk (slen_lt i hi)
  refine v_iload_n (pc := 0) C 1 rfl rfl dJ1_charAt_3b067_0 ?_
  refine v_aload_n (pc := 1) C 0 rfl rfl dJ1_charAt_3b067_1 ?_
  refine v_tlen (pc := 2) C (C.2.2.2.2.2.2.2.2.2.2.2.2.2.2.1.1 i hi).2.2.2 (v := nI (lenS.getD i 0)) rfl dJ1_charAt_3b067_2 ?_
  refine v_gov (pc := 3) C (wc := []) (wc' := fun (_ : Unit) => []) (w' := fun (_ : Unit) => []) [] rfl (fun _ => rfl) (fun _ => rfl) (v_runS (pc := 3) C [.int j, .int (nI (lenS.getD i 0))] [] (fun sz => ctJ0_checkIndex_df160 l E h0 h1 sz) [] rfl rfl mfJ0_checkIndex_df160 wtJ0_checkIndex_df160 wmJ1_9 rfl ⟨Nat.le_of_ble_eq_true rfl, Nat.le_of_ble_eq_true rfl⟩ ⟨rfl, rfl⟩ rfl (Nat.le_of_ble_eq_true rfl) ⟨Nat.zero_le _, Nat.zero_le _⟩ dJ1_charAt_3b067_3) (fun _ _ => ?_)
  refine v_aload_n (pc := 6) C 0 rfl rfl dJ1_charAt_3b067_6 ?_
  refine v_iload_n (pc := 7) C 1 rfl rfl dJ1_charAt_3b067_7 ?_
  refine v_tb (pc := 8) C (C.2.2.2.2.2.2.2.2.2.2.2.2.2.2.1.1 i hi).2.2.2 hj rfl dJ1_charAt_3b067_8 ?_
  refine v_sipush (pc := 9) C 255 ks_255 dJ1_charAt_3b067_9 ?_
  refine v_iand (pc := 12) C dJ1_charAt_3b067_12 ?_
  refine v_i2c (pc := 13) C dJ1_charAt_3b067_13 ?_
  rw [(sbyt i hi _ hk).1]
  exact v_irett (pc := 14) C (sbyt i hi _ hk).2 () hA rfl rfl dJ1_charAt_3b067_14
set_option maxHeartbeats 4000000 in
set_option maxRecDepth 100000 in
theorem ctJ0_charAt_5068e (l : Launch) (E : VE) {i : Nat} (hi : i < 4) {j : Int32} (hj : vp_in j (lenS.getD i 0)) (sz : Nat) : Met l yJ0_charAt_5068e (mW yJ0_charAt_5068e cJ0_charAt_5068e 2 (some .char)) rmP3 (CPre E [.ref (E.2.2.2.2.1 i), .int j] sz []) (CQi E (fun (z : Int32) (_ : Unit) => z = ((bytS.getD i []).getD j.toNatClampNeg 0)) (fun _ => []) [] sz) 0 0 (va_A [] sz) := by
  refine v_met (by decide) (Nat.le_of_ble_eq_true rfl) ?_
  intro pr e s m below meth c A hsz hA C
  subst hsz
  have hk : j.toNatClampNeg < lenS.getD i 0 := Nat.not_le.mp fun q => hj (Or.inr q)
  refine v_aload_n (pc := 0) C 0 rfl rfl dJ0_charAt_5068e_0 ?_
  refine v_goi (pc := 1) C (wc := []) (wc' := fun (_ : Unit) => []) (w' := fun (_ : Unit) => []) [] rfl (fun _ => rfl) (fun _ => rfl) (v_runK (pc := 1) C [] [] hi (fun sz => ctJ0_isLatin1_aae02 l E hi sz) mfJ0_isLatin1_aae02 wnJ0_isLatin1_aae02 wzJ0_J0_isLatin1_aae02_J0_isLatin1_aae02 wmJ0_492 rfl ⟨Nat.le_of_ble_eq_true rfl, Nat.le_of_ble_eq_true rfl⟩ ⟨rfl, rfl⟩ rfl (Nat.le_of_ble_eq_true rfl) ⟨Nat.zero_le _, Nat.zero_le _⟩ dJ0_charAt_5068e_1) (fun r _ hr => ?_)
  refine v_if_eq (pc := 4) C 16 rfl dJ0_charAt_5068e_4 (fun h => absurd (hr.symm.trans h) (by decide)) (fun _ => ?_)
  refine v_aload_n (pc := 7) C 0 rfl rfl dJ0_charAt_5068e_7 ?_
  refine v_getk (pc := 8) C (C.2.2.2.2.2.2.2.2.2.2.2.2.2.2.1.1 i hi).2.2.1 wfJ0_9 dJ0_charAt_5068e_8 ?_
  refine v_iload_n (pc := 11) C 1 rfl rfl dJ0_charAt_5068e_11 ?_
  refine v_goi (pc := 12) C (wc := []) (wc' := fun (_ : Unit) => []) (w' := fun (_ : Unit) => []) [] rfl (fun _ => rfl) (fun _ => rfl) (v_runS (pc := 12) C [.ref (E.2.2.2.2.2 i), .int j] [] (fun sz => ctJ1_charAt_3b067 l E hi hj sz) [] rfl rfl mfJ1_charAt_3b067 wtJ1_charAt_3b067 wmJ0_495 rfl ⟨Nat.le_of_ble_eq_true rfl, Nat.le_of_ble_eq_true rfl⟩ ⟨rfl, rfl⟩ rfl (Nat.le_of_ble_eq_true rfl) ⟨Nat.zero_le _, Nat.zero_le _⟩ dJ0_charAt_5068e_12) (fun r _ hr => ?_)
  subst hr
  exact v_irett (pc := 15) C (sbyt i hi _ hk).2 () hA rfl rfl dJ0_charAt_5068e_15
section
variable {p : Program} {l : Launch} {e : Env} {R : Room} {s : State} {m : MethodId} {args : Array Value} {below : List Frame} {meth : Method} {c : Code} {E : VE} {A : Nat → Prop} {cc : ByteArray} {nL cells slots : Nat} {ret : Option FieldType} {own : String} {Q : State → Prop} {w : va_W} {pc idx : Nat} {lv : List (Nat × Value)} {st : List Value}
theorem v_slen (C : VC p s m args meth c E A cc nL ret own) {i : Nat} (rest : List Value) (hi : i < 4) (hlk : Cond.methodLink own idx yJ0_length_8abf5 ∈ gG) (hfr : 4 ≤ R.frames) (hlo : 200 ≤ R.locals) (hroom : (rest.map fun v => v.category).sum ≤ 8) (hf : cells ≤ R.cells ∧ slots ≤ R.slots) (hd : decode cc pc = .ok (.invokevirtual idx, 3)) (k : V p l e R s m args below meth c E A nL cells slots Q w (pc + 3) lv (.int (nI (lenS.getD i 0)) :: rest)) : V p l e R s m args below meth c E A nL cells slots Q w pc lv (.ref (E.2.2.2.2.1 i) :: rest) := by
  refine v_goi C (wc := []) (wc' := fun (_ : Unit) => []) (w' := fun (_ : Unit) => w) [] rfl (fun _ => rfl) (fun _ => rfl) (v_runK C [] rest hi (fun sz => ctJ0_length_8abf5 l E hi sz) mfJ0_length_8abf5 wnJ0_length_8abf5 wzJ0_J0_length_8abf5_J0_length_8abf5 hlk rfl ⟨Nat.le_trans (by decide) hfr, Nat.le_trans (by decide) hlo⟩ ⟨rfl, rfl⟩ rfl hroom hf hd) (fun r _ hr => ?_)
  rw [hr]
  exact k
theorem v_scharAt (C : VC p s m args meth c E A cc nL ret own) {i : Nat} {j : Int32} (rest : List Value) (hi : i < 4) (hj : vp_in j (lenS.getD i 0)) (hlk : Cond.methodLink own idx yJ0_charAt_5068e ∈ gG) (hfr : 5 ≤ R.frames) (hlo : 200 ≤ R.locals) (hroom : (rest.map fun v => v.category).sum ≤ 8) (hf : cells ≤ R.cells ∧ slots ≤ R.slots) (hd : decode cc pc = .ok (.invokevirtual idx, 3)) (k : V p l e R s m args below meth c E A nL cells slots Q w (pc + 3) lv (.int ((bytS.getD i []).getD j.toNatClampNeg 0) :: rest)) : V p l e R s m args below meth c E A nL cells slots Q w pc lv (.int j :: .ref (E.2.2.2.2.1 i) :: rest) := by
  refine v_goi C (wc := []) (wc' := fun (_ : Unit) => []) (w' := fun (_ : Unit) => w) [] rfl (fun _ => rfl) (fun _ => rfl) (v_runK C [.int j] rest hi (fun sz => ctJ0_charAt_5068e l E hi hj sz) mfJ0_charAt_5068e wnJ0_charAt_5068e wzJ0_J0_charAt_5068e_J0_charAt_5068e hlk rfl ⟨Nat.le_trans (by decide) hfr, Nat.le_trans (by decide) hlo⟩ ⟨rfl, rfl⟩ rfl hroom hf hd) (fun r _ hr => ?_)
  rw [hr]
  exact k
theorem v_imageOf (C : VC p s m args meth c E A cc nL ret own) (a : Nat → Nat → Nat) (t : Nat → St) (x : Int32) (rest : List Value) (hlk : Cond.methodLink own idx yX11_imageOf ∈ gG) (hfr : 2 ≤ R.frames) (hlo : 60 ≤ R.locals) (hroom : (rest.map fun v => v.category).sum ≤ 8) (hf : cells ≤ R.cells ∧ slots ≤ R.slots) (hd : decode cc pc = .ok (.invokevirtual idx, 3)) (kt : x = 0 → V p l e R s m args below meth c E A nL cells slots Q (wBig E a t) (pc + 3) lv (.ref (a 4 0) :: rest)) (kf : ¬ x = 0 → V p l e R s m args below meth c E A nL cells slots Q (wBig E a t) (pc + 3) lv (.ref (a 5 0) :: rest)) : V p l e R s m args below meth c E A nL cells slots Q (wBig E a t) pc lv (.int x :: .ref (a 0 0) :: rest) := by
  by_cases h : x = 0
  · exact v_goq C (wc := bObj E a t) [0, 1] rfl rfl (v_runV C [.int x] rest (fun sz => ctX11_imageOf l E a t x (if_pos h) sz) [0, 1] rfl rfl mfX11_imageOf ⟨wnX11_imageOf, wzX11_X11_imageOf_X11_imageOf⟩ hlk rfl ⟨Nat.le_trans (by decide) hfr, Nat.le_trans (by decide) hlo⟩ ⟨rfl, rfl⟩ 0 (ci := 11) (qc := (RX11, TX11, 15)) rfl rfl rfl rfl hroom hf hd) (kt h)
  · exact v_goq C (wc := bObj E a t) [0, 1] rfl rfl (v_runV C [.int x] rest (fun sz => ctX11_imageOf l E a t x (if_neg h) sz) [0, 1] rfl rfl mfX11_imageOf ⟨wnX11_imageOf, wzX11_X11_imageOf_X11_imageOf⟩ hlk rfl ⟨Nat.le_trans (by decide) hfr, Nat.le_trans (by decide) hlo⟩ ⟨rfl, rfl⟩ 0 (ci := 11) (qc := (RX11, TX11, 15)) rfl rfl rfl rfl hroom hf hd) (kf h)
end

