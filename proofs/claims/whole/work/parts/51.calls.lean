def MF (y : MethodName) (cy : ByteArray) (ny : Nat) (ry : Option FieldType) (n : Nat) : Prop := Cond.code y cy ny ry ∈ gG ∧ Cond.initialized y.cls ∈ gG ∧ (y.cls ≠ "java/lang/invoke/MethodHandle" ∧ y.cls ≠ "java/lang/invoke/VarHandle" ∧ (parseMethodDescriptor y.desc).map (fun d => d.parameters.length) = some n)
def MFv (y : MethodName) (K : String) : Prop := Cond.instanceMethod y ∈ gG ∧ Cond.selects K y y ∈ gG
/-! blocks of cells -/
def fl (bs : List va_W) : va_W := bs.flatten
def putb : List va_W → List Nat → List va_W → List va_W
  | bs, i :: js, x :: xs => putb (bs.set i x) js xs
  | bs, _, _ => bs
theorem putb_mem : ∀ (js : List Nat) (xs bs : List va_W) (k : Nat) (b : va_W), (putb bs js xs)[k]? = some b → (b ∈ xs) ∨ (bs[k]? = some b ∧ (xs.length = js.length → k ∉ js))
  | [], xs, bs, k, q, h => by
    have h' : bs[k]? = some q := by cases xs <;> exact h
    exact Or.inr ⟨h', fun _ => List.not_mem_nil⟩
  | i :: is, [], w, k, q, h => Or.inr ⟨h, fun e => by simp at e⟩
  | i :: is, x :: xs, w, k, q, h => by
    have h1 : (putb (w.set i x) is xs)[k]? = some q := h
    rcases putb_mem is xs (w.set i x) k q h1 with h2 | ⟨h2, h3⟩
    · exact Or.inl (List.mem_cons_of_mem _ h2)
    · by_cases hk : i = k
      · subst hk
        by_cases hl : i < w.length
        · rw [List.getElem?_set_self hl] at h2
          exact Or.inl (by rw [← Option.some.inj h2]; exact List.mem_cons_self)
        · rw [List.getElem?_eq_none (by rw [List.length_set]; omega)] at h2
          cases h2
      · rw [List.getElem?_set_ne hk] at h2
        refine Or.inr ⟨h2, fun e => ?_⟩
        have e' : xs.length = is.length := by simpa using e
        intro hm
        rcases List.mem_cons.mp hm with h4 | h4
        · exact hk h4.symm
        · exact h3 e' h4
theorem putb_adr : ∀ (js : List Nat) (xs bs : List va_W), js.map (fun i => (bs.map (List.map Prod.fst))[i]?) = (xs.map (List.map Prod.fst)).map some → (putb bs js xs).map (List.map Prod.fst) = bs.map (List.map Prod.fst)
  | [], xs, w, _ => by cases xs <;> rfl
  | i :: is, [], w, h => by simp at h
  | i :: is, x :: xs, w, h => by
    have h1 : (w.map (List.map Prod.fst))[i]? = some (x.map Prod.fst) := by
      have := congrArg List.head? h
      simpa using this
    have h2 : is.map (fun i => (w.map (List.map Prod.fst))[i]?) = (xs.map (List.map Prod.fst)).map some := by
      have := congrArg List.tail h
      simpa using this
    have e : (w.set i x).map (List.map Prod.fst) = w.map (List.map Prod.fst) := by
      rw [List.map_set]
      apply List.ext_getElem?
      intro k
      by_cases hk : i = k
      · subst hk
        rw [h1, List.getElem?_set_self (List.getElem?_eq_some_iff.mp h1).1]
      · rw [List.getElem?_set_ne hk]
    show (putb (w.set i x) is xs).map (List.map Prod.fst) = _
    rw [putb_adr is xs (w.set i x) (by rw [e]; exact h2), e]
theorem va_D_app {A : Nat → Prop} {x y : va_W} (h : va_D A (x ++ y)) : va_D A x ∧ va_D A y ∧ ∀ p ∈ x, ∀ q ∈ y, p.1 ≠ q.1 := by
  have hx : ∀ (k : Nat) (q : Nat × va_E), x[k]? = some q → (x ++ y)[k]? = some q := fun k q hq => by
    rw [List.getElem?_append_left (List.getElem?_eq_some_iff.mp hq).1]; exact hq
  have hy : ∀ (k : Nat) (q : Nat × va_E), y[k]? = some q → (x ++ y)[x.length + k]? = some q := fun k q hq => by
    rw [List.getElem?_append_right (by omega)]; simpa using hq
  refine ⟨⟨fun i j p q hp hq e => h.1 i j p q (hx i p hp) (hx j q hq) e, fun k q hq => h.2 k q (hx k q hq)⟩, ⟨fun i j p q hp hq e => ?_, fun k q hq => h.2 _ q (hy k q hq)⟩, fun p hp q hq e => ?_⟩
  · have := h.1 _ _ p q (hy i p hp) (hy j q hq) e
    omega
  · obtain ⟨i, hi⟩ := List.getElem?_of_mem hp
    obtain ⟨j, hj⟩ := List.getElem?_of_mem hq
    have h1 := h.1 _ _ p q (hx i p hi) (hy j q hj) e
    have h2 := (List.getElem?_eq_some_iff.mp hi).1
    omega
theorem va_D_blk {A : Nat → Prop} : ∀ (bs : List va_W), va_D A bs.flatten → ∀ (i : Nat) (b : va_W), bs[i]? = some b → va_D A b
  | [], _, i, b, h => by simp at h
  | x :: bs, hD, 0, b, h => by
    have e : x = b := by simpa using h
    subst e
    exact (va_D_app (by simpa using hD)).1
  | x :: bs, hD, i + 1, b, h => va_D_blk bs (va_D_app (x := x) (by simpa using hD)).2.1 i b (by simpa using h)
theorem va_D_dis {A : Nat → Prop} : ∀ (bs : List va_W), va_D A bs.flatten → ∀ (i j : Nat) (b b' : va_W), i ≠ j → bs[i]? = some b → bs[j]? = some b' → ∀ p ∈ b, ∀ q ∈ b', p.1 ≠ q.1
  | [], _, i, j, b, b', _, h, _ => by simp at h
  | x :: bs, hD, 0, 0, b, b', hij, _, _ => absurd rfl hij
  | x :: bs, hD, 0, j + 1, b, b', _, h, h' => by
    have e : x = b := by simpa using h
    subst e
    intro p hp q hq
    exact (va_D_app (x := x) (by simpa using hD)).2.2 p hp q (List.mem_flatten.mpr ⟨b', List.mem_of_getElem? (by simpa using h'), hq⟩)
  | x :: bs, hD, i + 1, 0, b, b', _, h, h' => by
    have e : x = b' := by simpa using h'
    subst e
    intro p hp q hq e2
    exact (va_D_app (x := x) (by simpa using hD)).2.2 q hq p (List.mem_flatten.mpr ⟨b, List.mem_of_getElem? (by simpa using h), hp⟩) e2.symm
  | x :: bs, hD, i + 1, j + 1, b, b', hij, h, h' => va_D_dis bs (va_D_app (x := x) (by simpa using hD)).2.1 i j b b' (fun e => hij (by rw [e])) (by simpa using h) (by simpa using h')
theorem va_D_mk {A : Nat → Prop} : ∀ (cs : List va_W), (∀ b ∈ cs, va_D A b) → (∀ (i j : Nat) (b b' : va_W), i ≠ j → cs[i]? = some b → cs[j]? = some b' → ∀ p ∈ b, ∀ q ∈ b', p.1 ≠ q.1) → va_D A cs.flatten
  | [], _, _ => ⟨fun i j p q hp => by simp at hp, fun k q hq => by simp at hq⟩
  | x :: cs, h, hd => by
    rw [List.flatten_cons]
    refine va_D.app (h x List.mem_cons_self) (va_D_mk cs (fun b hb => h b (List.mem_cons_of_mem _ hb)) (fun i j b b' hij hb hb' => hd (i + 1) (j + 1) b b' (fun e => hij (by omega)) (by simpa using hb) (by simpa using hb'))) (fun i j p q hp hq => ?_)
    obtain ⟨b', hb', hq'⟩ := List.mem_flatten.mp (List.mem_of_getElem? hq)
    obtain ⟨k, hk⟩ := List.getElem?_of_mem hb'
    exact hd 0 (k + 1) x b' (by omega) (by simp) (by simpa using hk) p (List.mem_of_getElem? hp) q hq'
theorem pickB {bs cs : List va_W} {js : List Nat} (hC : js.map (fun i => bs[i]?) = cs.map some) {k : Nat} {b : va_W} (h : cs[k]? = some b) : ∃ i, js[k]? = some i ∧ bs[i]? = some b := by
  have h4 : (js.map (fun i => bs[i]?))[k]? = some (some b) := by rw [hC, List.getElem?_map, h]; rfl
  rw [List.getElem?_map] at h4
  cases hi : js[k]? with
  | none => rw [hi] at h4; cases h4
  | some i =>
    rw [hi] at h4
    exact ⟨i, rfl, Option.some.inj h4⟩
theorem va_P_iff {D : va_G} {w : va_W} {H : Heap} : va_P D vwCl w H ↔ ∀ q ∈ w, va_at D vwCl q H :=
  ⟨fun h q hq => by obtain ⟨k, hk⟩ := List.getElem?_of_mem hq; exact h k q hk, fun h k q hq => h q (List.mem_of_getElem? hq)⟩
theorem pickB_P {D : va_G} {bs cs : List va_W} {js : List Nat} {H : Heap} (hP : va_P D vwCl (fl bs) H) (hC : js.map (fun i => bs[i]?) = cs.map some) : va_P D vwCl (fl cs) H := by
  rw [va_P_iff] at hP ⊢
  intro q hq
  obtain ⟨b, hb, hq⟩ := List.mem_flatten.mp hq
  obtain ⟨k, hk⟩ := List.getElem?_of_mem hb
  obtain ⟨i, -, hi⟩ := pickB hC hk
  exact hP q (List.mem_flatten.mpr ⟨b, List.mem_of_getElem? hi, hq⟩)
theorem pickB_D {A : Nat → Prop} {bs cs : List va_W} {js : List Nat} (hD : va_D A (fl bs)) (hC : js.map (fun i => bs[i]?) = cs.map some) (hnd : va_nd js = true) : va_D A (fl cs) := by
  refine va_D_mk cs (fun b hb => ?_) (fun i j b b' hij hb hb' => ?_)
  · obtain ⟨k, hk⟩ := List.getElem?_of_mem hb
    obtain ⟨i, -, hi⟩ := pickB hC hk
    exact va_D_blk bs hD i b hi
  · obtain ⟨i', h1, h2⟩ := pickB hC hb
    obtain ⟨j', h3, h4⟩ := pickB hC hb'
    exact va_D_dis bs hD i' j' b b' (fun e => hij (va_nd_inj js hnd i j i' h1 (by rw [e]; exact h3))) h2 h4
theorem pickB_A {A : Nat → Prop} {bs cs : List va_W} {js : List Nat} {H0 H : Heap} {locs : List Loc} (hD : va_D A (fl bs)) (hS : va_S A H0 H locs) (hA : ∀ q : Nat, H0.size ≤ q → A q) (hC : js.map (fun i => bs[i]?) = cs.map some) : ∀ q, va_A (fl cs) H.size q → A q := by
  intro q h
  rcases h with ⟨k, x, h⟩ | h
  · obtain ⟨b, hb, hq⟩ := List.mem_flatten.mp (List.mem_of_getElem? h)
    obtain ⟨k2, hk⟩ := List.getElem?_of_mem hb
    obtain ⟨i, -, hi⟩ := pickB hC hk
    obtain ⟨k3, h3⟩ := List.getElem?_of_mem (List.mem_flatten.mpr ⟨b, List.mem_of_getElem? hi, hq⟩)
    exact hD.2 k3 (q, x) h3
  · exact hA q (Nat.le_trans hS.1 h)
theorem joinB {A : Nat → Prop} {D : va_G} {bs cs cs' : List va_W} {H H1 : Heap} (hP : va_P D vwCl (fl bs) H) (hD : va_D A (fl bs)) (js : List Nat) (hC : js.map (fun i => bs[i]?) = cs.map some) (hadr : cs'.map (List.map Prod.fst) = cs.map (List.map Prod.fst))
    (hk : ∀ q : Nat, q < H.size → ¬ va_A (fl cs) H.size q → H1[q]? = H[q]?) (hP1 : va_P D vwCl (fl cs') H1) : va_P D vwCl (fl (putb bs js cs')) H1 ∧ va_D A (fl (putb bs js cs')) := by
  have hlen : cs'.length = js.length := by
    have h1 := congrArg List.length hC
    have h2 := congrArg List.length hadr
    simp at h1 h2
    omega
  refine ⟨?_, va_D_adr hD ?_⟩
  · rw [va_P_iff] at hP hP1 ⊢
    intro q hq
    obtain ⟨b, hb, hq⟩ := List.mem_flatten.mp hq
    obtain ⟨k, hb⟩ := List.getElem?_of_mem hb
    rcases putb_mem js cs' bs k b hb with h | ⟨h, h2⟩
    · exact hP1 q (List.mem_flatten.mpr ⟨b, h, hq⟩)
    · have hat := hP q (List.mem_flatten.mpr ⟨b, List.mem_of_getElem? h, hq⟩)
      refine hat.kept (hk q.1 hat.lt (fun hA => ?_))
      rcases hA with ⟨k2, e, h3⟩ | h3
      · obtain ⟨b2, hb2, hq2⟩ := List.mem_flatten.mp (List.mem_of_getElem? h3)
        obtain ⟨k3, hb2⟩ := List.getElem?_of_mem hb2
        obtain ⟨i, h4, h5⟩ := pickB hC hb2
        exact va_D_dis bs hD k i b b2 (fun e => h2 hlen (by rw [e]; exact List.mem_of_getElem? h4)) h h5 q hq _ hq2 rfl
      · exact absurd hat.lt (Nat.not_lt.mpr h3)
  · have h0 := putb_adr js cs' bs (by
      rw [hadr]
      have h1 : js.map (fun i => (bs.map (List.map Prod.fst))[i]?) = (js.map (fun i => bs[i]?)).map (Option.map (List.map Prod.fst)) := by
        rw [List.map_map]
        apply List.map_congr_left
        intro i _
        simp [List.getElem?_map]
      rw [h1, hC, List.map_map, List.map_map]
      rfl)
    show ((putb bs js cs').flatten).map Prod.fst = (bs.flatten).map Prod.fst
    rw [List.map_flatten, List.map_flatten, h0]
section
variable {p : Program} {l : Launch} {e : Env} {R : Room} {s : State} {m : MethodId} {args : Array Value} {below : List Frame} {meth : Method} {c : Code} {E : VE} {A : Nat → Prop} {cc : ByteArray} {nL cells slots : Nat} {ret : Option FieldType} {own : String} {Q : State → Prop} {w : va_W} {pc : Nat} {lv : List (Nat × Value)} {st : List Value}
variable {y : MethodName} {cy : ByteArray} {ny n idx : Nat} {ry : Option FieldType} {rm : Room} {S : Type} {b : Nat} {K : String}
theorem v_freeA (C : VC p s m args meth c E A cc nL ret own) {H : Heap} {locs : List Loc} (hD : va_D A w) (hS : va_S A s.heap H locs) : ∀ q, va_A w H.size q → A q := by
  intro q h
  rcases h with ⟨k, x, h⟩ | h
  · exact hD.2 k (q, x) h
  · exact C.2.2.2.2.2.2.2.1 q (Nat.le_trans hS.1 h)
theorem v_goi (C : VC p s m args meth c E A cc nL ret own) {Post : Int32 → S → Prop} {wc : va_W} {wc' w' : S → va_W} {rest : List Value} {a : Array Value} (is : List Nat)
    (hC : is.map (fun i => w[i]?) = wc.map some) (hadr : ∀ u, (wc' u).map Prod.fst = wc.map Prod.fst) (hw' : ∀ u, putc w is (wc' u) = w' u)
    (run : ∀ (H : Heap) (locs : List Loc) (ls : Array Slot), va_P E.1 vwCl w H → va_D A w → va_S A s.heap H locs → lv_has ls nL lv → va_Run p l e R s m args below meth c H locs cells slots 0 0 (F0 m pc ls st) rest (CQi E Post wc' wc H.size a) (va_A wc H.size))
    (kk : ∀ (r : Int32) (u : S), Post r u → V p l e R s m args below meth c E A nL cells slots Q (w' u) (pc + 3) lv (.int r :: rest)) : V p l e R s m args below meth c E A nL cells slots Q w pc lv st := by
  intro H locs ls hP hD hS hl
  have hF := va_free hD hS C.2.2.2.2.2.2.2.1 is hC
  refine va_calli (run H locs ls hP hD hS hl) hS (fun q _ h => hF q h) hF (fun r u t H1 locs1 ht hvm hp hB hz hk hS1 => ?_)
  have hP1 : va_P E.1 vwCl (wc' u) H1 := ht ▸ hB
  obtain ⟨h1, h2⟩ := put_join hP hD is hC (hadr u) hk hP1
  exact kk r u hp H1 locs1 ls (hw' u ▸ h1) (hw' u ▸ h2) hS1 hl
theorem v_gol (C : VC p s m args meth c E A cc nL ret own) {Post : Int64 → S → Prop} {wc : va_W} {wc' w' : S → va_W} {rest : List Value} {a : Array Value} (is : List Nat)
    (hC : is.map (fun i => w[i]?) = wc.map some) (hadr : ∀ u, (wc' u).map Prod.fst = wc.map Prod.fst) (hw' : ∀ u, putc w is (wc' u) = w' u)
    (run : ∀ (H : Heap) (locs : List Loc) (ls : Array Slot), va_P E.1 vwCl w H → va_D A w → va_S A s.heap H locs → lv_has ls nL lv → va_Run p l e R s m args below meth c H locs cells slots 0 0 (F0 m pc ls st) rest (CQl E Post wc' wc H.size a) (va_A wc H.size))
    (kk : ∀ (r : Int64) (u : S), Post r u → V p l e R s m args below meth c E A nL cells slots Q (w' u) (pc + 3) lv (.long r :: rest)) : V p l e R s m args below meth c E A nL cells slots Q w pc lv st := by
  intro H locs ls hP hD hS hl
  have hF := va_free hD hS C.2.2.2.2.2.2.2.1 is hC
  refine va_calll (run H locs ls hP hD hS hl) hS (fun q _ h => hF q h) hF (fun r u t H1 locs1 ht hvm hp hB hz hk hS1 => ?_)
  have hP1 : va_P E.1 vwCl (wc' u) H1 := ht ▸ hB
  obtain ⟨h1, h2⟩ := put_join hP hD is hC (hadr u) hk hP1
  exact kk r u hp H1 locs1 ls (hw' u ▸ h1) (hw' u ▸ h2) hS1 hl
theorem v_gov (C : VC p s m args meth c E A cc nL ret own) {Post : S → Prop} {wc : va_W} {wc' w' : S → va_W} {rest : List Value} {a : Array Value} (is : List Nat)
    (hC : is.map (fun i => w[i]?) = wc.map some) (hadr : ∀ u, (wc' u).map Prod.fst = wc.map Prod.fst) (hw' : ∀ u, putc w is (wc' u) = w' u)
    (run : ∀ (H : Heap) (locs : List Loc) (ls : Array Slot), va_P E.1 vwCl w H → va_D A w → va_S A s.heap H locs → lv_has ls nL lv → va_Run p l e R s m args below meth c H locs cells slots 0 0 (F0 m pc ls st) rest (CQv E Post wc' wc H.size a) (va_A wc H.size))
    (kk : ∀ (u : S), Post u → V p l e R s m args below meth c E A nL cells slots Q (w' u) (pc + 3) lv rest) : V p l e R s m args below meth c E A nL cells slots Q w pc lv st := by
  intro H locs ls hP hD hS hl
  have hF := va_free hD hS C.2.2.2.2.2.2.2.1 is hC
  refine va_callv (run H locs ls hP hD hS hl) hS (fun q _ h => hF q h) hF (fun u t H1 locs1 ht hvm hp hB hz hk hS1 => ?_)
  have hP1 : va_P E.1 vwCl (wc' u) H1 := ht ▸ hB
  obtain ⟨h1, h2⟩ := put_join hP hD is hC (hadr u) hk hP1
  exact kk u hp H1 locs1 ls (hw' u ▸ h1) (hw' u ▸ h2) hS1 hl
/-- the start of a callee's contract -/
theorem v_pre (C : VC p s m args meth c E A cc nL ret own) {wc : va_W} {H : Heap} (is : List Nat) (hC : is.map (fun i => w[i]?) = wc.map some) (hnd : va_nd is = true) {locs : List Loc} (hP : va_P E.1 vwCl w H) (hD : va_D A w) (hS : va_S A s.heap H locs) (av : List Value) : ∀ U : State, U.heap = H → s.WarmedH U.vm → CPre E av H.size wc av.toArray U := by
  intro U hU hW
  exact ⟨rfl, by rw [hU], by rw [hU]; exact pick_P hP is hC, va_K.moved hW.alike C.2.2.2.2.2.2.1, (hD.sub is hnd hC).weaken (fun _ _ _ _ => trivial), fun x hx => nst_warm (List.mem_filter.mp hx).2 hW (C.2.2.2.2.2.2.2.2.2.1 x hx), sF_go C.2.2.2.2.2.2.2.2.2.2 hS (va_free hD hS C.2.2.2.2.2.2.2.1 is hC) hW hU⟩
/-- a virtual call -/
theorem v_runV (C : VC p s m args meth c E A cc nL ret own) {Qc : Nat → Array Value → State → Outcome → State → Prop} {wc : va_W} (As rest : List Value) (hM : ∀ sz, Met l y (mW y cy ny ry) rm (CPre E (.ref b :: As) sz wc) (Qc sz) 0 0 (va_A wc sz)) (is : List Nat) (hC : is.map (fun i => w[i]?) = wc.map some) (hnd : va_nd is = true)
    (mf : MF y cy ny ry n) (mv : MFv y K) (hlk : Cond.methodLink own idx y ∈ gG) (hn : As.length = n) (hR : rm.frames + 1 ≤ R.frames ∧ 8 + (ny + 11) + rm.locals ≤ R.locals) (hz : rm.cells = 0 ∧ rm.slots = 0)
    (qr : Nat) {ci : Nat} {fs : List Value} {qc : vw_C} (hcr : vwCl[ci]? = some qc) (hK : qc.1 = K) (her : w[qr]? = some (b, .inr (ci, fs))) (hst : st = As.reverse ++ .ref b :: rest) (hroom : (rest.map fun v => v.category).sum ≤ 8) (hf : cells ≤ R.cells ∧ slots ≤ R.slots) (hd : decode cc pc = .ok (.invokevirtual idx, 3)) :
    ∀ (H : Heap) (locs : List Loc) (ls : Array Slot), va_P E.1 vwCl w H → va_D A w → va_S A s.heap H locs → lv_has ls nL lv → va_Run p l e R s m args below meth c H locs cells slots 0 0 (F0 m pc ls st) rest (Qc H.size (Value.ref b :: As).toArray) (va_A wc H.size) := by
  intro H locs ls hP hD hS hl
  subst hst
  subst hK
  have cb : CallB R s args own idx y cy ny ry (mW y cy ny ry) rm 0 0 n := callB_of n C.2.2.2.2.2.1 (mW_good (fun _ h => h) mf.1) rfl hz.1 hz.2 (C.2.2.2.2.2.1 _ mf.2.1) (C.2.2.2.2.2.1 _ hlk) mf.2.2 hR
  exact va_runV ⟨C.1, C.2.1, C.2.2.1, C.2.2.2.2.1, C.2.2.2.2.2.1⟩ (hM H.size) ⟨cb, C.2.2.2.2.2.1 _ mv.1, C.2.2.2.2.2.1 _ mv.2⟩ ⟨CPre_blind, va_recv C.2.2.2.2.2.2.1 hP hcr her, v_pre C is hC hnd hP hD hS (.ref b :: As)⟩ rfl hn hl.1 rfl (lv_room hroom) hd hf
theorem v_runS (C : VC p s m args meth c E A cc nL ret own) {Qc : Nat → Array Value → State → Outcome → State → Prop} {wc : va_W} (As rest : List Value) (hM : ∀ sz, Met l y (mW y cy ny ry) rm (CPre E As sz wc) (Qc sz) 0 0 (va_A wc sz)) (is : List Nat) (hC : is.map (fun i => w[i]?) = wc.map some) (hnd : va_nd is = true)
    (mf : MF y cy ny ry n) (ms : Cond.static y ∈ gG) (hlk : Cond.methodLink own idx y ∈ gG) (hn : As.length = n) (hR : rm.frames + 1 ≤ R.frames ∧ 8 + (ny + 11) + rm.locals ≤ R.locals) (hz : rm.cells = 0 ∧ rm.slots = 0)
    (hst : st = As.reverse ++ rest) (hroom : (rest.map fun v => v.category).sum ≤ 8) (hf : cells ≤ R.cells ∧ slots ≤ R.slots) (hd : decode cc pc = .ok (.invokestatic idx, 3)) :
    ∀ (H : Heap) (locs : List Loc) (ls : Array Slot), va_P E.1 vwCl w H → va_D A w → va_S A s.heap H locs → lv_has ls nL lv → va_Run p l e R s m args below meth c H locs cells slots 0 0 (F0 m pc ls st) rest (Qc H.size As.toArray) (va_A wc H.size) := by
  intro H locs ls hP hD hS hl
  subst hst
  have cb : CallB R s args own idx y cy ny ry (mW y cy ny ry) rm 0 0 n := callB_of n C.2.2.2.2.2.1 (mW_good (fun _ h => h) mf.1) rfl hz.1 hz.2 (C.2.2.2.2.2.1 _ mf.2.1) (C.2.2.2.2.2.1 _ hlk) mf.2.2 hR
  exact va_runS ⟨C.1, C.2.1, C.2.2.1, C.2.2.2.2.1, C.2.2.2.2.2.1⟩ (hM H.size) ⟨cb, C.2.2.2.2.2.1 _ ms⟩ ⟨CPre_blind, v_pre C is hC hnd hP hD hS As⟩ rfl hn hl.1 rfl (lv_room hroom) hd hf
theorem v_runSN (C : VC p s m args meth c E A cc nL ret own) {Qc : Nat → Array Value → State → Outcome → State → Prop} {wc : va_W} {host : String} (As rest : List Value) (hM : ∀ sz, Met l y (mW y cy ny ry) rm (CPre E As sz wc) (Qc sz) 0 0 (va_A wc sz)) (is : List Nat) (hC : is.map (fun i => w[i]?) = wc.map some) (hnd : va_nd is = true)
    (mf : MF y cy ny ry n) (ms : Cond.static y ∈ gG) (hlk : Cond.methodLinkNest own idx y host ∈ nW) (hn : As.length = n) (hR : rm.frames + 1 ≤ R.frames ∧ 8 + (ny + 11) + rm.locals ≤ R.locals) (hz : rm.cells = 0 ∧ rm.slots = 0)
    (hst : st = As.reverse ++ rest) (hroom : (rest.map fun v => v.category).sum ≤ 8) (hf : cells ≤ R.cells ∧ slots ≤ R.slots) (hd : decode cc pc = .ok (.invokestatic idx, 3)) :
    ∀ (H : Heap) (locs : List Loc) (ls : Array Slot), va_P E.1 vwCl w H → va_D A w → va_S A s.heap H locs → lv_has ls nL lv → va_Run p l e R s m args below meth c H locs cells slots 0 0 (F0 m pc ls st) rest (Qc H.size As.toArray) (va_A wc H.size) := by
  intro H locs ls hP hD hS hl
  subst hst
  exact va_runSN ⟨C.1, C.2.1, C.2.2.1, C.2.2.2.2.1, C.2.2.2.2.2.1⟩ (hM H.size) ⟨va_cnB n C.2.2.2.2.2.1 (mW_good (fun _ h => h) mf.1) rfl hz.1 hz.2 (C.2.2.2.2.2.2.2.2.2.1 _ hlk) (C.2.2.2.2.2.1 _ mf.2.1) mf.2.2 hR, C.2.2.2.2.2.1 _ ms, trivial⟩ ⟨CPre_blind, v_pre C is hC hnd hP hD hS As⟩ rfl hn hl.1 rfl (lv_room hroom) hd hf
theorem v_goBi (C : VC p s m args meth c E A cc nL ret own) {Post : Int32 → S → Prop} {bs cs : List va_W} {cs' bs' : S → List va_W} {w' : S → va_W} {rest : List Value} {a : Array Value} (js : List Nat) (hw : w = fl bs)
    (hC : js.map (fun i => bs[i]?) = cs.map some) (hadr : ∀ u, (cs' u).map (List.map Prod.fst) = cs.map (List.map Prod.fst)) (hb : ∀ u, putb bs js (cs' u) = bs' u) (hw' : ∀ u, fl (bs' u) = w' u)
    (run : ∀ (H : Heap) (locs : List Loc) (ls : Array Slot), va_P E.1 vwCl w H → va_D A w → va_S A s.heap H locs → lv_has ls nL lv → va_Run p l e R s m args below meth c H locs cells slots 0 0 (F0 m pc ls st) rest (CQi E Post (fun u => fl (cs' u)) (fl cs) H.size a) (va_A (fl cs) H.size))
    (kk : ∀ (r : Int32) (u : S), Post r u → V p l e R s m args below meth c E A nL cells slots Q (w' u) (pc + 3) lv (.int r :: rest)) : V p l e R s m args below meth c E A nL cells slots Q w pc lv st := by
  intro H locs ls hP hD hS hl
  subst hw
  have hF := pickB_A hD hS C.2.2.2.2.2.2.2.1 hC
  refine va_calli (run H locs ls hP hD hS hl) hS (fun q _ h => hF q h) hF (fun r u t H1 locs1 ht hvm hp hB hz hk hS1 => ?_)
  have hP1 : va_P E.1 vwCl (fl (cs' u)) H1 := ht ▸ hB
  obtain ⟨h1, h2⟩ := joinB hP hD js hC (hadr u) hk hP1
  exact kk r u hp H1 locs1 ls (hw' u ▸ hb u ▸ h1) (hw' u ▸ hb u ▸ h2) hS1 hl
theorem v_goBl (C : VC p s m args meth c E A cc nL ret own) {Post : Int64 → S → Prop} {bs cs : List va_W} {cs' bs' : S → List va_W} {w' : S → va_W} {rest : List Value} {a : Array Value} (js : List Nat) (hw : w = fl bs)
    (hC : js.map (fun i => bs[i]?) = cs.map some) (hadr : ∀ u, (cs' u).map (List.map Prod.fst) = cs.map (List.map Prod.fst)) (hb : ∀ u, putb bs js (cs' u) = bs' u) (hw' : ∀ u, fl (bs' u) = w' u)
    (run : ∀ (H : Heap) (locs : List Loc) (ls : Array Slot), va_P E.1 vwCl w H → va_D A w → va_S A s.heap H locs → lv_has ls nL lv → va_Run p l e R s m args below meth c H locs cells slots 0 0 (F0 m pc ls st) rest (CQl E Post (fun u => fl (cs' u)) (fl cs) H.size a) (va_A (fl cs) H.size))
    (kk : ∀ (r : Int64) (u : S), Post r u → V p l e R s m args below meth c E A nL cells slots Q (w' u) (pc + 3) lv (.long r :: rest)) : V p l e R s m args below meth c E A nL cells slots Q w pc lv st := by
  intro H locs ls hP hD hS hl
  subst hw
  have hF := pickB_A hD hS C.2.2.2.2.2.2.2.1 hC
  refine va_calll (run H locs ls hP hD hS hl) hS (fun q _ h => hF q h) hF (fun r u t H1 locs1 ht hvm hp hB hz hk hS1 => ?_)
  have hP1 : va_P E.1 vwCl (fl (cs' u)) H1 := ht ▸ hB
  obtain ⟨h1, h2⟩ := joinB hP hD js hC (hadr u) hk hP1
  exact kk r u hp H1 locs1 ls (hw' u ▸ hb u ▸ h1) (hw' u ▸ hb u ▸ h2) hS1 hl
theorem v_goBv (C : VC p s m args meth c E A cc nL ret own) {Post : S → Prop} {bs cs : List va_W} {cs' bs' : S → List va_W} {w' : S → va_W} {rest : List Value} {a : Array Value} (js : List Nat) (hw : w = fl bs)
    (hC : js.map (fun i => bs[i]?) = cs.map some) (hadr : ∀ u, (cs' u).map (List.map Prod.fst) = cs.map (List.map Prod.fst)) (hb : ∀ u, putb bs js (cs' u) = bs' u) (hw' : ∀ u, fl (bs' u) = w' u)
    (run : ∀ (H : Heap) (locs : List Loc) (ls : Array Slot), va_P E.1 vwCl w H → va_D A w → va_S A s.heap H locs → lv_has ls nL lv → va_Run p l e R s m args below meth c H locs cells slots 0 0 (F0 m pc ls st) rest (CQv E Post (fun u => fl (cs' u)) (fl cs) H.size a) (va_A (fl cs) H.size))
    (kk : ∀ (u : S), Post u → V p l e R s m args below meth c E A nL cells slots Q (w' u) (pc + 3) lv rest) : V p l e R s m args below meth c E A nL cells slots Q w pc lv st := by
  intro H locs ls hP hD hS hl
  subst hw
  have hF := pickB_A hD hS C.2.2.2.2.2.2.2.1 hC
  refine va_callv (run H locs ls hP hD hS hl) hS (fun q _ h => hF q h) hF (fun u t H1 locs1 ht hvm hp hB hz hk hS1 => ?_)
  have hP1 : va_P E.1 vwCl (fl (cs' u)) H1 := ht ▸ hB
  obtain ⟨h1, h2⟩ := joinB hP hD js hC (hadr u) hk hP1
  exact kk u hp H1 locs1 ls (hw' u ▸ hb u ▸ h1) (hw' u ▸ hb u ▸ h2) hS1 hl
theorem v_preB (C : VC p s m args meth c E A cc nL ret own) {bs cs : List va_W} {H : Heap} (js : List Nat) (hC : js.map (fun i => bs[i]?) = cs.map some) (hnd : va_nd js = true) {locs : List Loc} (hP : va_P E.1 vwCl (fl bs) H) (hD : va_D A (fl bs)) (hS : va_S A s.heap H locs) (av : List Value) : ∀ U : State, U.heap = H → s.WarmedH U.vm → CPre E av H.size (fl cs) av.toArray U := by
  intro U hU hW
  exact ⟨rfl, by rw [hU], by rw [hU]; exact pickB_P hP hC, va_K.moved hW.alike C.2.2.2.2.2.2.1, (pickB_D hD hC hnd).weaken (fun _ _ _ _ => trivial), fun x hx => nst_warm (List.mem_filter.mp hx).2 hW (C.2.2.2.2.2.2.2.2.2.1 x hx), sF_go C.2.2.2.2.2.2.2.2.2.2 hS (pickB_A hD hS C.2.2.2.2.2.2.2.1 hC) hW hU⟩
theorem v_runVB (C : VC p s m args meth c E A cc nL ret own) {Qc : Nat → Array Value → State → Outcome → State → Prop} {bs cs : List va_W} (As rest : List Value) (hM : ∀ sz, Met l y (mW y cy ny ry) rm (CPre E (.ref b :: As) sz (fl cs)) (Qc sz) 0 0 (va_A (fl cs) sz)) (js : List Nat) (hwb : w = fl bs) (hC : js.map (fun i => bs[i]?) = cs.map some) (hnd : va_nd js = true)
    (mf : MF y cy ny ry n) (mv : MFv y K) (hlk : Cond.methodLink own idx y ∈ gG) (hn : As.length = n) (hR : rm.frames + 1 ≤ R.frames ∧ 8 + (ny + 11) + rm.locals ≤ R.locals) (hz : rm.cells = 0 ∧ rm.slots = 0)
    (qr : Nat) {ci : Nat} {fs : List Value} {qc : vw_C} (hcr : vwCl[ci]? = some qc) (hK : qc.1 = K) (her : w[qr]? = some (b, .inr (ci, fs))) (hst : st = As.reverse ++ .ref b :: rest) (hroom : (rest.map fun v => v.category).sum ≤ 8) (hf : cells ≤ R.cells ∧ slots ≤ R.slots) (hd : decode cc pc = .ok (.invokevirtual idx, 3)) :
    ∀ (H : Heap) (locs : List Loc) (ls : Array Slot), va_P E.1 vwCl w H → va_D A w → va_S A s.heap H locs → lv_has ls nL lv → va_Run p l e R s m args below meth c H locs cells slots 0 0 (F0 m pc ls st) rest (Qc H.size (Value.ref b :: As).toArray) (va_A (fl cs) H.size) := by
  intro H locs ls hP hD hS hl
  subst hst
  subst hwb
  subst hK
  have cb : CallB R s args own idx y cy ny ry (mW y cy ny ry) rm 0 0 n := callB_of n C.2.2.2.2.2.1 (mW_good (fun _ h => h) mf.1) rfl hz.1 hz.2 (C.2.2.2.2.2.1 _ mf.2.1) (C.2.2.2.2.2.1 _ hlk) mf.2.2 hR
  exact va_runV ⟨C.1, C.2.1, C.2.2.1, C.2.2.2.2.1, C.2.2.2.2.2.1⟩ (hM H.size) ⟨cb, C.2.2.2.2.2.1 _ mv.1, C.2.2.2.2.2.1 _ mv.2⟩ ⟨CPre_blind, va_recv C.2.2.2.2.2.2.1 hP hcr her, v_preB C js hC hnd hP hD hS (.ref b :: As)⟩ rfl hn hl.1 rfl (lv_room hroom) hd hf
theorem v_runSB (C : VC p s m args meth c E A cc nL ret own) {Qc : Nat → Array Value → State → Outcome → State → Prop} {bs cs : List va_W} (As rest : List Value) (hM : ∀ sz, Met l y (mW y cy ny ry) rm (CPre E As sz (fl cs)) (Qc sz) 0 0 (va_A (fl cs) sz)) (js : List Nat) (hwb : w = fl bs) (hC : js.map (fun i => bs[i]?) = cs.map some) (hnd : va_nd js = true)
    (mf : MF y cy ny ry n) (ms : Cond.static y ∈ gG) (hlk : Cond.methodLink own idx y ∈ gG) (hn : As.length = n) (hR : rm.frames + 1 ≤ R.frames ∧ 8 + (ny + 11) + rm.locals ≤ R.locals) (hz : rm.cells = 0 ∧ rm.slots = 0)
    (hst : st = As.reverse ++ rest) (hroom : (rest.map fun v => v.category).sum ≤ 8) (hf : cells ≤ R.cells ∧ slots ≤ R.slots) (hd : decode cc pc = .ok (.invokestatic idx, 3)) :
    ∀ (H : Heap) (locs : List Loc) (ls : Array Slot), va_P E.1 vwCl w H → va_D A w → va_S A s.heap H locs → lv_has ls nL lv → va_Run p l e R s m args below meth c H locs cells slots 0 0 (F0 m pc ls st) rest (Qc H.size As.toArray) (va_A (fl cs) H.size) := by
  intro H locs ls hP hD hS hl
  subst hst
  subst hwb
  have cb : CallB R s args own idx y cy ny ry (mW y cy ny ry) rm 0 0 n := callB_of n C.2.2.2.2.2.1 (mW_good (fun _ h => h) mf.1) rfl hz.1 hz.2 (C.2.2.2.2.2.1 _ mf.2.1) (C.2.2.2.2.2.1 _ hlk) mf.2.2 hR
  exact va_runS ⟨C.1, C.2.1, C.2.2.1, C.2.2.2.2.1, C.2.2.2.2.2.1⟩ (hM H.size) ⟨cb, C.2.2.2.2.2.1 _ ms⟩ ⟨CPre_blind, v_preB C js hC hnd hP hD hS As⟩ rfl hn hl.1 rfl (lv_room hroom) hd hf
theorem v_runSNB (C : VC p s m args meth c E A cc nL ret own) {Qc : Nat → Array Value → State → Outcome → State → Prop} {bs cs : List va_W} {host : String} (As rest : List Value) (hM : ∀ sz, Met l y (mW y cy ny ry) rm (CPre E As sz (fl cs)) (Qc sz) 0 0 (va_A (fl cs) sz)) (js : List Nat) (hwb : w = fl bs) (hC : js.map (fun i => bs[i]?) = cs.map some) (hnd : va_nd js = true)
    (mf : MF y cy ny ry n) (ms : Cond.static y ∈ gG) (hlk : Cond.methodLinkNest own idx y host ∈ nW) (hn : As.length = n) (hR : rm.frames + 1 ≤ R.frames ∧ 8 + (ny + 11) + rm.locals ≤ R.locals) (hz : rm.cells = 0 ∧ rm.slots = 0)
    (hst : st = As.reverse ++ rest) (hroom : (rest.map fun v => v.category).sum ≤ 8) (hf : cells ≤ R.cells ∧ slots ≤ R.slots) (hd : decode cc pc = .ok (.invokestatic idx, 3)) :
    ∀ (H : Heap) (locs : List Loc) (ls : Array Slot), va_P E.1 vwCl w H → va_D A w → va_S A s.heap H locs → lv_has ls nL lv → va_Run p l e R s m args below meth c H locs cells slots 0 0 (F0 m pc ls st) rest (Qc H.size As.toArray) (va_A (fl cs) H.size) := by
  intro H locs ls hP hD hS hl
  subst hst
  subst hwb
  exact va_runSN ⟨C.1, C.2.1, C.2.2.1, C.2.2.2.2.1, C.2.2.2.2.2.1⟩ (hM H.size) ⟨va_cnB n C.2.2.2.2.2.1 (mW_good (fun _ h => h) mf.1) rfl hz.1 hz.2 (C.2.2.2.2.2.2.2.2.2.1 _ hlk) (C.2.2.2.2.2.1 _ mf.2.1) mf.2.2 hR, C.2.2.2.2.2.1 _ ms, trivial⟩ ⟨CPre_blind, v_preB C js hC hnd hP hD hS As⟩ rfl hn hl.1 rfl (lv_room hroom) hd hf
/-- a call whose callee has the whole world -/
theorem v_preA (C : VC p s m args meth c E A cc nL ret own) {H : Heap} {locs : List Loc} (hP : va_P E.1 vwCl w H) (hD : va_D A w) (hS : va_S A s.heap H locs) (av : List Value) : ∀ U : State, U.heap = H → s.WarmedH U.vm → CPre E av H.size w av.toArray U := by
  intro U hU hW
  exact ⟨rfl, by rw [hU], by rw [hU]; exact hP, va_K.moved hW.alike C.2.2.2.2.2.2.1, hD.weaken (fun _ _ _ _ => trivial), fun x hx => nst_warm (List.mem_filter.mp hx).2 hW (C.2.2.2.2.2.2.2.2.2.1 x hx), sF_go C.2.2.2.2.2.2.2.2.2.2 hS (v_freeA C hD hS) hW hU⟩
theorem v_runVA (C : VC p s m args meth c E A cc nL ret own) {Qc : Nat → Array Value → State → Outcome → State → Prop} (As rest : List Value) (hM : ∀ sz, Met l y (mW y cy ny ry) rm (CPre E (.ref b :: As) sz w) (Qc sz) 0 0 (va_A w sz))
    (mf : MF y cy ny ry n) (mv : MFv y K) (hlk : Cond.methodLink own idx y ∈ gG) (hn : As.length = n) (hR : rm.frames + 1 ≤ R.frames ∧ 8 + (ny + 11) + rm.locals ≤ R.locals) (hz : rm.cells = 0 ∧ rm.slots = 0)
    (qr : Nat) {ci : Nat} {fs : List Value} {qc : vw_C} (hcr : vwCl[ci]? = some qc) (hK : qc.1 = K) (her : w[qr]? = some (b, .inr (ci, fs))) (hst : st = As.reverse ++ .ref b :: rest) (hroom : (rest.map fun v => v.category).sum ≤ 8) (hf : cells ≤ R.cells ∧ slots ≤ R.slots) (hd : decode cc pc = .ok (.invokevirtual idx, 3)) :
    ∀ (H : Heap) (locs : List Loc) (ls : Array Slot), va_P E.1 vwCl w H → va_D A w → va_S A s.heap H locs → lv_has ls nL lv → va_Run p l e R s m args below meth c H locs cells slots 0 0 (F0 m pc ls st) rest (Qc H.size (Value.ref b :: As).toArray) (va_A w H.size) := by
  intro H locs ls hP hD hS hl
  subst hst
  subst hK
  have cb : CallB R s args own idx y cy ny ry (mW y cy ny ry) rm 0 0 n := callB_of n C.2.2.2.2.2.1 (mW_good (fun _ h => h) mf.1) rfl hz.1 hz.2 (C.2.2.2.2.2.1 _ mf.2.1) (C.2.2.2.2.2.1 _ hlk) mf.2.2 hR
  exact va_runV ⟨C.1, C.2.1, C.2.2.1, C.2.2.2.2.1, C.2.2.2.2.2.1⟩ (hM H.size) ⟨cb, C.2.2.2.2.2.1 _ mv.1, C.2.2.2.2.2.1 _ mv.2⟩ ⟨CPre_blind, va_recv C.2.2.2.2.2.2.1 hP hcr her, v_preA C hP hD hS (.ref b :: As)⟩ rfl hn hl.1 rfl (lv_room hroom) hd hf
theorem v_goAi (C : VC p s m args meth c E A cc nL ret own) {Post : Int32 → S → Prop} {wc' : S → va_W} {rest : List Value} {a : Array Value} (hadr : ∀ u, (wc' u).map Prod.fst = w.map Prod.fst)
    (run : ∀ (H : Heap) (locs : List Loc) (ls : Array Slot), va_P E.1 vwCl w H → va_D A w → va_S A s.heap H locs → lv_has ls nL lv → va_Run p l e R s m args below meth c H locs cells slots 0 0 (F0 m pc ls st) rest (CQi E Post wc' w H.size a) (va_A w H.size))
    (kk : ∀ (r : Int32) (u : S), Post r u → V p l e R s m args below meth c E A nL cells slots Q (wc' u) (pc + 3) lv (.int r :: rest)) : V p l e R s m args below meth c E A nL cells slots Q w pc lv st := by
  intro H locs ls hP hD hS hl
  have hF := v_freeA C hD hS
  refine va_calli (run H locs ls hP hD hS hl) hS (fun q _ h => hF q h) hF (fun r u t H1 locs1 ht hvm hp hB hz hk hS1 => ?_)
  exact kk r u hp H1 locs1 ls (ht ▸ hB) (va_D_adr hD (hadr u)) hS1 hl
theorem v_goAl (C : VC p s m args meth c E A cc nL ret own) {Post : Int64 → S → Prop} {wc' : S → va_W} {rest : List Value} {a : Array Value} (hadr : ∀ u, (wc' u).map Prod.fst = w.map Prod.fst)
    (run : ∀ (H : Heap) (locs : List Loc) (ls : Array Slot), va_P E.1 vwCl w H → va_D A w → va_S A s.heap H locs → lv_has ls nL lv → va_Run p l e R s m args below meth c H locs cells slots 0 0 (F0 m pc ls st) rest (CQl E Post wc' w H.size a) (va_A w H.size))
    (kk : ∀ (r : Int64) (u : S), Post r u → V p l e R s m args below meth c E A nL cells slots Q (wc' u) (pc + 3) lv (.long r :: rest)) : V p l e R s m args below meth c E A nL cells slots Q w pc lv st := by
  intro H locs ls hP hD hS hl
  have hF := v_freeA C hD hS
  refine va_calll (run H locs ls hP hD hS hl) hS (fun q _ h => hF q h) hF (fun r u t H1 locs1 ht hvm hp hB hz hk hS1 => ?_)
  exact kk r u hp H1 locs1 ls (ht ▸ hB) (va_D_adr hD (hadr u)) hS1 hl
theorem v_goAv (C : VC p s m args meth c E A cc nL ret own) {Post : S → Prop} {wc' : S → va_W} {rest : List Value} {a : Array Value} (hadr : ∀ u, (wc' u).map Prod.fst = w.map Prod.fst)
    (run : ∀ (H : Heap) (locs : List Loc) (ls : Array Slot), va_P E.1 vwCl w H → va_D A w → va_S A s.heap H locs → lv_has ls nL lv → va_Run p l e R s m args below meth c H locs cells slots 0 0 (F0 m pc ls st) rest (CQv E Post wc' w H.size a) (va_A w H.size))
    (kk : ∀ (u : S), Post u → V p l e R s m args below meth c E A nL cells slots Q (wc' u) (pc + 3) lv rest) : V p l e R s m args below meth c E A nL cells slots Q w pc lv st := by
  intro H locs ls hP hD hS hl
  have hF := v_freeA C hD hS
  refine va_callv (run H locs ls hP hD hS hl) hS (fun q _ h => hF q h) hF (fun u t H1 locs1 ht hvm hp hB hz hk hS1 => ?_)
  exact kk u hp H1 locs1 ls (ht ▸ hB) (va_D_adr hD (hadr u)) hS1 hl
/-- returns -/
theorem v_ireti (C : VC p s m args meth c E A cc nL (some .int) own) {Post : Int32 → S → Prop} {wf : S → va_W} {w0 : va_W} {x : Int32} (u : S) (hA : va_A w0 s.heap.size = A) (hw : w = wf u) (h : Post x u) (hd : decode cc pc = .ok (.ireturn, 1)) : V p l e R s m args below meth c E A nL cells slots (MQ below (CQi E Post wf w0 s.heap.size) args s cells slots A) w pc lv [.int x] := by
  intro H locs ls hP hD hS hl
  subst hw
  exact W.iret C.1 C.2.1 C.2.2.2.1 (fun t ht hW => ⟨⟨x, u, rfl, h, by show va_P _ _ _ t.heap; rw [ht]; exact hP⟩, hA ▸ hS.F ht⟩) hS.2.2 hd C.2.2.2.2.2.2.2.2.1
theorem v_iretz (C : VC p s m args meth c E A cc nL (some .boolean) own) {Post : Int32 → S → Prop} {wf : S → va_W} {w0 : va_W} {x : Int32} (hz : narrow .boolean (.int x) = .int x) (u : S) (hA : va_A w0 s.heap.size = A) (hw : w = wf u) (h : Post x u) (hd : decode cc pc = .ok (.ireturn, 1)) : V p l e R s m args below meth c E A nL cells slots (MQ below (CQi E Post wf w0 s.heap.size) args s cells slots A) w pc lv [.int x] := by
  intro H locs ls hP hD hS hl
  subst hw
  exact W.zret C.1 C.2.1 C.2.2.2.1 hz (fun t ht hW => ⟨⟨x, u, rfl, h, by show va_P _ _ _ t.heap; rw [ht]; exact hP⟩, hA ▸ hS.F ht⟩) hS.2.2 hd C.2.2.2.2.2.2.2.2.1
theorem v_lret (C : VC p s m args meth c E A cc nL (some .long) own) {Post : Int64 → S → Prop} {wf : S → va_W} {w0 : va_W} {x : Int64} (u : S) (hA : va_A w0 s.heap.size = A) (hw : w = wf u) (h : Post x u) (hd : decode cc pc = .ok (.lreturn, 1)) : V p l e R s m args below meth c E A nL cells slots (MQ below (CQl E Post wf w0 s.heap.size) args s cells slots A) w pc lv [.long x] := by
  intro H locs ls hP hD hS hl
  subst hw
  exact W.lret C.1 C.2.1 C.2.2.2.1 (fun t ht hW => ⟨⟨x, u, rfl, h, by show va_P _ _ _ t.heap; rw [ht]; exact hP⟩, hA ▸ hS.F ht⟩) hS.2.2 hd C.2.2.2.2.2.2.2.2.1
theorem v_vret (C : VC p s m args meth c E A cc nL none own) {Post : S → Prop} {wf : S → va_W} {w0 : va_W} (u : S) (hA : va_A w0 s.heap.size = A) (hw : w = wf u) (h : Post u) (hd : decode cc pc = .ok (.return_, 1)) : V p l e R s m args below meth c E A nL cells slots (MQ below (CQv E Post wf w0 s.heap.size) args s cells slots A) w pc lv [] := by
  intro H locs ls hP hD hS hl
  subst hw
  exact W.vret C.1 C.2.1 C.2.2.2.1 (fun t ht hW => ⟨⟨u, rfl, h, by show va_P _ _ _ t.heap; rw [ht]; exact hP⟩, hA ▸ hS.F ht⟩) hS.2.2 hd C.2.2.2.2.2.2.2.2.1
/-- System.arraycopy of ints -/
theorem v_copy (C : VC p s m args meth c E A cc nL ret own) (q0 q1 : Nat) {a a0 n0 n1 : Nat} {f g : Nat → Int32} {w' : va_W} {sp dp cn : Int32} {js jd jn : Nat} (ha0 : w[q0]? = some (a0, .inl (E.2.1, n0, .inl f))) (ha1 : w[q1]? = some (a, .inl (E.2.1, n1, .inl g)))
    (hw : w.set q1 (a, .inl (E.2.1, n1, .inl (va_cpy f g js jd jn))) = w') (h1 : ¬ sp < 0) (h2 : ¬ dp < 0) (h3 : ¬ cn < 0) (e1 : sp.toNatClampNeg = js) (e2 : dp.toNatClampNeg = jd) (e3 : cn.toNatClampNeg = jn) (h4 : js + jn ≤ n0) (h5 : jd + jn ≤ n1)
    (hlk : Cond.methodLink own idx arraycopyName ∈ gG) (hnat : Cond.native arraycopyName ∈ gG) (hsta : Cond.static arraycopyName ∈ gG) (hini : Cond.initialized "java/lang/System" ∈ gG) (hfr : 1 ≤ R.frames) (hlo : (st.map fun v => v.category).sum + (nativeFrameWords "java/lang/System" "arraycopy" 5 + 11) ≤ R.locals) (hd : decode cc pc = .ok (.invokestatic idx, 3))
    (kk : V p l e R s m args below meth c E A nL cells slots Q w' (pc + 3) lv st) : V p l e R s m args below meth c E A nL cells slots Q w pc lv (.int cn :: .int dp :: .ref a :: .int sp :: .ref a0 :: st) := by
  subst e1; subst e2; subst e3
  exact fun H locs ls hP hD hS hl => va_copyi C.1 C.2.1 (C.2.2.1.trans hl.1.symm) C.2.2.2.2.1 (C.2.2.2.2.2.1 _ hlk) (C.2.2.2.2.2.1 _ hnat) (C.2.2.2.2.2.1 _ hsta) (C.2.2.2.2.2.1 _ hini) C.2.2.2.2.2.2.1 hP hD hS q0 q1 0 0 ha0 ha1 rfl rfl rfl h1 h2 h3 h4 h5 (fun i _ => rfl) hfr hlo hd (fun H1 locs1 hP1 hD1 hS1 => kk H1 locs1 ls (hw ▸ hP1) (hw ▸ hD1) hS1 hl)
end
/-- a contract out of the walk of the body -/
theorem v_met {l : Launch} {E : VE} {y : MethodName} {cc : ByteArray} {nL : Nat} {ret : Option FieldType} {rm : Room} {Qc : Array Value → State → Outcome → State → Prop} {av : List Value} {sz : Nat} {w : va_W} (hy : plainName y.cls = true) (hlen : (lg_sl av).length ≤ nL)
    (body : ∀ (p : Program) (e : Env) (s : State) (m : MethodId) (below : List Frame) (meth : Method) (c : Code) (A : Nat → Prop), s.heap.size = sz → va_A w sz = A → VC p s m av.toArray meth c E A cc nL ret y.cls → V p l e rm s m av.toArray below meth c E A nL 0 0 (MQ below Qc av.toArray s 0 0 A) w 0 (lv_args 0 av) []) :
    Met l y (mW y cc nL ret) rm (CPre E av sz w) Qc 0 0 (va_A w sz) := by
  refine Met.ofW (cc := cc) (maxL := nL) (ret := ret) hy rfl ?_
  intro p e s m args below meth c s₁ B hml hv
  obtain ⟨rfl, hsz, hP, hK, hD0, hN, hF⟩ := hv
  have hts := atoms_spec (ws := mW y cc nL ret) B.pre
  have hA : ∀ q : Nat, s.heap.size ≤ q → va_A w sz q := fun q h => Or.inr (hsz ▸ h)
  have hl := lv_entry av (n := nL) hlen
  rw [lg_entry_eq]
  exact body p e s m below meth c _ hsz rfl ⟨B.exec, B.bytes, hml, B.returns, findClass_of_methodNamed B.named, fun x hx => hts x (List.mem_cons_of_mem _ hx), hK, hA, B.notSynchronized, hN, hF⟩ s.heap [] _ hP (hD0.self) va_S.rf hl
/-- the way out of a table of jumps -/
theorem tblo {x : Int32} {k : Nat} (hk : k < 2 ^ 31) (h : ∀ j, j ≤ k → ¬ x = nI j) : x.toInt < 0 ∨ (k : Int) < x.toInt := by
  by_cases hx : x < 0
  · exact Or.inl (by have := Int32.lt_iff_toInt_lt.mp hx; simpa using this)
  · obtain ⟨j, hj, rfl⟩ := nI_of hx
    by_cases hjk : j ≤ k
    · exact absurd rfl (h j hjk)
    · exact Or.inr (by rw [nI_toInt hj]; omega)
