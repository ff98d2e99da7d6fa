/-! the words that every method is given, and those that a nest needs -/
def gG : List Cond := lw_tbl.filter goodWord
def nst : Cond → Bool
  | .fieldLinkNest .. => true
  | .methodLinkNest .. => true
  | .castable .. => true
  | _ => false
def nW : List Cond := lw_tbl.filter nst
theorem gG_in {w : Cond} (h : w ∈ lw_tbl) (g : goodWord w = true) : w ∈ gG := List.mem_filter.mpr ⟨h, g⟩
theorem nW_in {w : Cond} (h : w ∈ lw_tbl) (g : nst w = true) : w ∈ nW := List.mem_filter.mpr ⟨h, g⟩
theorem nst_tab {w : Cond} (g : nst w = true) : w.onTables = true := by
  cases w <;> first | rfl | (simp [nst] at g; done)
theorem nst_warm {w : Cond} (g : nst w = true) {s U : State} (hW : s.WarmedH U.vm) (h : va_Nw w s) : va_Nw w U := by
  cases w <;> first | exact va_Nw.warmF hW h | exact va_Nw.warmM hW h | exact va_Nw.warmC hW h | (simp [nst] at g; done)
def mW (y : MethodName) (cc : ByteArray) (n : Nat) (ret : Option FieldType) : List Cond := Cond.code y cc n ret :: gG
theorem mW_good {Ts : List Cond} (hT : ∀ w ∈ gG, w ∈ Ts) {y : MethodName} {cc : ByteArray} {n : Nat} {ret : Option FieldType} (hc : Cond.code y cc n ret ∈ gG) : GoodIn Ts (mW y cc n ret) := by
  intro w hw
  rcases List.mem_cons.mp hw with h | h
  · subst h
    exact ⟨hT _ hc, good_of_word (List.mem_filter.mp hc).2⟩
  · exact ⟨hT _ h, good_of_word (List.mem_filter.mp h).2⟩
/-! the pure state of an object: its int fields, its long fields, its arrays, by the places of the fields -/
def St : Type := (Nat → Int32) × (Nat → Int64) × (Nat → Nat → Int32)
def St.I (x : St) (k : Nat) : Int32 := x.1 k
def St.L (x : St) (k : Nat) : Int64 := x.2.1 k
def St.A (x : St) (k : Nat) : Nat → Int32 := x.2.2 k
def St.sI (x : St) (k : Nat) (v : Int32) : St := (fun j => if j = k then v else x.1 j, x.2)
def St.sL (x : St) (k : Nat) (v : Int64) : St := (x.1, fun j => if j = k then v else x.2.1 j, x.2.2)
def St.sA (x : St) (k : Nat) (v : Nat → Int32) : St := (x.1, x.2.1, fun j => if j = k then v else x.2.2 j)
def upS (t : Nat → St) (k : Nat) (x : St) : Nat → St := fun j => if j = k then x else t j
/-- a number that a boolean can be -/
def vb (x : Int32) : Prop := narrow .boolean (.int x) = .int x
/-! the loop's iterator -/
def itN {α : Type} (F : (α → Prop) → α → Prop) : Nat → α → Prop
  | 0 => fun _ => False
  | n + 1 => F (itN F n)
/-! the environment: numbers of the classes, of int[], boolean[], Pencil[] -/
abbrev VE : Type := va_G × ClassId × ClassId × ClassId × (Nat → Nat) × (Nat → Nat)
def tysG (E : VE) : List (ClassId × FieldType) := [(E.2.1, .int), (E.2.2.1, .boolean), (E.2.2.2.1, .object "PressedPad$Pencil")]
/-! the text's literals, and the flag that the JDK's strings ask for -/
def lenS : List Nat := [3, 6, 4, 4]
def bytS : List (List Int32) := [[112, 97, 100], [99, 97, 114, 98, 111, 110], [116, 101, 97, 114], [110, 111, 116, 101]]
def sF (E : VE) (A : Nat → Prop) (U : State) (H : Heap) : Prop :=
  vk_R RX7 48 "pad" (E.2.2.2.2.1 0) U ∧ vk_R RX7 68 "carbon" (E.2.2.2.2.1 1) U ∧ vk_R RX7 73 "tear" (E.2.2.2.2.1 2) U ∧ vk_R RX7 75 "note" (E.2.2.2.2.1 3) U ∧ vk_S 4 lenS bytS E.2.2.2.2.1 E.2.2.2.2.2 A U H ∧ va_Z "java/lang/String" "COMPACT_STRINGS" "Z" (.int 1) A U H ∧ va_Zq "jdk/internal/util/Preconditions" "SIOOBE_FORMATTER" "Ljava/util/function/BiFunction;" A U H
theorem sF_same {E : VE} {A : Nat → Prop} {u U : State} {H : Heap} (hv : U.vm = u.vm) (h : sF E A u H) : sF E A U H := by
  obtain ⟨h1, h2, h3, h4, h5, h6, h7⟩ := h
  have ha : u.vm.Alike U.vm := by rw [hv]; exact Vm.Alike.refl _
  exact ⟨vk_R.same hv h1, vk_R.same hv h2, vk_R.same hv h3, vk_R.same hv h4, vk_S.moved ha h5, va_Z.moved ha h6, va_Zq.moved ha h7⟩
theorem sF_go {E : VE} {A B : Nat → Prop} {s U : State} {H : Heap} {locs : List Loc} (h : sF E A s s.heap) (hS : va_S A s.heap H locs) (hAB : ∀ q, B q → A q) (hW : s.WarmedH U.vm) (hU : U.heap = H) : sF E B U U.heap := by
  obtain ⟨h1, h2, h3, h4, h5, h6, h7⟩ := h
  rw [hU]
  exact ⟨vk_R.warm hW h1, vk_R.warm hW h2, vk_R.warm hW h3, vk_R.warm hW h4, vk_S.narrow (vk_S.kept (vk_S.moved hW.alike h5) hS.2.1) hAB, va_Z.narrow (va_Z.kept (va_Z.moved hW.alike h6) hS.2.1) hAB, va_Zq.narrow (va_Zq.kept (va_Zq.moved hW.alike h7) hS.2.1) hAB⟩
def CPre (E : VE) (av : List Value) (sz : Nat) (w : va_W) : Array Value → State → Prop := va_Pc av (fun U => U.heap.size = sz ∧ va_P E.1 vwCl w U.heap ∧ va_K E.1 vwCl (tysG E) U ∧ va_D (fun _ => True) w ∧ (∀ x ∈ nW, va_Nw x U) ∧ sF E (va_A w sz) U U.heap)
def CQi {S : Type} (E : VE) (Post : Int32 → S → Prop) (wf : S → va_W) (w : va_W) (sz : Nat) : Array Value → State → Outcome → State → Prop := va_Qi Post (fun u t => va_P E.1 vwCl (wf u) t.heap) (va_A w sz)
def CQl {S : Type} (E : VE) (Post : Int64 → S → Prop) (wf : S → va_W) (w : va_W) (sz : Nat) : Array Value → State → Outcome → State → Prop := va_Ql Post (fun u t => va_P E.1 vwCl (wf u) t.heap) (va_A w sz)
def CQv {S : Type} (E : VE) (Post : S → Prop) (wf : S → va_W) (w : va_W) (sz : Nat) : Array Value → State → Outcome → State → Prop := va_Qv Post (fun u t => va_P E.1 vwCl (wf u) t.heap) (va_A w sz)
theorem CPre_blind {E : VE} {av : List Value} {sz : Nat} {w : va_W} : FrameBlind (CPre E av sz w) := by
  intro a U g mk q
  obtain ⟨q0, q1, qP, qK, qD, qN, qF⟩ := q
  exact ⟨q0, q1, qP, va_K.moved (u := U) (U := U.calling g mk a) (Vm.Alike.refl U.vm) qK, qD, fun x hx => va_Nw.same (u := U) (U := U.calling g mk a) (nst_tab (List.mem_filter.mp hx).2) rfl (qN x hx), sF_same (u := U) (U := U.calling g mk a) rfl qF⟩
/-- what holds all through a method's body -/
def VC (p : Program) (s : State) (m : MethodId) (args : Array Value) (meth : Method) (c : Code) (E : VE) (A : Nat → Prop) (cc : ByteArray) (nL : Nat) (ret : Option FieldType) (own : String) : Prop :=
  p.tables.exec = Jvm.exec ∧ c.code = cc ∧ c.maxLocals = nL ∧ meth.sig.returnType = ret ∧ s.vm.findClass own = some m.cls ∧ (∀ w ∈ gG, w.before args s = true) ∧ va_K E.1 vwCl (tysG E) s ∧ (∀ q : Nat, s.heap.size ≤ q → A q) ∧ meth.locks = false ∧ (∀ x ∈ nW, va_Nw x s) ∧ sF E A s s.heap
/-- the machine at a place of the body, with a world, locals and a stack -/
def V (p : Program) (l : Launch) (e : Env) (R : Room) (s : State) (m : MethodId) (args : Array Value) (below : List Frame) (meth : Method) (c : Code) (E : VE) (A : Nat → Prop) (nL cells slots : Nat) (Q : State → Prop) (w : va_W) (pc : Nat) (lv : List (Nat × Value)) (st : List Value) : Prop :=
  ∀ (H : Heap) (locs : List Loc) (ls : Array Slot), va_P E.1 vwCl w H → va_D A w → va_S A s.heap H locs → lv_has ls nL lv → W p l e R s m args below meth c H locs cells slots Q (F0 m pc ls st)
theorem va_D_adr {A : Nat → Prop} {w w' : va_W} (h : va_D A w) (e : w'.map Prod.fst = w.map Prod.fst) : va_D A w' := by
  have key : ∀ (k : Nat) (q : Nat × va_E), w'[k]? = some q → ∃ q0, w[k]? = some q0 ∧ q0.1 = q.1 := by
    intro k q hq
    have h1 : (w'.map Prod.fst)[k]? = some q.1 := by rw [List.getElem?_map, hq]; rfl
    rw [e, List.getElem?_map] at h1
    cases hw : w[k]? with
    | none => rw [hw] at h1; cases h1
    | some q0 => rw [hw] at h1; exact ⟨q0, rfl, Option.some.inj h1⟩
  refine ⟨fun i j p q hp hq hpq => ?_, fun k q hq => ?_⟩
  · obtain ⟨p0, h1, h2⟩ := key i p hp
    obtain ⟨q0, h3, h4⟩ := key j q hq
    exact h.1 i j p0 q0 h1 h3 (by rw [h2, h4, hpq])
  · obtain ⟨q0, h1, h2⟩ := key k q hq
    rw [← h2]
    exact h.2 k q0 h1
/-- cells put at places -/
def putc : va_W → List Nat → va_W → va_W
  | w, i :: is, x :: xs => putc (w.set i x) is xs
  | w, _, _ => w
theorem putc_mem : ∀ (is : List Nat) (xs : va_W) (w : va_W) (k : Nat) (q : Nat × va_E), (putc w is xs)[k]? = some q → (q ∈ xs) ∨ (w[k]? = some q ∧ (xs.length = is.length → k ∉ is))
  | [], xs, w, k, q, h => by
    have h' : w[k]? = some q := by cases xs <;> exact h
    exact Or.inr ⟨h', fun _ => List.not_mem_nil⟩
  | i :: is, [], w, k, q, h => Or.inr ⟨h, fun e => by simp at e⟩
  | i :: is, x :: xs, w, k, q, h => by
    have h1 : (putc (w.set i x) is xs)[k]? = some q := h
    rcases putc_mem is xs (w.set i x) k q h1 with h2 | ⟨h2, h3⟩
    · exact Or.inl (List.mem_cons_of_mem _ h2)
    · by_cases hk : i = k
      · subst hk
        by_cases hl : i < w.length
        · rw [List.getElem?_set_self hl] at h2
          exact Or.inl (by rw [← Option.some.inj h2]; exact List.mem_cons_self)
        · rw [List.getElem?_eq_none (by rw [List.length_set]; omega)] at h2
          cases h2
      · rw [List.getElem?_set_ne hk] at h2
        refine Or.inr ⟨h2, fun e => ?_⟩
        have e' : xs.length = is.length := by simpa using e
        intro hm
        rcases List.mem_cons.mp hm with h4 | h4
        · exact hk h4.symm
        · exact h3 e' h4
theorem putc_adr : ∀ (is : List Nat) (xs : va_W) (w : va_W), is.map (fun i => (w.map Prod.fst)[i]?) = (xs.map Prod.fst).map some → (putc w is xs).map Prod.fst = w.map Prod.fst
  | [], xs, w, _ => by cases xs <;> rfl
  | i :: is, [], w, h => by simp at h
  | i :: is, x :: xs, w, h => by
    have h1 : (w.map Prod.fst)[i]? = some x.1 := by
      have := congrArg List.head? h
      simpa using this
    have h2 : is.map (fun i => (w.map Prod.fst)[i]?) = (xs.map Prod.fst).map some := by
      have := congrArg List.tail h
      simpa using this
    have e : (w.set i x).map Prod.fst = w.map Prod.fst := by
      rw [List.map_set]
      apply List.ext_getElem?
      intro k
      by_cases hk : i = k
      · subst hk
        rw [h1, List.getElem?_set_self (List.getElem?_eq_some_iff.mp h1).1]
      · rw [List.getElem?_set_ne hk]
    show (putc (w.set i x) is xs).map Prod.fst = _
    rw [putc_adr is xs (w.set i x) (by rw [e]; exact h2), e]
/-- behind a call: the callee's new cells, and the others as they were -/
theorem put_join {A : Nat → Prop} {D : va_G} {w wc wc' : va_W} {H H1 : Heap} (hP : va_P D vwCl w H) (hD : va_D A w) (is : List Nat) (hC : is.map (fun i => w[i]?) = wc.map some) (hadr : wc'.map Prod.fst = wc.map Prod.fst)
    (hk : ∀ q : Nat, q < H.size → ¬ va_A wc H.size q → H1[q]? = H[q]?) (hP1 : va_P D vwCl wc' H1) : va_P D vwCl (putc w is wc') H1 ∧ va_D A (putc w is wc') := by
  have hlen : wc'.length = is.length := by
    have h1 := congrArg List.length hC
    have h2 := congrArg List.length hadr
    simp at h1 h2
    omega
  refine ⟨fun k q hq => ?_, va_D_adr hD (putc_adr is wc' w ?_)⟩
  · rcases putc_mem is wc' w k q hq with h | ⟨h, h2⟩
    · obtain ⟨i, hi⟩ := List.getElem?_of_mem h
      exact hP1 i q hi
    · have hni := h2 hlen
      have hat := hP k q h
      refine hat.kept (hk q.1 hat.lt (fun hA => ?_))
      rcases hA with ⟨k2, e, h3⟩ | h3
      · have h4 : (is.map (fun i => w[i]?))[k2]? = some (some (q.1, e)) := by rw [hC, List.getElem?_map, h3]; rfl
        rw [List.getElem?_map] at h4
        cases hi : is[k2]? with
        | none => rw [hi] at h4; cases h4
        | some i =>
          rw [hi] at h4
          have h5 : w[i]? = some (q.1, e) := Option.some.inj h4
          have h6 := hD.1 k i q (q.1, e) h h5 rfl
          subst h6
          exact hni (List.mem_of_getElem? hi)
      · exact absurd hat.lt (Nat.not_lt.mpr h3)
  · rw [hadr]
    have h1 : is.map (fun i => (w.map Prod.fst)[i]?) = (is.map (fun i => w[i]?)).map (Option.map Prod.fst) := by
      rw [List.map_map]
      apply List.map_congr_left
      intro i _
      simp [List.getElem?_map]
    rw [h1, hC, List.map_map, List.map_map]
    rfl
theorem pick_P {D : va_G} {w wc : va_W} {H : Heap} (hP : va_P D vwCl w H) (is : List Nat) (hC : is.map (fun i => w[i]?) = wc.map some) : va_P D vwCl wc H := by
  intro k q hq
  have h4 : (is.map (fun i => w[i]?))[k]? = some (some q) := by rw [hC, List.getElem?_map, hq]; rfl
  rw [List.getElem?_map] at h4
  cases hi : is[k]? with
  | none => rw [hi] at h4; cases h4
  | some i =>
    rw [hi] at h4
    exact hP i q (Option.some.inj h4)
