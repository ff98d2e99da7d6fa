theorem wr0 : Cond.stringRef RX7 48 "pad" ∈ lw_tbl := (tin2 (List.mem_of_getElem? (i := 205) rfl))
theorem wr1 : Cond.stringRef RX7 68 "carbon" ∈ lw_tbl := (tin3 (List.mem_of_getElem? (i := 31) rfl))
theorem wr2 : Cond.stringRef RX7 73 "tear" ∈ lw_tbl := (tin3 (List.mem_of_getElem? (i := 36) rfl))
theorem wr3 : Cond.stringRef RX7 75 "note" ∈ lw_tbl := (tin3 (List.mem_of_getElem? (i := 37) rfl))
theorem wlC : Cond.laysStatic "java/lang/String" "COMPACT_STRINGS" "Z" ∈ lw_tbl := (tin2 (List.mem_of_getElem? (i := 219) rfl))
theorem wlS : Cond.laysStatic "jdk/internal/util/Preconditions" "SIOOBE_FORMATTER" "Ljava/util/function/BiFunction;" ∈ lw_tbl := (tin2 (List.mem_of_getElem? (i := 235) rfl))
theorem wxJ0 : Cond.initialized "java/lang/String" ∈ lw_tbl := (tin1 (List.mem_of_getElem? (i := 15) rfl))
theorem wxJ3 : Cond.initialized "jdk/internal/util/Preconditions" ∈ lw_tbl := (tin1 (List.mem_of_getElem? (i := 17) rfl))
theorem wAO : Cond.arrayOver (.object "PressedPad$Pencil") ∈ lw_tbl := (tin1 (List.mem_of_getElem? (i := 35) rfl))
def tmS (i : Nat) : Term := Term.string RX7 ([48, 68, 73, 75].getD i 0)
theorem sN0 : ∀ i, i < 4 → lenS.getD i 0 < 2 ^ 31 := by decide +kernel
theorem sN1 : ∀ i, i < 4 → Cond.exactly (tmS i) "java/lang/String" ∈ flatC (Jvm.Cond.and given_1 narrow_1) := by decide +kernel
theorem sN2 : ∀ i, i < 4 → Cond.eq (.field (tmS i) "java/lang/String" "coder" "B") (.int 0) ∈ flatC (Jvm.Cond.and given_1 narrow_1) := by decide +kernel
theorem sN3 : ∀ i, i < 4 → Cond.arrayOf (Term.field (tmS i) "java/lang/String" "value" "[B") .byte ∈ flatC (Jvm.Cond.and given_1 narrow_1) := by decide +kernel
theorem sN4 : ∀ i, i < 4 → Cond.eq (.length (Term.field (tmS i) "java/lang/String" "value" "[B")) (.int (Int32.ofNat (lenS.getD i 0))) ∈ flatC (Jvm.Cond.and given_1 narrow_1) := by decide +kernel
theorem sN5 : ∀ i, i < 4 → ∀ j, j < lenS.getD i 0 → Cond.eq (.elem (Term.field (tmS i) "java/lang/String" "value" "[B") (.int (Int32.ofNat j))) (.int ((bytS.getD i []).getD j 0)) ∈ flatC (Jvm.Cond.and given_1 narrow_1) := by decide +kernel
theorem sN6 : ∀ i, i < 4 → ∀ j, j < 4 → i ≠ j → (Cond.not (Cond.eq (tmS i) (tmS j)) ∈ flatC (Jvm.Cond.and given_1 narrow_1) ∨ Cond.not (Cond.eq (tmS j) (tmS i)) ∈ flatC (Jvm.Cond.and given_1 narrow_1)) := by decide +kernel
theorem sN7 : Cond.eq (.static "java/lang/String" "COMPACT_STRINGS" "Z") (.int 1) ∈ flatC (Jvm.Cond.and given_1 narrow_1) := by decide +kernel
theorem sN8 : Cond.isRef (.static "jdk/internal/util/Preconditions" "SIOOBE_FORMATTER" "Ljava/util/function/BiFunction;") ∈ flatC (Jvm.Cond.and given_1 narrow_1) := by decide +kernel
set_option maxHeartbeats 4000000 in
set_option maxRecDepth 100000 in
theorem lw_env {p : Program} {s : State} {m : MethodId} {meth : Method} {c : Code} {b L : Nat} {xs : Nat → Int32} (C0 : lw_At p s m meth c b L xs) : ∃ E : VE, VC p s m #[Value.ref b] meth c E (fun q => s.heap.size ≤ q) code 4 ret R_law ∧ va_AO "PressedPad$Pencil" s := by
  obtain ⟨hx, hcode, hret, hml, hown, hts, hX, hbl, hlk, hgv⟩ := C0
  have hg : ∀ w ∈ gG, w.before #[Value.ref b] s = true := fun w hw => hts w (List.mem_filter.mp hw).1
  have hs := flat_of_before _ hgv
  have hA : ∀ a : Nat, a < s.heap.size → ¬ (fun q : Nat => s.heap.size ≤ q) a := fun a h => Nat.not_le.mpr h
  have hk : ∀ c : Nat, ∃ r : ClassId × (Nat → Nat), ∀ q : vw_C, vwCl[c]? = some q → u_Kn s q.1 q.2.1 q.2.2 r.1 r.2 := by
   intro c
   match c with
  | 0 => obtain ⟨cC, iS, h⟩ := u_known hg cuX0 (hg _ wjX0); exact ⟨(cC, iS), fun q e => by obtain rfl : (RX0, TX0, 0) = q := Option.some.inj e; exact h⟩
  | 1 => obtain ⟨cC, iS, h⟩ := u_known hg cuX1 (hg _ wjX1); exact ⟨(cC, iS), fun q e => by obtain rfl : (RX1, TX1, 0) = q := Option.some.inj e; exact h⟩
  | 2 => obtain ⟨cC, iS, h⟩ := u_known hg cuX2 (hg _ wjX2); exact ⟨(cC, iS), fun q e => by obtain rfl : (RX2, TX2, 4) = q := Option.some.inj e; exact h⟩
  | 3 => obtain ⟨cC, iS, h⟩ := u_known hg cuX3 (hg _ wjX3); exact ⟨(cC, iS), fun q e => by obtain rfl : (RX3, TX3, 0) = q := Option.some.inj e; exact h⟩
  | 4 => obtain ⟨cC, iS, h⟩ := u_known hg cuX4 (hg _ wjX4); exact ⟨(cC, iS), fun q e => by obtain rfl : (RX4, TX4, 12) = q := Option.some.inj e; exact h⟩
  | 5 => obtain ⟨cC, iS, h⟩ := u_known hg cuX5 (hg _ wjX5); exact ⟨(cC, iS), fun q e => by obtain rfl : (RX5, TX5, 1) = q := Option.some.inj e; exact h⟩
  | 6 => obtain ⟨cC, iS, h⟩ := u_known hg cuX6 (hg _ wjX6); exact ⟨(cC, iS), fun q e => by obtain rfl : (RX6, TX6, 0) = q := Option.some.inj e; exact h⟩
  | 7 => obtain ⟨cC, iS, h⟩ := u_known hg cuX7 (hg _ wjX7); exact ⟨(cC, iS), fun q e => by obtain rfl : (RX7, TX7, 8) = q := Option.some.inj e; exact h⟩
  | 8 => obtain ⟨cC, iS, h⟩ := u_known hg cuX8 (hg _ wjX8); exact ⟨(cC, iS), fun q e => by obtain rfl : (RX8, TX8, 5) = q := Option.some.inj e; exact h⟩
  | 9 => obtain ⟨cC, iS, h⟩ := u_known hg cuX9 (hg _ wjX9); exact ⟨(cC, iS), fun q e => by obtain rfl : (RX9, TX9, 0) = q := Option.some.inj e; exact h⟩
  | 10 => obtain ⟨cC, iS, h⟩ := u_known hg cuX10 (hg _ wjX10); exact ⟨(cC, iS), fun q e => by obtain rfl : (RX10, TX10, 0) = q := Option.some.inj e; exact h⟩
  | 11 => obtain ⟨cC, iS, h⟩ := u_known hg cuX11 (hg _ wjX11); exact ⟨(cC, iS), fun q e => by obtain rfl : (RX11, TX11, 15) = q := Option.some.inj e; exact h⟩
  | 12 => obtain ⟨cC, iS, h⟩ := u_known hg cuX12 (hg _ wjX12); exact ⟨(cC, iS), fun q e => by obtain rfl : (RX12, TX12, 30) = q := Option.some.inj e; exact h⟩
  | n + 13 => exact ⟨(0, fun _ => 0), fun q e => by simp at e⟩
  obtain ⟨g, hgk⟩ := Classical.axiomOfChoice hk
  obtain ⟨cI, kI, compI, i1, i2, i3⟩ := Cond.arrayClass_spec (args := #[Value.ref b]) (first := s) (o := none) (s := s) (idx := []) (hg _ wArrI)
  obtain ⟨cZ, kZ, compZ, z1, z2, z3⟩ := Cond.arrayClass_spec (args := #[Value.ref b]) (first := s) (o := none) (s := s) (idx := []) (hg _ wArrZ)
  obtain ⟨compQ, cQ, kQ, q1, q2, q3, q4, q5⟩ := Cond.arrayOver_spec (args := #[Value.ref b]) (first := s) (o := none) (s := s) (idx := []) (hts _ wAO)
  obtain ⟨adK, adV, hS, hev⟩ := vk_Sof (args := #[Value.ref b]) (s := s) (N := 4) (tm := tmS) (len := lenS) (byt := bytS) (A := fun q => s.heap.size ≤ q) sN0 (fun i hi => hs _ (sN1 i hi)) (fun i hi => hs _ (sN2 i hi)) (fun i hi => hs _ (sN3 i hi)) (fun i hi => hs _ (sN4 i hi)) (fun i hi j hj => hs _ (sN5 i hi j hj))
    (fun i j hi hj hij => (sN6 i hi j hj hij).elim (fun h => Or.inl (hs _ h)) (fun h => Or.inr (hs _ h))) hA
  refine ⟨((fun c => (g c).1, fun c => (g c).2), cI, cZ, cQ, adK, adV), ⟨hx, hcode, hml, hret, hown, hg, ⟨fun c q e => hgk c q e, ?_⟩, fun q h => h, hlk, fun x hx => va_Nw.of (nst_tab (List.mem_filter.mp hx).2) (hts x (List.mem_filter.mp hx).1), ?_⟩, va_AO.of (hts _ wAO)⟩
  · intro k q e
    match k with
    | 0 =>
      obtain rfl : (cI, FieldType.int) = q := Option.some.inj e
      exact ⟨fun n z => ⟨fun k h => (by cases h), kI, i2, compI, i3⟩, i1⟩
    | 1 =>
      obtain rfl : (cZ, FieldType.boolean) = q := Option.some.inj e
      exact ⟨fun n z => ⟨fun k h => (by cases h), kZ, z2, compZ, z3⟩, z1⟩
    | 2 =>
      obtain rfl : (cQ, FieldType.object "PressedPad$Pencil") = q := Option.some.inj e
      exact ⟨fun n z => ⟨fun k h => (by cases h), kQ, q3, compQ, q4⟩, kQ, compQ, q3, q4, q1, q5⟩
    | n + 3 => exact absurd e (by simp [tysG])
  · exact ⟨vk_R.of (hts _ wr0) (hev 0 (by decide)), vk_R.of (hts _ wr1) (hev 1 (by decide)), vk_R.of (hts _ wr2) (hev 2 (by decide)), vk_R.of (hts _ wr3) (hev 3 (by decide)), hS, va_Zof (hts _ wlC) (hts _ wxJ0) (va_eqt (hs _ sN7)) hA, va_Zqof (hts _ wlS) (hts _ wxJ3) (hs _ sN8) hA⟩
theorem rel0 : Rel tZ xz := by
  have es : ∀ j, stk (xz.A 4) (xz.A 5) 0 j = fun _ => 0 := fun j => by
    unfold stk
    split <;> rfl
  have ep : ∀ j, pgk pz 0 j = fun _ => 0 := fun j => by
    unfold pgk
    split <;> rfl
  have hm : mN (fun _ => (0 : Int32)) = 0 := by decide
  refine ⟨⟨rfl, 4, 0, 0, rfl, rfl, rfl, ?_⟩, ⟨rfl, rfl, rfl, rfl, rfl⟩, ⟨0, by decide, rfl, rfl, fun k hk => absurd hk (Nat.not_lt_zero k)⟩, ⟨0, 0, by decide, by decide, rfl, rfl, rfl, fun h => absurd h (by decide), fun h => absurd h (by decide)⟩⟩
  refine ⟨by decide, by decide, rfl, by decide, rfl, by decide, rfl, fun i hi => absurd hi (Nat.not_lt_zero i), fun j hj => ?_, fun i j _ _ => ?_⟩
  · show RP (pgk pz 0 j) pz (stk (xz.A 4) (xz.A 5) 0 j) ∧ WF (stk (xz.A 4) (xz.A 5) 0 j) 4
    rw [es, ep]
    refine ⟨⟨rfl, rfl, fun s hs => ⟨rfl, rfl, fun c hc => rfl⟩, fun k hk => ?_⟩, ⟨by decide, by decide, by decide, by decide, fun k hk => ?_, fun s hs c hc => ?_⟩⟩
    · rw [hm] at hk
      exact absurd hk (Nat.not_lt_zero k)
    · rw [hm] at hk
      exact absurd hk (Nat.not_lt_zero k)
    · rw [hm]
      rfl
  · rw [es, es]
    exact Nat.le_refl _
