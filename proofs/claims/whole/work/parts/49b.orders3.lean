theorem enD_ok2 : ∀ n, n < 7 → 0 < n → (enD n n []).all (fun L => eqN (fun p => pos L (gL L p)) (fun p => p) n) = true := by decide +kernel
/-- a row of all the sheets -/
def GoodL (n : Nat) (L : List Nat) : Prop := L.length = n ∧ (∀ s, s < n → s ∈ L) ∧ (∀ s, s ∈ L → s < n) ∧ ∀ p, p < n → pos L (L.getD p 0) = p
theorem goodL_of {n : Nat} (h1 : 0 < n) (hn : n < 7) {L : List Nat} (hL : L ∈ enD n n []) : GoodL n L := by
  have a := (enD_ok n hn h1).2.1
  have b := enD_ok2 n hn h1
  rw [List.all_eq_true] at a b
  have a1 := a L hL
  have b1 := eqN_iff _ _ n (b L hL)
  unfold good at a1
  rw [Bool.and_eq_true, Bool.and_eq_true, List.all_eq_true, List.all_eq_true] at a1
  refine ⟨eq_of_beq a1.1.1, fun s hs => ?_, fun s hs => ?_, b1⟩
  · have := a1.1.2 s (List.mem_range.mpr hs)
    exact List.contains_iff_mem.mp this
  · have := a1.2 s hs
    exact Nat.le_of_ble_eq_true this
theorem m_placeAt {y : St} {L : List Nat} {n a : Nat} (hn : n ≤ 6) (hL : GoodL n L) (hA : ∀ k, k < n → y.A 23 k = nI (gL L k)) (ha : a < n) {Post : Int32 → Prop} (h : Post (nI (pos L a))) : wpX12_placeOf (nI a) y Post := by
  have hm := hL.2.1 a ha
  have hp := (pos_mem a L).mpr hm
  rw [hL.1] at hp
  unfold wpX12_placeOf
  refine it_rule (F := fun self z => wlX12_placeOf_2 y Post _ self z.1 z.2) (fun z => ∃ j : Nat, z = (nI a, nI j) ∧ j ≤ pos L a) (fun z => 6 - z.2.toNatClampNeg) ?_ _ ⟨0, rfl, by omega⟩
  rintro self z ⟨j, rfl, hj⟩ hself
  dsimp only at hself ⊢
  unfold wlX12_placeOf_2
  rw [ncl (by omega), hA j (by omega)]
  have hgj : gL L j < 6 := by
    have hjl : j < L.length := by rw [hL.1]; omega
    have : L.getD j 0 ∈ L := by
      rw [List.getD_eq_getElem?_getD, List.getElem?_eq_getElem hjl]
      exact List.getElem_mem hjl
    have := hL.2.2.1 _ this
    show L.getD j 0 < 6
    omega
  refine ⟨vp_in_nI (by omega) (by omega), fun q => ?_, fun q z ez => ?_⟩
  · have : gL L j = a := (nI_eq (by omega) (by omega)).mp q
    have hjp : j = pos L a := by
      rcases Nat.lt_or_ge j (pos L a) with w | w
      · exact absurd this (pos_ne a L j w)
      · omega
    rw [hjp]; exact h
  · subst ez
    rw [nI_1]
    have hjp : j ≠ pos L a := fun w => q (by
      have := pos_get a L hm
      show nI (L.getD j 0) = _
      rw [w, this])
    exact hself _ ⟨j + 1, rfl, by omega⟩ (by dsimp only; rw [ncl (by omega), ncl (by omega)]; omega)
theorem m_rowL {y : St} {L : List Nat} {n s c : Nat} (hn : n ≤ 6) (hW : WF (y.A 4) n) (hL : GoodL n L) (hA : ∀ k, k < n → y.A 23 k = nI (gL L k)) (hs : s < n) (hc : c < 12) {Post : Int32 → Prop} {KX : Int32 → Int32 → Int32 → Prop} (h : KX (nI (12 * s + c)) (nI s) (nI (mxP (y.A 4) L (pos L s) c (mN (y.A 4))))) : ∃ k, wLX12_isRow_23 y Post KX k (nI (12 * s + c), nI s, 0, 0) := by
  have hm10 := hW.2.2.2.1
  have em := hW.2.2.1
  have hps : pos L s < 6 := by
    have := (pos_mem s L).mpr (hL.2.1 s hs)
    rw [hL.1] at this; omega
  refine for_rule (F := fun self z => wlX12_isRow_23 y Post KX self z.1 z.2.1 z.2.2.1 z.2.2.2) (mN (y.A 4)) (fun k => (nI (12 * s + c), nI s, nI (mxP (y.A 4) L (pos L s) c k), nI k)) ?_ ?_
  · intro self k hk hself
    dsimp only at hself ⊢
    unfold wlX12_isRow_23
    rw [em]
    have g := hW.2.2.2.2.1 k hk
    have f9 := frP_le (c := c) L g hps
    have m9 := mxP_le (c := c) L hW hps k (by omega)
    have g' := g
    obtain ⟨g1, g2, g3, g4, g5, g6, g7, g8, g9, g10⟩ := g'
    refine ⟨fun q => absurd q (nI_ge hk (by omega)), fun _ v ev => ?_⟩
    have e84 : (84 : Int32) + (4 : Int32) * nI k = nI (84 + 4 * k) := by
      show nI 84 + nI 4 * nI k = _
      rw [pk_mul, nI_add]
    rw [e84] at ev
    subst ev
    rw [show nI (84 + 4 * k) + 3 = nI (87 + 4 * k) by show _ + nI 3 = _; rw [nI_add]; congr 1; omega, show nI (84 + 4 * k) + 2 = nI (86 + 4 * k) by show _ + nI 2 = _; rw [nI_add]; congr 1; omega, show nI (84 + 4 * k) + 1 = nI (85 + 4 * k) by rw [nI_1]; congr 1; omega]
    have e12 : nI (12 * s + c) - nI (12 * s + c) / 12 * 12 = nI c := by
      have := pk_rem (a := 12 * s + c) (d := 12) (by omega) (by decide) (by decide)
      rw [show (12 : Int32) = nI 12 from rfl, this]; congr 1; omega
    rw [e12]
    refine m_placeAt hn hL hA hs ?_
    rw [ncl (n := 87 + 4 * k) (by omega), g8]
    refine ⟨vp_in_nI (by omega) (by omega), m_placeAt hn hL hA g9 (fun w ew => ?_)⟩
    have fin : ∀ z0 : Int32, z0 = nI (frP (y.A 4) L (pos L s) c k) → wjX12_isRow_114 y Post self KX (nI (12 * s + c)) (nI s) (nI (mxP (y.A 4) L (pos L s) c k)) (nI k) z0 := by
      intro z0 ez0
      subst ez0
      unfold wjX12_isRow_114
      rw [mxP_s] at hself
      refine ⟨fun q z ez => ?_, fun q z ez => ?_⟩
      · rw [nI_leI (by omega) (by omega)] at q
        subst ez
        rw [nI_1]
        rw [Nat.max_eq_left q] at hself
        exact hself
      · rw [nI_leI (by omega) (by omega)] at q
        subst ez
        rw [nI_1]
        rw [Nat.max_eq_right (by omega)] at hself
        exact hself
    have hpo : pos L (onN (y.A 4) k) < 6 := by
      have := (pos_mem (onN (y.A 4) k) L).mpr (hL.2.1 _ g9)
      rw [hL.1] at this; omega
    by_cases hlt : pos L s < pos L (onN (y.A 4) k)
    · have hneg : w < 0 := by rw [ew]; exact pk_sneg (by omega) hlt
      refine ⟨fun _ => fin 0 ?_, fun q => absurd hneg q⟩
      unfold frP
      rw [if_neg (by omega)]; rfl
    · rw [pk_sub (by omega)] at ew
      subst ew
      refine ⟨fun q => absurd q (nI_pos (by omega)), fun _ => ?_⟩
      rw [ncl (n := 86 + 4 * k) (by omega), g6]
      refine ⟨vp_in_nI (by omega) (by omega), m_has (by omega) (by omega) (fun hb => b1e ?_) (fun hb => b0e (fin 0 ?_))⟩
      · rw [ncl (n := 84 + 4 * k) (by omega), ncl (n := 85 + 4 * k) (by omega), g1, g3]
        refine ⟨vp_in_nI (by omega) (by omega), vp_in_nI (by omega) (by omega), m_force g2 (fin _ ?_)⟩
        unfold frP
        rw [if_pos ⟨by omega, hb⟩]
        exact (fo_all _ g2 _ (by omega) _ (by omega)).1
      · unfold frP
        rw [if_neg (fun w => by rw [hb] at w; exact absurd w.2 (by decide))]; rfl
  · intro self
    dsimp only
    unfold wlX12_isRow_23
    rw [em]
    exact ⟨fun _ => h, fun q => absurd (nI_le (Nat.le_refl _) (by omega)) q⟩
theorem m_isRow {y : St} {L : List Nat} {n : Nat} (hn : n ≤ 6) (eI : y.I 0 = nI n) (hW : WF (y.A 4) n) (hL : GoodL n L) (hA : ∀ k, k < n → y.A 23 k = nI (gL L k)) {Post : Int32 → Prop} (h1 : fitB2 (y.A 4) L n = true → Post 1) (h0 : fitB2 (y.A 4) L n = false → Post 0) : wpX12_isRow y Post := by
  unfold wpX12_isRow
  refine it_rule (F := fun self z => wlX12_isRow_2 y Post (Post 1) self z) (fun z => ∃ i : Nat, z = nI i ∧ i ≤ 12 * n ∧ ∀ j, j < i → mxP (y.A 4) L (pos L (j / 12)) (j % 12) (mN (y.A 4)) = dnN (y.A 4) (j / 12) (j % 12)) (fun z => 72 - z.toNatClampNeg) ?_ _ ⟨0, rfl, by omega, fun j hj => absurd hj (Nat.not_lt_zero j)⟩
  rintro self z ⟨i, rfl, hi, a⟩ hself
  unfold wlX12_isRow_2
  have e12 : (12 : Int32) * y.I 0 = nI (12 * n) := by
    rw [eI]
    show nI 12 * nI n = _
    rw [pk_mul]
  rw [e12]
  refine pk_le (12 * n) i (fun hle => h1 ?_) (fun hlt v ev => ?_)
  · rw [fitB2_iff]
    intro p hp
    have hpl : p < L.length := by rw [hL.1]; exact hp
    have hmem : L.getD p 0 ∈ L := by
      rw [List.getD_eq_getElem?_getD, List.getElem?_eq_getElem hpl]
      exact List.getElem_mem hpl
    have hlt := hL.2.2.1 _ hmem
    rw [okP_iff]
    intro c hc
    have := a (12 * L.getD p 0 + c) (by omega)
    rw [show (12 * L.getD p 0 + c) / 12 = L.getD p 0 by omega, show (12 * L.getD p 0 + c) % 12 = c by omega, hL.2.2.2 p hp] at this
    exact this
  · rw [show nI i / 12 = nI (i / 12) from pk_div (d := 12) (by omega) (by decide) (by decide)] at ev
    subst ev
    have hs : i / 12 < n := by omega
    have hc : i % 12 < 12 := by omega
    have ei : 12 * (i / 12) + i % 12 = i := by omega
    have hps : pos L (i / 12) < 6 := by
      have := (pos_mem (i / 12) L).mpr (hL.2.1 _ hs)
      rw [hL.1] at this; omega
    have key := m_rowL (y := y) (L := L) (n := n) (s := i / 12) (c := i % 12) hn hW hL hA hs hc (Post := Post) (KX := fun (y10 : Int32) (y11 : Int32) (y12 : Int32) => wpX12_dentOf y11 (y10 - y10 / 12 * 12) y (fun (r13 : Int32) => ((y12 = r13) → ∀ x1_14 : Int32, x1_14 = y10 + 1 → self x1_14) ∧ ((¬ y12 = r13) → Post 0)))
    rw [ei] at key
    refine key ?_
    have hr : nI i - nI i / 12 * 12 = nI (i % 12) := pk_rem (d := 12) (by omega) (by decide) (by decide)
    rw [hr]
    refine m_dentOf (by omega) hc ?_
    obtain ⟨d1, d2⟩ := dnN_ok hW hn hs hc
    have m9 := mxP_le (c := i % 12) L hW hps (mN (y.A 4)) (Nat.le_refl _)
    rw [d1]
    refine ⟨fun q z ez => ?_, fun q => h0 ?_⟩
    · subst ez
      rw [nI_1]
      have q' := (nI_eq (by omega) (by omega)).mp q
      refine hself _ ⟨i + 1, rfl, by omega, fun j hj => ?_⟩ (by rw [ncl (by omega), ncl (by omega)]; omega)
      by_cases hji : j = i
      · subst hji; exact q'
      · exact a j (by omega)
    · refine Bool.eq_false_iff.mpr (fun hf => q ?_)
      have hp : pos L (i / 12) < n := by
        have := (pos_mem (i / 12) L).mpr (hL.2.1 _ hs)
        rw [hL.1] at this; exact this
      have ho := (fitB2_iff _ _ n).mp hf (pos L (i / 12)) hp
      rw [okP_iff, pos_get _ L (hL.2.1 _ hs)] at ho
      rw [ho _ hc]
theorem m_saveL {y x : St} {g : Nat → Nat} {n C : Nat} {a : Int32} (hn : n ≤ 6) (eI : y.I 0 = nI n) (hC : C < 2 ^ 31) {Post : Int32 → St → Prop} {KX : Int32 → Int32 → St → Prop} (h : ∀ z : St, (∀ k, z.I k = y.I k) → (∀ k, z.L k = y.L k) → (∀ k, k ≠ 24 → z.A k = y.A k) → (C = 0 → ∀ k, k < n → z.A 24 k = y.A 23 k) → (C ≠ 0 → z.A 24 = y.A 24) → KX a (nI C) z) : ∃ k, wLX12_orders_51 Post KX k (a, nI C, 0, y) := by
  refine it_rule (F := fun self z => wlX12_orders_51 Post KX self z.1 z.2.1 z.2.2.1 z.2.2.2) (fun z => ∃ (j : Nat) (w : St), z = (a, nI C, nI j, w) ∧ j ≤ n ∧ (∀ k, w.I k = y.I k) ∧ (∀ k, w.L k = y.L k) ∧ (∀ k, k ≠ 24 → w.A k = y.A k) ∧ (∀ k, k < j → w.A 24 k = y.A 23 k) ∧ (C ≠ 0 → j = 0 ∧ w.A 24 = y.A 24)) (fun z => 6 - z.2.2.1.toNatClampNeg) ?_ _ ⟨0, y, rfl, by omega, fun _ => rfl, fun _ => rfl, fun _ _ => rfl, fun k hk => absurd hk (Nat.not_lt_zero k), fun _ => ⟨rfl, rfl⟩⟩
  rintro self z ⟨j, w, rfl, hj, a1, a2, a3, a4, a5⟩ hself
  dsimp only at hself ⊢
  unfold wlX12_orders_51
  rw [a1, eI]
  refine pk_le n j (fun hle => ?_) (fun hlt => ⟨fun q => ?_, fun q => ?_⟩)
  · exact h w a1 a2 a3 (fun _ k hk => a4 k (by omega)) (fun hC0 => (a5 hC0).2)
  · have hC0 : C ≠ 0 := fun e => q (by rw [e]; rfl)
    exact h w a1 a2 a3 (fun e => absurd e hC0) (fun hC0 => (a5 hC0).2)
  · have hC0 : C = 0 := (nI_eq (b := 0) hC (by decide)).mp q
    refine ⟨vp_in_nI (by omega) (by omega), vp_in_nI (by omega) (by omega), fun w' ew z ez => ?_⟩
    rw [ncl (by omega)] at ew
    subst ew; subst ez
    rw [nI_1]
    refine hself _ ⟨j + 1, _, rfl, by omega, a1, a2, fun k hk => ?_, fun k hk => ?_, fun e => absurd hC0 e⟩ (by dsimp only; rw [ncl (by omega), ncl (by omega)]; omega)
    · rw [sA_A, if_neg hk]; exact a3 k hk
    · show upd (w.A 24) j (w.A 23 j) k = _
      by_cases hkj : k = j
      · subst hkj; rw [upd_at, a3 23 (by decide)]
      · rw [upd_ne hkj]; exact a4 k (by omega)
