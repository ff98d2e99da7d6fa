def fP (st : Nat → Int32) (L : List Nat) (p k : Nat) : Nat := if pos L (onN st k) ≤ p then foN (kN st k) (prN st k) (p - pos L (onN st k)) else 0
theorem frP_eq (st : Nat → Int32) (L : List Nat) (p c k : Nat) : frP st L p c k = if (ceN st k).testBit c = true then fP st L p k else 0 := by
  unfold frP fP
  by_cases h1 : pos L (onN st k) ≤ p <;> by_cases h2 : (ceN st k).testBit c = true <;> simp [h1, h2]
theorem fP_le {st : Nat → Int32} {n k p : Nat} (L : List Nat) (g : GN st n k) (hp : p < 6) : fP st L p k ≤ 9 := by
  obtain ⟨g1, g2, g3, g4, g5, g6, g7, g8, g9, g10⟩ := g
  unfold fP
  split
  · exact (fo_all _ g2 _ (by omega) _ (by omega)).2
  · omega
theorem frP_le {st : Nat → Int32} {n k p c : Nat} (L : List Nat) (g : GN st n k) (hp : p < 6) : frP st L p c k ≤ 9 := by
  rw [frP_eq]
  have := fP_le L g hp
  split <;> omega
theorem mxP_le {st : Nat → Int32} {n p c : Nat} (L : List Nat) (hW : WF st n) (hp : p < 6) : ∀ m, m ≤ mN st → mxP st L p c m ≤ 9
  | 0, _ => by show (0 : Nat) ≤ 9; omega
  | m + 1, h => by
    have ih := mxP_le (c := c) L hW hp m (by omega)
    have h2 := frP_le (c := c) L (hW.2.2.2.2.1 m (by omega)) hp
    rw [mxP_s]; omega
theorem dnN_ok {st : Nat → Int32} {n s c : Nat} (hW : WF st n) (hn : n ≤ 6) (hs : s < n) (hc : c < 12) : st (12 + 12 * s + c) = nI (dnN st s c) ∧ dnN st s c ≤ 9 := by
  have hT := exN_T (K := 0) (c := c) hW (show s < 6 by omega) (mN st) (Nat.le_refl _)
  unfold dnN
  rw [hW.2.2.2.2.2 s hs c hc]
  obtain ⟨j, ej, hj, _⟩ := toNI (show 0 ≤ (mx st s c (mN st)).toInt by omega)
  rw [ej, ncl (by omega)]
  exact ⟨rfl, by omega⟩
def A2ok (a2 st : Nat → Int32) (n : Nat) : Prop := ∀ s, s < n → ∀ q, 1 ≤ q → q ≤ 9 → a2 (10 * s + q) = bitsN (fun c => decide (¬ st (12 + 12 * s + c) < nI q)) 12
theorem k_clearL {q p : St} {a b c : Int32} {Post : Int32 → St → Prop} {KX : Int32 → Int32 → Int32 → St → Prop} (h : ∀ y : St, (∀ k, y.I k = p.I k) → (∀ k, k ≠ 3 → y.A k = p.A k) → (∀ v, 1 ≤ v → v ≤ 9 → y.A 3 v = 0) → KX a b c y) : ∃ n, wLX8_mayLie_3 q Post KX n (a, b, c, 1, p) := by
  refine it_rule (F := fun self z => wlX8_mayLie_3 q Post KX self z.1 z.2.1 z.2.2.1 z.2.2.2.1 z.2.2.2.2) (fun z => ∃ (i : Nat) (y : St), z = (a, b, c, nI i, y) ∧ 1 ≤ i ∧ i ≤ 10 ∧ (∀ k, y.I k = p.I k) ∧ (∀ k, k ≠ 3 → y.A k = p.A k) ∧ ∀ v, 1 ≤ v → v < i → y.A 3 v = 0) (fun z => 10 - z.2.2.2.1.toNatClampNeg) ?_ _ ⟨1, p, rfl, by omega, by omega, fun _ => rfl, fun _ _ => rfl, fun v h1 h2 => by omega⟩
  rintro self z ⟨i, y, rfl, h1, hi, a1, a2, a3⟩ hself
  dsimp only at hself ⊢
  unfold wlX8_mayLie_3
  refine pk_le 10 i (fun hle => ?_) (fun hlt => ⟨vp_in_nI (by omega) (by omega), fun y' ey z ez => ?_⟩)
  · exact h y a1 a2 (fun v v1 v2 => a3 v v1 (by omega))
  · rw [ncl (by omega)] at ey
    subst ey; subst ez
    rw [nI_1]
    refine hself _ ⟨i + 1, _, rfl, by omega, by omega, a1, fun k hk => ?_, fun v v1 v2 => ?_⟩ (by dsimp only; rw [ncl (by omega), ncl (by omega)]; omega)
    · rw [sA_A, if_neg hk]; exact a2 k hk
    · show upd (y.A 3) i 0 v = 0
      by_cases hv : v = i
      · subst hv; exact upd_at
      · rw [upd_ne hv]; exact a3 v v1 (by omega)
theorem k_pressedL {q p : St} {st : Nat → Int32} {n s P M : Nat} {L : List Nat} (hR : RP (q.A 0) q st) (hW : WF st n) (hn : n ≤ 6) (hP : P < n) (hL : L.length = P + 1) (hM : M < 2 ^ 31) (hMb : ∀ a, a < n → (M.testBit a = true ↔ a ∈ L)) (hA1 : ∀ a, a ∈ L → p.A 1 a = nI (pos L a)) (h0 : ∀ v, 1 ≤ v → v ≤ 9 → p.A 3 v = 0) {Post : Int32 → St → Prop} {KX : Int32 → St → Prop} (h : ∀ y : St, (∀ k, y.I k = p.I k) → (∀ k, k ≠ 3 → y.A k = p.A k) → (∀ v, 1 ≤ v → v ≤ 9 → ∀ b, b < 32 → (bt (y.A 3 v) b = true ↔ ∃ j, j < mN st ∧ fP st L P j = v ∧ (ceN st j).testBit b = true)) → KX (nI s) y) : ∃ k, wLX8_mayLie_27 q Post KX k (nI s, nI P, nI M, 0, p) := by
  have hm10 := hW.2.2.2.1
  have em : q.A 0 1 = nI (mN st) := hR.2.1.trans hW.2.2.1
  refine it_rule (F := fun self z => wlX8_mayLie_27 q Post KX self z.1 z.2.1 z.2.2.1 z.2.2.2.1 z.2.2.2.2) (fun z => ∃ (k : Nat) (y : St), z = (nI s, nI P, nI M, nI k, y) ∧ k ≤ mN st ∧ (∀ k, y.I k = p.I k) ∧ (∀ k, k ≠ 3 → y.A k = p.A k) ∧ ∀ v, 1 ≤ v → v ≤ 9 → ∀ b, b < 32 → (bt (y.A 3 v) b = true ↔ ∃ j, j < k ∧ fP st L P j = v ∧ (ceN st j).testBit b = true)) (fun z => 10 - z.2.2.2.1.toNatClampNeg) ?_ _ ⟨0, p, rfl, by omega, fun _ => rfl, fun _ _ => rfl, fun v v1 v2 b hb => ?_⟩
  · rintro self z ⟨k, y, rfl, hk, a1, a2, a3⟩ hself
    dsimp only at hself ⊢
    unfold wlX8_mayLie_27
    refine k_noteCount ?_
    rw [em]
    refine pk_le (mN st) k (fun hle => ?_) (fun hlt => ⟨vp_in_nI (by omega) (by omega), fun r er => ?_⟩)
    · have e : k = mN st := by omega
      subst e
      exact h y a1 a2 a3
    · have g := hW.2.2.2.2.1 k hlt
      have g' := g
      obtain ⟨g1, g2, g3, g4, g5, g6, g7, g8, g9, g10⟩ := g'
      obtain ⟨r1, r2, r3, r4, r5⟩ := hR.2.2.2 k hlt
      rw [ncl (by omega), r4, g8] at er
      subst er
      have hon : onN st k < 6 := by omega
      rw [has_0 hM (by omega)]
      have hfP9 := fP_le L g (show P < 6 by omega)
      refine ⟨fun hb z ez => ?_, fun hb => ?_⟩
      · subst ez
        rw [nI_1]
        have hnm : onN st k ∉ L := fun w => by rw [(hMb _ g9).mpr w] at hb; exact absurd hb (by decide)
        have hf0 : fP st L P k = 0 := by
          unfold fP
          have : ¬ pos L (onN st k) < L.length := fun w => hnm ((pos_mem _ _).mp w)
          rw [if_neg (by omega)]
        refine hself _ ⟨k + 1, y, rfl, by omega, a1, a2, fun v v1 v2 b hb2 => ?_⟩ (by dsimp only; rw [ncl (by omega), ncl (by omega)]; omega)
        rw [a3 v v1 v2 b hb2]
        constructor
        · rintro ⟨j, h1, h2, h3⟩; exact ⟨j, by omega, h2, h3⟩
        · rintro ⟨j, h1, h2, h3⟩
          by_cases hjk : j = k
          · subst hjk; omega
          · exact ⟨j, by omega, h2, h3⟩
      · have hmem : onN st k ∈ L := (hMb _ g9).mp (by simpa using hb)
        have hpos := (pos_mem _ _).mpr hmem
        refine ⟨vp_in_nI (by omega) (by omega), ?_⟩
        rw [ncl (by omega), a2 1 (by decide), hA1 _ hmem, pk_sub (by omega)]
        have hfP : fP st L P k = foN (kN st k) (prN st k) (P - pos L (onN st k)) := by
          unfold fP; rw [if_pos (by omega)]
        have e : (nI k * 6 + nI (P - pos L (onN st k))) = nI (6 * k + (P - pos L (onN st k))) := by
          show nI k * nI 6 + _ = _
          rw [pk_mul, nI_add]; congr 1; omega
        unfold wpX4_forceDown
        refine ⟨fun z => absurd z (nI_pos (by omega)), fun _ => ⟨fun _ => ?_, fun z => absurd (nI_lt (a := P - pos L (onN st k)) (b := 6) (by omega) (by decide)) z⟩⟩
        rw [e, ncl (n := 6 * k + (P - pos L (onN st k))) (by omega), r5 _ (by omega), g1, g3, (fo_all _ g2 _ (by omega) _ (by omega)).1, ← hfP]
        refine ⟨vp_in_nI (by omega) (by omega), vp_in_nI (by omega) (by omega), vp_in_nI (by omega) (by omega), vp_in_nI (by omega) (by omega), fun y' ey z ez => ?_⟩
        rw [ncl (by omega), ncl (by omega), r3, g6] at ey
        subst ez
        rw [nI_1]
        refine hself _ ⟨k + 1, y', rfl, by omega, fun j => by rw [ey]; exact a1 j, fun j hj => by rw [ey, sA_A, if_neg hj]; exact a2 j hj, fun v v1 v2 b hb2 => ?_⟩ (by dsimp only; rw [ncl (by omega), ncl (by omega)]; omega)
        have e3 : y'.A 3 v = if v = fP st L P k then y.A 3 v ||| nI (ceN st k) else y.A 3 v := by
          rw [ey, sA_A, if_pos rfl]
          by_cases hv : v = fP st L P k
          · rw [if_pos hv, hv, upd_at]
          · rw [if_neg hv, upd_ne hv]
        rw [e3]
        by_cases hv : v = fP st L P k
        · rw [if_pos hv, b_or, Bool.or_eq_true, a3 v v1 v2 b hb2, bt_nI hb2]
          constructor
          · rintro (⟨j, h1, h2, h3⟩ | h3)
            · exact ⟨j, by omega, h2, h3⟩
            · exact ⟨k, by omega, hv.symm, h3⟩
          · rintro ⟨j, h1, h2, h3⟩
            by_cases hjk : j = k
            · subst hjk; exact Or.inr h3
            · exact Or.inl ⟨j, by omega, h2, h3⟩
        · rw [if_neg hv, a3 v v1 v2 b hb2]
          constructor
          · rintro ⟨j, h1, h2, h3⟩; exact ⟨j, by omega, h2, h3⟩
          · rintro ⟨j, h1, h2, h3⟩
            by_cases hjk : j = k
            · subst hjk; exact absurd h2.symm hv
            · exact ⟨j, by omega, h2, h3⟩
  · rw [h0 v v1 v2, b_0]
    exact ⟨fun w => absurd w (by decide), fun ⟨j, w, _⟩ => absurd w (Nat.not_lt_zero j)⟩
theorem k_compareL {q p : St} {st : Nat → Int32} {n s P : Nat} {L : List Nat} (hW : WF st n) (hn : n ≤ 6) (hs : s < n) (hP : P < n) (hg : L.getD P 0 = s) (h2 : A2ok (p.A 2) st n) (h3 : ∀ v, 1 ≤ v → v ≤ 9 → ∀ b, b < 32 → (bt (p.A 3 v) b = true ↔ ∃ j, j < mN st ∧ fP st L P j = v ∧ (ceN st j).testBit b = true)) {Post : Int32 → St → Prop} {KX : St → Prop} (hy : okP st L P = true → KX p) (hno : okP st L P = false → Post 0 p) : ∃ k, wLX8_mayLie_98 q Post KX k (nI s, 0, 9, p) := by
  have hce : ∀ j, j < mN st → ∀ b, 12 ≤ b → (ceN st j).testBit b = false := fun j hj b hb => by
    have h1 := (hW.2.2.2.2.1 j hj).2.2.2.2.2.2.1
    exact (lt_bits (n := 12)).mp (by omega) b hb
  have hmx : ∀ i c, 1 ≤ i → (i ≤ mxP st L P c (mN st) ↔ ∃ j, j < mN st ∧ i ≤ fP st L P j ∧ (ceN st j).testBit c = true) := fun i c hi => by
    rw [mxP_ge st L P c i hi]
    constructor
    · rintro ⟨j, hj, h⟩
      rw [frP_eq] at h
      by_cases hb : (ceN st j).testBit c = true
      · rw [if_pos hb] at h; exact ⟨j, hj, h, hb⟩
      · rw [if_neg hb] at h; omega
    · rintro ⟨j, hj, h, hb⟩
      exact ⟨j, hj, by rw [frP_eq, if_pos hb]; exact h⟩
  refine it_rule (F := fun self z => wlX8_mayLie_98 q Post KX self z.1 z.2.1 z.2.2.1 z.2.2.2) (fun z => ∃ (i : Nat) (v : Int32), z = (nI s, v, nI i, p) ∧ i ≤ 9 ∧ (∀ b, b < 32 → (bt v b = true ↔ ∃ j, j < mN st ∧ i < fP st L P j ∧ (ceN st j).testBit b = true)) ∧ ∀ w, i < w → w ≤ 9 → ∀ c, c < 12 → (w ≤ mxP st L P c (mN st) ↔ w ≤ dnN st s c)) (fun z => z.2.2.1.toNatClampNeg) ?_ _ ⟨9, 0, rfl, by omega, fun b hb => ?_, fun w w1 w2 => by omega⟩
  · rintro self z ⟨i, v, rfl, hi, a1, a2⟩ hself
    dsimp only at hself ⊢
    unfold wlX8_mayLie_98
    refine pk_lt i 1 (fun hlt => hy ?_) (fun hge => ⟨vp_in_nI (by omega) (by omega), fun v' ev => ?_⟩)
    · rw [okP_iff, hg]
      intro c hc
      have h9 := mxP_le (c := c) L hW (show P < 6 by omega) (mN st) (Nat.le_refl _)
      have hd9 := (dnN_ok hW hn hs hc).2
      rcases Nat.lt_trichotomy (mxP st L P c (mN st)) (dnN st s c) with h | h | h
      · have := (a2 (dnN st s c) (by omega) (by omega) c hc).mpr (Nat.le_refl _); omega
      · exact h
      · have := (a2 (mxP st L P c (mN st)) (by omega) (by omega) c hc).mp (Nat.le_refl _); omega
    · rw [ncl (by omega)] at ev
      have e10 : nI s * 10 + nI i = nI (10 * s + i) := by
        show nI s * nI 10 + _ = _
        rw [pk_mul, nI_add]; congr 1; omega
      have hv' : ∀ b, b < 32 → (bt v' b = true ↔ ∃ j, j < mN st ∧ i ≤ fP st L P j ∧ (ceN st j).testBit b = true) := fun b hb => by
        rw [ev, b_or, Bool.or_eq_true, a1 b hb, h3 i hge hi b hb]
        constructor
        · rintro (⟨j, g1, g2, g3⟩ | ⟨j, g1, g2, g3⟩)
          · exact ⟨j, g1, by omega, g3⟩
          · exact ⟨j, g1, by omega, g3⟩
        · rintro ⟨j, g1, g2, g3⟩
          by_cases he : fP st L P j = i
          · exact Or.inr ⟨j, g1, he, g3⟩
          · exact Or.inl ⟨j, g1, by omega, g3⟩
      rw [e10, ncl (by omega), h2 s hs i hge hi]
      have hbn : ∀ b, b < 32 → (bt (bitsN (fun c => decide (¬ st (12 + 12 * s + c) < nI i)) 12) b = true ↔ b < 12 ∧ i ≤ dnN st s b) := fun b hb => by
        rw [bt_bitsN _ 12 (by omega) b hb, Bool.and_eq_true, decide_eq_true_eq, decide_eq_true_eq]
        constructor
        · rintro ⟨g1, g2⟩
          have hd := dnN_ok hW hn hs g1
          rw [hd.1, nI_ltI (by omega) (by omega)] at g2
          exact ⟨g1, by omega⟩
        · rintro ⟨g1, g2⟩
          have hd := dnN_ok hW hn hs g1
          rw [hd.1, nI_ltI (by omega) (by omega)]
          exact ⟨g1, by omega⟩
      refine ⟨vp_in_nI (by omega) (by omega), fun he z ez => ?_, fun hne => hno ?_⟩
      · subst ez
        rw [show nI i + (-1) = nI (i - 1) by
          obtain ⟨j, rfl⟩ : ∃ j, i = j + 1 := ⟨i - 1, by omega⟩
          rw [show j + 1 - 1 = j by omega]
          exact pk_m1 j]
        refine hself _ ⟨i - 1, v', rfl, by omega, fun b hb => ?_, fun w w1 w2 c hc => ?_⟩ (by dsimp only; rw [ncl (by omega), ncl (by omega)]; omega)
        · rw [hv' b hb]
          constructor
          · rintro ⟨j, g1, g2, g3⟩; exact ⟨j, g1, by omega, g3⟩
          · rintro ⟨j, g1, g2, g3⟩; exact ⟨j, g1, by omega, g3⟩
        · by_cases hwi : w = i
          · subst hwi
            rw [hmx w c hge, ← hv' c (by omega), he, hbn c (by omega)]
            exact ⟨fun g => g.2, fun g => ⟨hc, g⟩⟩
          · exact a2 w (by omega) w2 c hc
      · refine Bool.eq_false_iff.mpr (fun hok => hne (b_ext fun b hb => ?_))
        rw [okP_iff, hg] at hok
        rw [Bool.eq_iff_iff, hv' b hb, hbn b hb]
        constructor
        · rintro ⟨j, g1, g2, g3⟩
          have hb12 : b < 12 := by
            refine Nat.lt_of_not_le fun w => ?_
            rw [hce j g1 b w] at g3; exact absurd g3 (by decide)
          exact ⟨hb12, by rw [← hok b hb12]; exact (hmx i b hge).mpr ⟨j, g1, g2, g3⟩⟩
        · rintro ⟨g1, g2⟩
          exact (hmx i b hge).mp (by rw [hok b g1]; exact g2)
  · rw [b_0]
    refine ⟨fun w => absurd w (by decide), fun ⟨j, g1, g2, _⟩ => ?_⟩
    have := fP_le L (hW.2.2.2.2.1 j g1) (show P < 6 by omega)
    omega
theorem k_mayLie {q p : St} {st : Nat → Int32} {n s P M : Nat} {L : List Nat} (hR : RP (q.A 0) q st) (hW : WF st n) (hn : n ≤ 6) (hs : s < n) (hP : P < n) (hL : L.length = P + 1) (hg : L.getD P 0 = s) (hM : M < 2 ^ 31) (hMb : ∀ a, a < n → (M.testBit a = true ↔ a ∈ L)) (hA1 : ∀ a, a ∈ L → p.A 1 a = nI (pos L a)) (h2 : A2ok (p.A 2) st n) {Post : Int32 → St → Prop} (hy : okP st L P = true → ∀ y : St, (∀ k, y.I k = p.I k) → (∀ k, k ≠ 3 → y.A k = p.A k) → Post 1 y) (hno : okP st L P = false → ∀ y : St, (∀ k, y.I k = p.I k) → (∀ k, k ≠ 3 → y.A k = p.A k) → Post 0 y) : wpX8_mayLie (nI s) (nI P) (nI M) p q Post := by
  refine k_clearL (fun y a1 a2 a3 => ?_)
  refine k_pressedL hR hW hn hP hL hM hMb (fun a ha => by rw [a2 1 (by decide)]; exact hA1 a ha) a3 (fun z b1 b2 b3 => ?_)
  refine k_compareL hW hn hs hP hg (by rw [b2 2 (by decide), a2 2 (by decide)]; exact h2) b3 (fun ok => hy ok z (fun k => (b1 k).trans (a1 k)) (fun k hk => (b2 k hk).trans (a2 k hk))) (fun ok => hno ok z (fun k => (b1 k).trans (a1 k)) (fun k hk => (b2 k hk).trans (a2 k hk)))
