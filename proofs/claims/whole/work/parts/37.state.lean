/-! rows that agree where it matters -/
theorem tN_c {st st' : Nat → Int32} (h : ∀ k, k < 126 → st' k = st k) : tN st' = tN st := by unfold tN; rw [h 125 (by decide)]
theorem mN_c {st st' : Nat → Int32} (h : ∀ k, k < 126 → st' k = st k) : mN st' = mN st := by unfold mN; rw [h 124 (by decide)]
theorem frc_c {st st' : Nat → Int32} {s c k : Nat} (h : ∀ i, 84 + 4 * k ≤ i → i < 88 + 4 * k → st' i = st i) : frc st' s c k = frc st s c k := by
  unfold frc onN ceN
  rw [h (84 + 4 * k) (by omega) (by omega), h (85 + 4 * k) (by omega) (by omega), h (86 + 4 * k) (by omega) (by omega), h (87 + 4 * k) (by omega) (by omega)]
theorem mx_c {st st' : Nat → Int32} {s c : Nat} : ∀ m, (∀ i, 84 ≤ i → i < 84 + 4 * m → st' i = st i) → mx st' s c m = mx st s c m
  | 0, _ => rfl
  | m + 1, h => by
    rw [mx_s, mx_s, mx_c m (fun i h1 h2 => h i h1 (by omega)), frc_c (fun i h1 h2 => h i (by omega) (by omega))]
theorem GN_c {st st' : Nat → Int32} {n k : Nat} (h : ∀ i, 84 + 4 * k ≤ i → i < 88 + 4 * k → st' i = st i) (ht : tN st ≤ tN st') (g : GN st n k) : GN st' n k := by
  unfold GN kN prN ceN onN at *
  rw [h (84 + 4 * k) (by omega) (by omega), h (85 + 4 * k) (by omega) (by omega), h (86 + 4 * k) (by omega) (by omega), h (87 + 4 * k) (by omega) (by omega)]
  obtain ⟨a1, a2, a3, a4, a5, a6, a7, a8, a9, a10⟩ := g
  exact ⟨a1, a2, a3, a4, a5, a6, a7, a8, a9, by omega⟩
theorem WF_c {st st' : Nat → Int32} {n : Nat} (hn : n ≤ 6) (h : ∀ k, k < 126 → st' k = st k) (w : WF st n) : WF st' n := by
  obtain ⟨w1, w2, w3, w4, w5, w6⟩ := w
  have e1 := tN_c h
  have e2 := mN_c h
  refine ⟨by rw [h 125 (by decide), e1]; exact w1, by rw [e1]; exact w2, by rw [h 124 (by decide), e2]; exact w3, by rw [e2]; exact w4, fun k hk => ?_, fun s hs c hc => ?_⟩
  · rw [e2] at hk
    exact GN_c (fun i _ h2 => h i (by omega)) (by rw [e1]; exact Nat.le_refl _) (w5 k hk)
  · rw [h _ (by omega), w6 s hs c hc, e2, mx_c _ (fun i _ h2 => h i (by omega))]
theorem RP_c {pg pg' st st' : Nat → Int32} {p p' : St} (hpg : ∀ i, i < 86 → pg' i = pg i) (h : ∀ k, k < 126 → st' k = st k) (hm : mN st ≤ 10) (hn : ∀ k, k < mN st → p'.A 5 k = p.A 5 k ∧ p'.A 6 k = p.A 6 k ∧ p'.A 7 k = p.A 7 k ∧ p'.A 8 k = p.A 8 k ∧ ∀ d, d < 6 → p'.A 9 (6 * k + d) = p.A 9 (6 * k + d)) (r : RP pg p st) : RP pg' p' st' := by
  obtain ⟨r1, r2, r3, r4⟩ := r
  refine ⟨by rw [hpg 0 (by decide), h 125 (by decide)]; exact r1, by rw [hpg 1 (by decide), h 124 (by decide)]; exact r2, fun s hs => ?_, fun k hk => ?_⟩
  · obtain ⟨a1, a2, a3⟩ := r3 s hs
    refine ⟨by rw [hpg _ (by omega), h _ (by omega)]; exact a1, by rw [hpg _ (by omega), h _ (by omega)]; exact a2, fun c hc => by rw [hpg _ (by omega), h _ (by omega)]; exact a3 c hc⟩
  · rw [mN_c h] at hk
    obtain ⟨a1, a2, a3, a4, a5⟩ := r4 k hk
    obtain ⟨b1, b2, b3, b4, b5⟩ := hn k hk
    rw [h _ (show 84 + 4 * k < 126 by omega), h _ (show 85 + 4 * k < 126 by omega), h _ (show 86 + 4 * k < 126 by omega), h _ (show 87 + 4 * k < 126 by omega)]
    exact ⟨b1.trans a1, b2.trans a2, b3.trans a3, b4.trans a4, fun d hd => (b5 d hd).trans (a5 d hd)⟩
/-- a pad and its row, agreeing with another pad and row -/
theorem PadN_c {p p' : St} {st ah wo st' ah' wo' : Nat → Int32} {n w u : Nat} (e3 : p'.I 3 = p.I 3) (e11 : p'.I 11 = p.I 11) (e2 : p'.I 2 = p.I 2) (h0 : ∀ i, i < 86 → p'.A 0 i = p.A 0 i) (h1 : ∀ i, i < 86 * u → p'.A 1 i = p.A 1 i) (hk : ∀ k, k < 10 → p'.A 5 k = p.A 5 k ∧ p'.A 6 k = p.A 6 k ∧ p'.A 7 k = p.A 7 k ∧ p'.A 8 k = p.A 8 k) (h9 : ∀ k, k < 60 → p'.A 9 k = p.A 9 k) (h10 : ∀ k, k < w → p'.A 10 k = p.A 10 k)
    (hs : ∀ k, k < 126 → st' k = st k) (ha : ∀ k, k < 126 * u → ah' k = ah k) (hw : ∀ k, k < w → wo' k = wo k) (h : PadN p st ah wo n w u) : PadN p' st' ah' wo' n w u := by
  obtain ⟨g1, g2, g3, g4, g5, g6, g7, g8, g9, g10⟩ := h
  have hst : ∀ j, j ≤ u → ∀ k, k < 126 → stk st' ah' u j k = stk st ah u j k := by
    intro j hj k hk2
    unfold stk
    by_cases hju : j = u
    · rw [if_pos hju, if_pos hju]; exact hs k hk2
    · rw [if_neg hju, if_neg hju]
      exact ha _ (by
        have : 126 * j + 126 ≤ 126 * u := by omega
        omega)
  have hpg : ∀ j, j ≤ u → ∀ i, i < 86 → pgk p' u j i = pgk p u j i := by
    intro j hj i hi
    unfold pgk
    by_cases hju : j = u
    · rw [if_pos hju, if_pos hju]; exact h0 i hi
    · rw [if_neg hju, if_neg hju]
      exact h1 _ (by
        have : 86 * j + 86 ≤ 86 * u := by omega
        omega)
  refine ⟨g1, g2, e3.trans g3, g4, e11.trans g5, g6, e2.trans g7, fun i hi => ?_, fun j hj => ?_, fun i j hij hj => ?_⟩
  · rw [h10 i hi, hw i hi]; exact g8 i hi
  · obtain ⟨r, wf⟩ := g9 j hj
    have hm := wf.2.2.2.1
    refine ⟨RP_c (hpg j hj) (hst j hj) hm (fun k hkm => ?_) r, WF_c g2 (hst j hj) wf⟩
    obtain ⟨b1, b2, b3, b4⟩ := hk k (by omega)
    exact ⟨b1, b2, b3, b4, fun d hd => h9 _ (by omega)⟩
  · rw [mN_c (hst i (by omega)), mN_c (hst j hj)]
    exact g10 i j hij hj
/-! a pad begun anew -/
theorem k_beginAnew {p : St} {x1 : Int32} {Post : St → Prop} (h : ∀ p' : St, p'.I 3 = x1 → p'.I 4 = 0 → p'.I 2 = 0 → p'.I 11 = 0 → (∀ i, i < 86 → p'.A 0 i = 0) → (∀ k, k ≠ 0 → p'.A k = p.A k) → Post p') : wpX4_beginAnew x1 p Post := by
  intro p1 e1 p2 e2 p3 e3 p4 e4
  subst e1; subst e2; subst e3; subst e4
  refine it_rule (F := fun self z => wlX4_beginAnew_22 Post _ self z.1 z.2) (fun z => ∃ (i : Nat) (y : St), z = (nI i, y) ∧ i ≤ 86 ∧ y.I 3 = x1 ∧ y.I 4 = 0 ∧ y.I 2 = 0 ∧ y.I 11 = 0 ∧ (∀ j, j < i → y.A 0 j = 0) ∧ ∀ k, k ≠ 0 → y.A k = p.A k) (fun z => 86 - z.1.toNatClampNeg) ?_ _ ⟨0, _, rfl, by omega, rfl, rfl, rfl, rfl, fun j hj => absurd hj (Nat.not_lt_zero j), fun _ _ => rfl⟩
  rintro self z ⟨i, y, rfl, hi, a1, a2, a3, a4, a5, a6⟩ hself
  dsimp only at hself ⊢
  unfold wlX4_beginAnew_22
  refine pk_le 86 i (fun hle => ?_) (fun hlt => ⟨vp_in_nI (by omega) (by omega), fun y' ey z ez => ?_⟩)
  · have e86 : i = 86 := by omega
    subst e86
    exact h y a1 a2 a3 a4 a5 a6
  · rw [ncl (by omega)] at ey
    subst ey; subst ez
    rw [nI_1]
    refine hself _ ⟨i + 1, _, rfl, by omega, a1, a2, a3, a4, fun j hj => ?_, fun k hk => ?_⟩ (by dsimp only; rw [ncl (by omega), ncl (by omega)]; omega)
    · show upd (y.A 0) i 0 j = 0
      unfold upd
      by_cases hji : j = i
      · rw [if_pos hji]
      · rw [if_neg hji]; exact a5 j (by omega)
    · rw [sA_A, if_neg hk]; exact a6 k hk
theorem m_empty {p : St} {Post : St → Prop} (h : ∀ p' : St, p'.I 1 = 0 → p'.I 6 = 0 → (∀ k, k ≠ 1 → k ≠ 6 → p'.I k = p.I k) → (∀ k, p'.L k = p.L k) → (∀ i, i < 126 → p'.A 4 i = 0) → (∀ k, k ≠ 4 → p'.A k = p.A k) → Post p') : wpX12_empty p Post := by
  unfold wpX12_empty
  refine it_rule (F := fun self z => wlX12_empty_2 Post _ self z.1 z.2) (fun z => ∃ (i : Nat) (y : St), z = (nI i, y) ∧ i ≤ 126 ∧ (∀ k, y.I k = p.I k) ∧ (∀ k, y.L k = p.L k) ∧ (∀ j, j < i → y.A 4 j = 0) ∧ ∀ k, k ≠ 4 → y.A k = p.A k) (fun z => 126 - z.1.toNatClampNeg) ?_ _ ⟨0, p, rfl, by omega, fun _ => rfl, fun _ => rfl, fun j hj => absurd hj (Nat.not_lt_zero j), fun _ _ => rfl⟩
  rintro self z ⟨i, y, rfl, hi, a1, a2, a5, a6⟩ hself
  dsimp only at hself ⊢
  unfold wlX12_empty_2
  refine pk_le 126 i (fun hle => ?_) (fun hlt => ⟨vp_in_nI (by omega) (by omega), fun y' ey z ez => ?_⟩)
  · have e126 : i = 126 := by omega
    subst e126
    intro y1 e1 y2 e2
    subst e1; subst e2
    refine h _ rfl rfl (fun k k1 k2 => ?_) a2 a5 a6
    rw [sI_I, if_neg k2, sI_I, if_neg k1]; exact a1 k
  · rw [ncl (by omega)] at ey
    subst ey; subst ez
    rw [nI_1]
    refine hself _ ⟨i + 1, _, rfl, by omega, a1, a2, fun j hj => ?_, fun k hk => ?_⟩ (by dsimp only; rw [ncl (by omega), ncl (by omega)]; omega)
    · show upd (y.A 4) i 0 j = 0
      unfold upd
      by_cases hji : j = i
      · rw [if_pos hji]
      · rw [if_neg hji]; exact a5 j (by omega)
    · rw [sA_A, if_neg hk]; exact a6 k hk
theorem PadN_new {p : St} {st ah wo : Nat → Int32} {n : Nat} (h1 : 1 ≤ n) (h6 : n ≤ 6) (e3 : p.I 3 = nI n) (e11 : p.I 11 = 0) (e2 : p.I 2 = 0) (h0 : ∀ i, i < 86 → p.A 0 i = 0) (hs : ∀ k, k < 126 → st k = 0) : PadN p st ah wo n 0 0 := by
  have et : tN st = 0 := by unfold tN; rw [hs 125 (by decide)]; decide
  have em : mN st = 0 := by unfold mN; rw [hs 124 (by decide)]; decide
  refine ⟨h1, h6, e3, by omega, e11, by omega, e2, fun i hi => absurd hi (Nat.not_lt_zero i), fun j hj => ?_, fun i j hij hj => ?_⟩
  · have ej : j = 0 := by omega
    subst ej
    unfold pgk stk
    rw [if_pos rfl, if_pos rfl]
    refine ⟨⟨by rw [h0 0 (by decide), hs 125 (by decide)], by rw [h0 1 (by decide), hs 124 (by decide)], fun s hs6 => ⟨by rw [h0 _ (by omega), hs _ (by omega)], by rw [h0 _ (by omega), hs _ (by omega)], fun c hc => by rw [h0 _ (by omega), hs _ (by omega)]⟩, fun k hk => by rw [em] at hk; omega⟩, by rw [et, hs 125 (by decide)]; rfl, by omega, by rw [em, hs 124 (by decide)]; rfl, by omega, fun k hk => by rw [em] at hk; omega, fun s hs6 c hc => ?_⟩
    rw [em, hs _ (by omega)]; rfl
  · have ej : j = 0 := by omega
    have ei : i = 0 := by omega
    rw [ei, ej]; exact Nat.le_refl _
theorem s_pad {t : Nat → St} {x : St} (h : Rel t x) (x1 : Int32) : SimI (wpX11_pad x1 t) (wpX12_pad x1 x) := by
  obtain ⟨n, w, u, e1, e2, e3, hc, g⟩ := h.1.got
  obtain ⟨hN, hO, hT, hM⟩ := id h
  unfold SimI wpX11_pad wpX12_pad wjX11_pad_11 wpX12_bad
  refine v_le 1 6 (by decide) (by decide) (fun a => k_bad ?_) (fun a b => ?_)
  · exact in_rule 1 6 (by decide) (by decide) (fun a1 a2 => absurd a (by omega)) (fun _ => b0n (m_ref0 ⟨rfl, R_bad h⟩))
  · intro r er
    refine k_beginAnew (fun p' f1 f2 f3 f4 f5 f6 => ?_)
    intro t5 et
    refine in_rule 1 6 (by decide) (by decide) (fun _ _ => b1n ?_) (fun z => absurd z (by omega))
    intro r2 er2 y1 ey1 y2 ey2
    subst ey1; subst ey2
    refine m_empty (fun x' g1 g2 g3 g4 g5 g6 => ?_)
    obtain ⟨k, ek, hk, _⟩ := toNI (show 0 ≤ x1.toInt by omega)
    subst et
    refine ⟨by rw [er, er2, g.2.2.1, e1], ⟨by rw [g1]; exact f2, k, 0, 0, ?_, ?_, g2, PadN_new (by omega) (by omega) (by rw [← ek]; exact f1) f4 f3 f5 g5⟩, ?_, ?_, ?_⟩
    · rw [g3 0 (by decide) (by decide), ← ek]; rfl
    · rw [g3 3 (by decide) (by decide)]; rfl
    · unfold ObjR at hO ⊢
      rw [g4, g4, g6 9 (by decide)]
      exact hO
    · unfold TxtR at hT ⊢
      rw [g3 11 (by decide) (by decide), g6 10 (by decide)]
      exact hT
    · unfold ImsR at hM ⊢
      rw [g6 27 (by decide), g6 28 (by decide)]
      exact hM
