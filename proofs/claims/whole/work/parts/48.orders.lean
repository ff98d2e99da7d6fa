theorem sh_or {M s : Nat} (hs : s < 31) : nI M ||| ((1 : Int32) <<< (nI s &&& 31)) = nI (M ||| 2 ^ s) := by rw [shl1 s hs, fa_or]
theorem tb_or (M s a : Nat) : (M ||| 2 ^ s).testBit a = (M.testBit a || decide (s = a)) := by
  rw [Nat.testBit_or, Nat.testBit_two_pow]
theorem or_lt {M s n : Nat} (hM : M < 2 ^ n) (hs : s < n) : M ||| 2 ^ s < 2 ^ n := Nat.or_lt_two_pow hM (Nat.pow_lt_pow_right (by decide) hs)
/-- the row laid so far -/
def Laid (p : St) (pre : List Nat) (M n : Nat) : Prop := M < 2 ^ 6 ∧ (∀ a, a < n → (M.testBit a = true ↔ a ∈ pre)) ∧ ∀ a, a ∈ pre → p.A 1 a = nI (pos pre a)
theorem Laid_put {p : St} {pre : List Nat} {M n s : Nat} (h : Laid p pre M n) (hn : n ≤ 6) (hs : s < n) (hm : s ∉ pre) {y : St} (hy : y.A 1 = upd (p.A 1) s (nI pre.length)) : Laid y (pre ++ [s]) (M ||| 2 ^ s) n := by
  obtain ⟨h1, h2, h3⟩ := h
  refine ⟨or_lt h1 (by omega), fun a ha => ?_, fun a ha => ?_⟩
  · rw [tb_or, Bool.or_eq_true, decide_eq_true_eq, h2 a ha, List.mem_append, List.mem_singleton]
    exact ⟨fun q => q.imp_right (fun w => w.symm), fun q => q.imp_right (fun w => w.symm)⟩
  · rw [hy, pos_app]
    by_cases hap : a ∈ pre
    · have hne : a ≠ s := fun w => hm (by rw [← w]; exact hap)
      rw [if_pos hap, upd_ne hne]; exact h3 a hap
    · rw [if_neg hap]
      have : a = s := by
        rcases List.mem_append.mp ha with w | w
        · exact absurd w hap
        · exact List.mem_singleton.mp w
      subst this
      rw [upd_at]
      congr 1
      show _ = _ + (if a = a then 0 else _)
      rw [if_pos rfl]; rfl
theorem Laid_le {p p' : St} {pre : List Nat} {M n : Nat} (h : Laid p pre M n) (hA : ∀ a, a ∈ pre → p'.A 1 a = p.A 1 a) : Laid p' pre M n := ⟨h.1, h.2.1, fun a ha => (hA a ha).trans (h.2.2 a ha)⟩
theorem k_lay {q : St} {st : Nat → Int32} {n : Nat} (hR : RP (q.A 0) q st) (hW : WF st n) (hn : n ≤ 6) (eI : q.I 3 = nI n) (e : Nat) : ∀ (f : Nat) (pre : List Nat) (p : St) (M F : Nat), pre.length + f = n → Laid p pre M n → A2ok (p.A 2) st n → p.I 4 = nI F → F + cnD st n f pre ≤ 720 → ∀ {Post : St → Prop}, (∀ p' : St, p'.I 4 = nI (F + cnD st n f pre) → p'.A 2 = p.A 2 → (∀ a, a ∈ pre → p'.A 1 a = p.A 1 a) → Post p') → wpX8_layFrom (f + 1 + e) (nI pre.length) (nI M) (nI 720) p q Post := by
  intro f
  induction f with
  | zero =>
    intro pre p M F hlen hL h2 hF hle Post h
    rw [show 0 + 1 + e = e + 1 by omega]
    show wbX8_layFrom (wpX8_layFrom e) _ _ _ _ _ _
    unfold wbX8_layFrom wjX8_layFrom_14
    rw [eI]
    have el : pre.length = n := by omega
    rw [el]
    refine ⟨fun _ p1 e1 => ?_, fun z => absurd (nI_le (Nat.le_refl n) (by omega)) z⟩
    subst e1
    refine h _ ?_ rfl (fun _ _ => rfl)
    rw [sI_I, if_pos rfl, hF]; exact nI_1 F
  | succ f ih =>
    intro pre p M F hlen hL h2 hF hle Post h
    rw [show f + 1 + 1 + e = (f + 1 + e) + 1 by omega]
    show wbX8_layFrom (wpX8_layFrom (f + 1 + e)) _ _ _ _ _ _
    unfold wbX8_layFrom
    rw [eI]
    refine ⟨fun z => absurd z (nI_ge (by omega) (by omega)), fun _ => ⟨fun _ => ?_, fun z => absurd (nI_lt (a := pre.length) (b := 6) (by omega) (by omega)) z⟩⟩
    rw [cnD_s] at hle h
    refine it_rule (F := fun self z => wlX8_layFrom_28 (wpX8_layFrom (f + 1 + e)) q Post _ self z.1 z.2.1 z.2.2.1 z.2.2.2.1 z.2.2.2.2) (fun z => ∃ (s : Nat) (y : St), z = (nI pre.length, nI M, nI 720, nI s, y) ∧ s ≤ n ∧ y.I 4 = nI (F + cnS st (cnD st n f) pre s) ∧ y.A 2 = p.A 2 ∧ ∀ a, a ∈ pre → y.A 1 a = p.A 1 a) (fun z => 6 - z.2.2.2.1.toNatClampNeg) ?_ _ ⟨0, p, rfl, by omega, hF, rfl, fun _ _ => rfl⟩
    rintro self z ⟨s, y, rfl, hs, a1, a2, a3⟩ hself
    dsimp only at hself ⊢
    unfold wlX8_layFrom_28
    rw [eI, a1]
    have hmono := cnS_mono st (cnD st n f) pre s (n - s)
    rw [show s + (n - s) = n by omega] at hmono
    refine pk_le n s (fun hge => ?_) (fun hlt => pk_le 720 (F + cnS st (cnD st n f) pre s) (fun h720 => ?_) (fun h720 => ?_))
    · have es : s = n := by omega
      subst es
      exact h y a1 a2 a3
    · refine h y ?_ a2 a3
      rw [a1]; congr 1; omega
    · have hM31 : M < 2 ^ 31 := Nat.lt_of_lt_of_le hL.1 (by decide)
      refine ⟨fun hb z ez => ?_, fun hb => ?_⟩
      · rw [has_0 hM31 (by omega)] at hb
        subst ez
        rw [nI_1]
        have hmem : s ∈ pre := (hL.2.1 s hlt).mp (by simpa using hb)
        refine hself _ ⟨s + 1, y, rfl, by omega, ?_, a2, a3⟩ (by dsimp only; rw [ncl (by omega), ncl (by omega)]; omega)
        rw [cnS_s, if_pos hmem]; exact a1
      · rw [has_0 hM31 (by omega)] at hb
        have hmem : s ∉ pre := fun w => by rw [(hL.2.1 s hlt).mpr w] at hb; exact absurd hb (by decide)
        rw [ncl (by omega), ncl (by omega)]
        refine ⟨vp_in_nI (by omega) (by omega), fun y3 e3 => ⟨vp_in_nI (by omega) (by omega), fun y4 e4 => ?_⟩⟩
        rw [sh_or (by omega)]
        have hy4 : y4.A 1 = upd (y.A 1) s (nI pre.length) := by rw [e4, e3]; rfl
        have hL4 : Laid y4 (pre ++ [s]) (M ||| 2 ^ s) n := Laid_put (Laid_le hL a3) hn hlt hmem hy4
        have h24 : y4.A 2 = p.A 2 := by rw [e4, e3]; exact a2
        have h44 : y4.I 4 = nI (F + cnS st (cnD st n f) pre s) := by rw [e4, e3]; exact a1
        have hA14 : ∀ a, a ∈ pre → y4.A 1 a = p.A 1 a := fun a ha => by
          have hne : a ≠ s := fun w => hmem (by rw [← w]; exact ha)
          rw [hy4, upd_ne hne]; exact a3 a ha
        have hlen2 : (pre ++ [s]).length = pre.length + 1 := by simp
        have hgd : (pre ++ [s]).getD pre.length 0 = s := by simp [List.getD]
        refine k_mayLie (L := pre ++ [s]) hR hW hn hlt (by omega) hlen2 hgd (Nat.lt_of_lt_of_le hL4.1 (by decide)) hL4.2.1 hL4.2.2 (by rw [h24]; exact h2) (fun ok y6 b1 b2 => b1e ?_) (fun ok y6 b1 b2 => b0e (fun z ez => ?_))
        · have hle2 : F + cnS st (cnD st n f) pre s + cnD st n f (pre ++ [s]) ≤ 720 := by
            have h1 := cnS_mono st (cnD st n f) pre (s + 1) (n - (s + 1))
            rw [show s + 1 + (n - (s + 1)) = n by omega, cnS_s, if_neg hmem, if_pos ok] at h1
            omega
          rw [show nI pre.length + 1 = nI (pre ++ [s]).length by rw [hlen2]; exact nI_1 _]
          refine ih (pre ++ [s]) y6 (M ||| 2 ^ s) _ (by omega) (Laid_le hL4 (fun a _ => by rw [b2 1 (by decide)])) (by rw [b2 2 (by decide), h24]; exact h2) (by rw [b1]; exact h44) hle2 (fun p8 c1 c2 c3 z ez => ?_)
          subst ez
          rw [nI_1]
          refine hself _ ⟨s + 1, p8, rfl, by omega, ?_, by rw [c2, b2 2 (by decide)]; exact h24, fun a ha => ?_⟩ (by dsimp only; rw [ncl (by omega), ncl (by omega)]; omega)
          · rw [c1, cnS_s, if_neg hmem, if_pos ok, Nat.add_assoc]
          · rw [c3 a (List.mem_append_left _ ha), b2 1 (by decide)]; exact hA14 a ha
        · subst ez
          rw [nI_1]
          refine hself _ ⟨s + 1, y6, rfl, by omega, ?_, by rw [b2 2 (by decide)]; exact h24, fun a ha => by rw [b2 1 (by decide)]; exact hA14 a ha⟩ (by dsimp only; rw [ncl (by omega), ncl (by omega)]; omega)
          rw [b1, cnS_s, if_neg hmem, if_neg (by rw [ok]; decide)]; exact h44
/-! the first row is as the sheets lie -/
theorem range_split {n P : Nat} (h : P ≤ n) : ∃ M : List Nat, List.range n = List.range P ++ M := by
  obtain ⟨d, rfl⟩ : ∃ d, n = P + d := ⟨n - P, by omega⟩
  exact ⟨_, List.range_add⟩
theorem range_getD {n P : Nat} (h : P < n) : (List.range n).getD P 0 = P := by
  simp [List.getD, List.getElem?_range h]
theorem range_pos {n a : Nat} (h : a < n) : pos (List.range n) a = a := by
  obtain ⟨M, hM⟩ := range_split (n := n) (P := a) (by omega)
  obtain ⟨M2, hM2⟩ := range_split (n := n) (P := a + 1) (by omega)
  rw [hM2, pos_app, if_pos (by simp), List.range_succ, pos_app, if_neg (by simp), List.length_range]
  show a + (if a = a then 0 else _) = a
  rw [if_pos rfl, Nat.add_zero]
theorem id_frP {st : Nat → Int32} {n k s c : Nat} (g : GN st n k) (hs : s < n) (hn : n ≤ 6) : frc st s c k = nI (frP st (List.range n) s c k) := by
  obtain ⟨g1, g2, g3, g4, g5, g6, g7, g8, g9, g10⟩ := g
  unfold frc frP
  rw [range_pos g9]
  by_cases h : onN st k ≤ s ∧ (ceN st k).testBit c = true
  · rw [if_pos h, if_pos h, g1, g3]
    exact (fo_all _ g2 _ (by omega) _ (by omega)).1
  · rw [if_neg h, if_neg h]; rfl
theorem id_mxP {st : Nat → Int32} {n s c : Nat} (hW : WF st n) (hs : s < n) (hn : n ≤ 6) : ∀ m, m ≤ mN st → mx st s c m = nI (mxP st (List.range n) s c m)
  | 0, _ => rfl
  | m + 1, h => by
    have ih := id_mxP (c := c) hW hs hn m (by omega)
    have g := hW.2.2.2.2.1 m (by omega)
    have h9 := mxP_le (c := c) (List.range n) hW (show s < 6 by omega) m (by omega)
    have f9 := frP_le (c := c) (List.range n) g (show s < 6 by omega)
    rw [mx_s, mxP_s, ih, id_frP g hs hn]
    by_cases hl : mxP st (List.range n) s c m < frP st (List.range n) s c m
    · rw [if_pos (nI_lt hl (by omega)), Nat.max_eq_right (by omega)]
    · rw [if_neg (nI_nlt (by omega) (by omega)), Nat.max_eq_left (by omega)]
theorem id_fits {st : Nat → Int32} {n : Nat} (hW : WF st n) (hn : n ≤ 6) : fitB2 st (List.range n) n = true := by
  rw [fitB2_iff]
  intro p hp
  rw [okP_iff, range_getD hp]
  intro c hc
  have h1 := id_mxP (c := c) hW hp hn (mN st) (Nat.le_refl _)
  have h9 := mxP_le (c := c) (List.range n) hW (show p < 6 by omega) (mN st) (Nat.le_refl _)
  unfold dnN
  rw [hW.2.2.2.2.2 p hp c hc, h1, ncl (by omega)]
theorem id_ok {st : Nat → Int32} {n P : Nat} (hW : WF st n) (hn : n ≤ 6) (hP : P < n) : okP st (List.range P ++ [P]) P = true := by
  obtain ⟨M, hM⟩ := range_split (n := n) (P := P + 1) (by omega)
  have h := (fitB2_iff st (List.range n) n).mp (id_fits hW hn) P hP
  rw [hM, okP_app st _ M (by simp), List.range_succ] at h
  exact h
theorem k_layId {q : St} {st : Nat → Int32} {n : Nat} (hR : RP (q.A 0) q st) (hW : WF st n) (hn : n ≤ 6) (eI : q.I 3 = nI n) (e : Nat) : ∀ (f P : Nat) (p : St) (M : Nat), P + f = n → Laid p (List.range P) M n → A2ok (p.A 2) st n → p.I 4 = nI 0 → (∀ k, k < P → p.A 0 k = nI k) → ∀ {Post : St → Prop}, (∀ p' : St, p'.I 4 = nI 1 → (∀ k, k < n → p'.A 0 k = nI k) → Post p') → wpX8_layFrom (f + 1 + e) (nI P) (nI M) (nI 1) p q Post := by
  intro f
  induction f with
  | zero =>
    intro P p M hlen hL h2 hF h0 Post h
    rw [show 0 + 1 + e = e + 1 by omega]
    show wbX8_layFrom (wpX8_layFrom e) _ _ _ _ _ _
    unfold wbX8_layFrom wjX8_layFrom_14
    have el : P = n := by omega
    subst el
    rw [eI]
    refine ⟨fun _ p1 e1 => ?_, fun z => absurd (nI_le (Nat.le_refl P) (by omega)) z⟩
    subst e1
    refine h _ ?_ h0
    rw [sI_I, if_pos rfl, hF]; exact nI_1 0
  | succ f ih =>
    intro P p M hlen hL h2 hF h0 Post h
    rw [show f + 1 + 1 + e = (f + 1 + e) + 1 by omega]
    show wbX8_layFrom (wpX8_layFrom (f + 1 + e)) _ _ _ _ _ _
    unfold wbX8_layFrom
    rw [eI]
    refine ⟨fun z => absurd z (nI_ge (by omega) (by omega)), fun _ => ⟨fun _ => ?_, fun z => absurd (nI_lt (a := P) (b := 6) (by omega) (by omega)) z⟩⟩
    refine it_rule (F := fun self z => wlX8_layFrom_28 (wpX8_layFrom (f + 1 + e)) q Post _ self z.1 z.2.1 z.2.2.1 z.2.2.2.1 z.2.2.2.2) (fun z => ∃ (s : Nat) (y : St), z = (nI P, nI M, nI 1, nI s, y) ∧ s ≤ P + 1 ∧ ((s ≤ P ∧ y = p) ∨ (s = P + 1 ∧ y.I 4 = nI 1 ∧ ∀ k, k < n → y.A 0 k = nI k))) (fun z => 7 - z.2.2.2.1.toNatClampNeg) ?_ _ ⟨0, p, rfl, by omega, Or.inl ⟨by omega, rfl⟩⟩
    rintro self z ⟨s, y, rfl, hs, hor⟩ hself
    dsimp only at hself ⊢
    unfold wlX8_layFrom_28
    rw [eI]
    rcases hor with ⟨hsP, rfl⟩ | ⟨hsP, a1, a2⟩
    · rw [hF]
      refine ⟨fun z => absurd z (nI_ge (by omega) (by omega)), fun _ => ⟨fun z => absurd z (nI_ge (a := 0) (b := 1) (by omega) (by omega)), fun _ => ?_⟩⟩
      have hM31 : M < 2 ^ 31 := Nat.lt_of_lt_of_le hL.1 (by decide)
      refine ⟨fun hb z ez => ?_, fun hb => ?_⟩
      · rw [has_0 hM31 (by omega)] at hb
        subst ez
        rw [nI_1]
        have hmem : s ∈ List.range P := (hL.2.1 s (by omega)).mp (by simpa using hb)
        have := List.mem_range.mp hmem
        exact hself _ ⟨s + 1, y, rfl, by omega, Or.inl ⟨by omega, rfl⟩⟩ (by dsimp only; rw [ncl (by omega), ncl (by omega)]; omega)
      · rw [has_0 hM31 (by omega)] at hb
        have hmem : s ∉ List.range P := fun w => by rw [(hL.2.1 s (by omega)).mpr w] at hb; exact absurd hb (by decide)
        have hsP2 : s = P := by
          have : ¬ s < P := fun w => hmem (List.mem_range.mpr w)
          omega
        subst hsP2
        rw [ncl (by omega)]
        refine ⟨vp_in_nI (by omega) (by omega), fun y3 e3 => ⟨vp_in_nI (by omega) (by omega), fun y4 e4 => ?_⟩⟩
        rw [sh_or (by omega)]
        have hy4 : y4.A 1 = upd (y.A 1) s (nI (List.range s).length) := by rw [e4, e3, List.length_range]; rfl
        have hL4 : Laid y4 (List.range s ++ [s]) (M ||| 2 ^ s) n := Laid_put hL hn (by omega) hmem hy4
        have h24 : y4.A 2 = y.A 2 := by rw [e4, e3]; rfl
        have h44 : y4.I 4 = nI 0 := by rw [e4, e3]; exact hF
        have h04 : ∀ k, k < s + 1 → y4.A 0 k = nI k := fun k hk => by
          have : y4.A 0 = upd (y.A 0) s (nI s) := by rw [e4, e3]; rfl
          rw [this]
          by_cases hks : k = s
          · subst hks; exact upd_at
          · rw [upd_ne hks]; exact h0 k (by omega)
        have hlen2 : (List.range s ++ [s]).length = s + 1 := by simp
        have hgd : (List.range s ++ [s]).getD s 0 = s := by simp [List.getD]
        refine k_mayLie (L := List.range s ++ [s]) hR hW hn (by omega) (by omega) hlen2 hgd (Nat.lt_of_lt_of_le hL4.1 (by decide)) hL4.2.1 hL4.2.2 (by rw [h24]; exact h2) (fun ok y6 b1 b2 => b1e ?_) (fun ok => absurd ok (by rw [id_ok hW hn (by omega)]; decide))
        rw [nI_1]
        refine ih (s + 1) y6 (M ||| 2 ^ s) (by omega) (by rw [List.range_succ]; exact Laid_le hL4 (fun a _ => by rw [b2 1 (by decide)])) (by rw [b2 2 (by decide), h24]; exact h2) (by rw [b1]; exact h44) (fun k hk => by rw [b2 0 (by decide)]; exact h04 k hk) (fun p8 c1 c2 z ez => ?_)
        subst ez
        exact hself _ ⟨s + 1, p8, rfl, by omega, Or.inr ⟨rfl, c1, c2⟩⟩ (by dsimp only; rw [ncl (by omega), ncl (by omega)]; omega)
    · rw [a1]
      exact ⟨fun _ => h y a1 a2, fun _ => ⟨fun _ => h y a1 a2, fun z => absurd (nI_le (a := 1) (b := 1) (by omega) (by omega)) z⟩⟩
/-! the search -/
theorem k_levels {q p : St} {st : Nat → Int32} {n s : Nat} {a : Int32} (hR : RP (q.A 0) q st) (hn : n ≤ 6) (hs : s < n) {Post : Int32 → St → Prop} {KX : Int32 → Int32 → St → Prop} (h : ∀ y : St, (∀ k, k ≠ 2 → y.A k = p.A k) → (∀ v, 1 ≤ v → v ≤ 9 → y.A 2 (10 * s + v) = bitsN (fun c => decide (¬ st (12 + 12 * s + c) < nI v)) 12) → (∀ i, i < 10 * s → y.A 2 i = p.A 2 i) → KX a (nI s) y) : ∃ k, wLX8_search_13 q Post KX k (a, nI s, 1, p) := by
  refine it_rule (F := fun self z => wlX8_search_13 q Post KX self z.1 z.2.1 z.2.2.1 z.2.2.2) (fun z => ∃ (v : Nat) (y : St), z = (a, nI s, nI v, y) ∧ 1 ≤ v ∧ v ≤ 10 ∧ (∀ k, k ≠ 2 → y.A k = p.A k) ∧ (∀ w, 1 ≤ w → w < v → y.A 2 (10 * s + w) = bitsN (fun c => decide (¬ st (12 + 12 * s + c) < nI w)) 12) ∧ ∀ i, i < 10 * s → y.A 2 i = p.A 2 i) (fun z => 10 - z.2.2.1.toNatClampNeg) ?_ _ ⟨1, p, rfl, by omega, by omega, fun _ _ => rfl, fun w h1 h2 => by omega, fun _ _ => rfl⟩
  rintro self z ⟨v, y, rfl, h1, hv, a1, a2, a3⟩ hself
  dsimp only at hself ⊢
  unfold wlX8_search_13
  have e10 : nI s * 10 + nI v = nI (10 * s + v) := by
    show nI s * nI 10 + _ = _
    rw [pk_mul, nI_add]; congr 1; omega
  refine pk_le 10 v (fun hle => ?_) (fun hlt => k_atLeast (by omega) ?_)
  · exact h y a1 (fun w w1 w2 => a2 w w1 (by omega)) a3
  · rw [e10, ncl (by omega)]
    refine ⟨vp_in_nI (by omega) (by omega), fun y' ey z ez => ?_⟩
    have eb : bitsN (fun c => decide (¬ q.A 0 (4 + 14 * s + c) < nI v)) 12 = bitsN (fun c => decide (¬ st (12 + 12 * s + c) < nI v)) 12 := bitsN_cong (fun c hc => by rw [(hR.2.2.1 s (by omega)).2.2 c hc])
    rw [eb] at ey
    subst ez
    rw [nI_1]
    have eA : y'.A 2 = upd (y.A 2) (10 * s + v) (bitsN (fun c => decide (¬ st (12 + 12 * s + c) < nI v)) 12) := by rw [ey]; rfl
    refine hself _ ⟨v + 1, y', rfl, by omega, by omega, fun k hk => by rw [ey, sA_A, if_neg hk]; exact a1 k hk, fun w w1 w2 => ?_, fun i hi => ?_⟩ (by dsimp only; rw [ncl (by omega), ncl (by omega)]; omega)
    · rw [eA]
      by_cases hwv : w = v
      · subst hwv; exact upd_at
      · rw [upd_ne (by omega)]; exact a2 w w1 (by omega)
    · rw [eA, upd_ne (by omega)]; exact a3 i hi
theorem k_shownL {q p : St} {st : Nat → Int32} {n : Nat} {a : Int32} (hR : RP (q.A 0) q st) (hn : n ≤ 6) (eI : q.I 3 = nI n) {Post : Int32 → St → Prop} {KX : Int32 → St → Prop} (h : ∀ y : St, A2ok (y.A 2) st n → KX a y) : ∃ k, wLX8_search_2 q Post KX k (a, 0, p) := by
  refine it_rule (F := fun self z => wlX8_search_2 q Post KX self z.1 z.2.1 z.2.2) (fun z => ∃ (s : Nat) (y : St), z = (a, nI s, y) ∧ s ≤ n ∧ A2ok (y.A 2) st s) (fun z => 6 - z.2.1.toNatClampNeg) ?_ _ ⟨0, p, rfl, by omega, fun s hs => absurd hs (Nat.not_lt_zero s)⟩
  rintro self z ⟨s, y, rfl, hs, a1⟩ hself
  dsimp only at hself ⊢
  unfold wlX8_search_2
  rw [eI]
  refine pk_le n s (fun hle => ?_) (fun hlt => k_levels hR hn hlt (fun y' b1 b2 b3 z ez => ?_))
  · have e : s = n := by omega
    subst e
    exact h y a1
  · subst ez
    rw [nI_1]
    refine hself _ ⟨s + 1, y', rfl, by omega, fun i hi v v1 v2 => ?_⟩ (by dsimp only; rw [ncl (by omega), ncl (by omega)]; omega)
    by_cases his : i = s
    · subst his; exact b2 v v1 v2
    · rw [b3 _ (by omega)]; exact a1 i (by omega) v v1 v2
theorem Laid_0 (p : St) (n : Nat) : Laid p [] 0 n := ⟨by decide, fun a _ => by rw [Nat.zero_testBit]; exact ⟨fun q => absurd q (by decide), fun q => absurd q (List.not_mem_nil)⟩, fun a ha => absurd ha (List.not_mem_nil)⟩
theorem k_searchAll {q p : St} {st : Nat → Int32} {n : Nat} (hR : RP (q.A 0) q st) (hW : WF st n) (h1 : 1 ≤ n) (hn : n ≤ 6) (eI : q.I 3 = nI n) (hle : cnD st n n [] ≤ 720) {Post : Int32 → St → Prop} (h : ∀ p', Post (nI (cnD st n n [])) p') : wpX8_search 720 p q Post := by
  unfold wpX8_search
  refine k_shownL hR hn eI (fun y hy => ?_)
  intro p10 e10
  have := k_lay hR hW hn eI (6 - n) n [] p10 0 0 (by simp) (Laid_0 _ _) (by rw [e10]; exact hy) (by rw [e10]; rfl) (by rw [Nat.zero_add]; exact hle) (Post := fun p11 => Post (p11.I 4) p11) (fun p' b1 b2 b3 => by rw [b1, Nat.zero_add]; exact h p')
  rw [show n + 1 + (6 - n) = 7 by omega] at this
  exact this
theorem k_searchOne {q p : St} {st : Nat → Int32} {n : Nat} (hR : RP (q.A 0) q st) (hW : WF st n) (hn : n ≤ 6) (eI : q.I 3 = nI n) {Post : Int32 → St → Prop} (h : ∀ p' : St, (∀ k, k < n → p'.A 0 k = nI k) → Post 1 p') : wpX8_search 1 p q Post := by
  unfold wpX8_search
  refine k_shownL hR hn eI (fun y hy => ?_)
  intro p10 e10
  have := k_layId hR hW hn eI (6 - n) n 0 p10 0 (by omega) (Laid_0 _ _) (by rw [e10]; exact hy) (by rw [e10]; rfl) (fun k hk => absurd hk (Nat.not_lt_zero k)) (Post := fun p11 => Post (p11.I 4) p11) (fun p' b1 b2 => by rw [b1]; exact h p' b2)
  rw [show n + 1 + (6 - n) = 7 by omega] at this
  exact this
