theorem z0I : (0 : Int32).toInt = 0 := by decide
theorem ge0 {x : Int32} (h : 0 ≤ x.toInt) : (0 : Int32) ≤ x := by rw [fa_le, z0I]; exact h
/-! dents put into a row -/
def dI (row : Nat → Int32) (f ce : Nat) (force : Int32) (i : Nat) : Nat → Int32 := fun j => if f ≤ j ∧ j < f + i ∧ ce.testBit (j - f) = true ∧ row j < force then force else row j
theorem dI_no {row : Nat → Int32} {f ce : Nat} {force : Int32} {i : Nat} (h : ¬ (ce.testBit i = true ∧ row (f + i) < force)) : dI row f ce force (i + 1) = dI row f ce force i := by
  funext j
  unfold dI
  by_cases hj : j = f + i
  · subst hj
    rw [if_neg (fun q => h ⟨by have := q.2.2.1; rwa [show f + i - f = i by omega] at this, q.2.2.2⟩), if_neg (fun q => by omega)]
  · by_cases hc : f ≤ j ∧ j < f + i ∧ ce.testBit (j - f) = true ∧ row j < force
    · rw [if_pos hc, if_pos ⟨hc.1, by omega, hc.2.2⟩]
    · rw [if_neg hc, if_neg (fun q => hc ⟨q.1, by omega, q.2.2⟩)]
theorem dI_yes {row : Nat → Int32} {f ce : Nat} {force : Int32} {i : Nat} (h : ce.testBit i = true ∧ row (f + i) < force) : dI row f ce force (i + 1) = upd (dI row f ce force i) (f + i) force := by
  funext j
  unfold dI upd
  by_cases hj : j = f + i
  · subst hj
    rw [if_pos ⟨by omega, by omega, by rw [show f + i - f = i by omega]; exact h.1, h.2⟩, if_pos rfl]
  · rw [if_neg hj]
    dsimp only
    by_cases hc : f ≤ j ∧ j < f + i ∧ ce.testBit (j - f) = true ∧ row j < force
    · rw [if_pos hc, if_pos ⟨hc.1, by omega, hc.2.2⟩]
    · rw [if_neg hc, if_neg (fun q => hc ⟨q.1, by omega, q.2.2⟩)]
theorem dI_at {row : Nat → Int32} {f ce : Nat} {force : Int32} {i : Nat} : dI row f ce force i (f + i) = row (f + i) := by
  unfold dI
  rw [if_neg (fun q => by omega)]
theorem dI_0 (row : Nat → Int32) (f ce : Nat) (force : Int32) : dI row f ce force 0 = row := by
  funext j
  unfold dI
  rw [if_neg (fun q => by omega)]
theorem k_dentInto {row : Nat → Int32} {f ce n : Nat} {force : Int32} (hf : f + 12 ≤ n) (hn : n < 2 ^ 31) (hce : ce < 2 ^ 31) {Post : (Nat → Int32) → Prop} (h : Post (dI row f ce force 12)) : wpX11_dentInto (nI f) (nI ce) force row n Post := by
  have e0 : ((nI f, nI ce, force, 0, row) : Int32 × Int32 × Int32 × Int32 × (Nat → Int32)) = (fun i => (nI f, nI ce, force, nI i, dI row f ce force i)) 0 := by
    show _ = (nI f, nI ce, force, nI 0, dI row f ce force 0)
    rw [dI_0]; rfl
  unfold wpX11_dentInto
  rw [e0]
  refine for_rule (F := fun self z => wlX11_dentInto_3 n Post _ self z.1 z.2.1 z.2.2.1 z.2.2.2.1 z.2.2.2.2) 12 (fun i => (nI f, nI ce, force, nI i, dI row f ce force i)) ?_ ?_
  · intro self i hi hself
    dsimp only
    unfold wlX11_dentInto_3
    refine ⟨fun z => absurd z (nI_ge (b := 12) hi (by decide)), fun _ y ey => ?_⟩
    rw [nI_add] at ey
    subst ey
    rw [has_0 hce (by omega), ncl (by omega), dI_at]
    refine ⟨fun hb z ez => ?_, fun hb => ⟨fun q => absurd q (nI_pos (by omega)), fun _ => ⟨fun q => absurd q (nI_ge (by omega) (by omega)), fun _ => ⟨vp_in_nI (by omega) (by omega), fun q z ez => ?_, fun q => ⟨vp_in_nI (by omega) (by omega), fun y ey z ez => ?_⟩⟩⟩⟩⟩
    · subst ez
      rw [nI_1]
      rw [dI_no (fun q => by rw [hb] at q; exact absurd q.1 (by decide))] at hself
      exact hself
    · subst ez
      rw [nI_1]
      rw [dI_no (fun w => by have := w.2; rw [fa_lt] at this; rw [fa_le] at q; omega)] at hself
      exact hself
    · subst ey; subst ez
      rw [nI_1]
      rw [dI_yes ⟨by simpa using hb, by rw [fa_lt]; rw [fa_le] at q; omega⟩] at hself
      exact hself
  · intro self
    dsimp only
    unfold wlX11_dentInto_3
    exact ⟨fun _ => h, fun z => absurd (nI_le (a := 12) (b := 12) (by decide) (by decide)) z⟩
/-! what known notes explain -/
def exN (st : Nat → Int32) (s K c : Nat) : Nat → Int32
  | 0 => 0
  | k + 1 => if K.testBit k = true ∧ exN st s K c k < frc st s c k then frc st s c k else exN st s K c k
theorem exN_s (st : Nat → Int32) (s K c k : Nat) : exN st s K c (k + 1) = if K.testBit k = true ∧ exN st s K c k < frc st s c k then frc st s c k else exN st s K c k := rfl
theorem mx_s (st : Nat → Int32) (s c k : Nat) : mx st s c (k + 1) = if mx st s c k < frc st s c k then frc st s c k else mx st s c k := rfl
theorem frc_T {st : Nat → Int32} {n s c k : Nat} (g : GN st n k) (hs : s < 6) : 0 ≤ (frc st s c k).toInt ∧ (frc st s c k).toInt ≤ 9 := by
  obtain ⟨e, hle⟩ := fOn_N g hs
  rw [frc_eq]
  by_cases hb : (ceN st k).testBit c = true
  · rw [if_pos hb, e, nI_toInt (by omega)]; omega
  · rw [if_neg hb]; decide
theorem exN_T {st : Nat → Int32} {n s K c : Nat} (hW : WF st n) (hs : s < 6) : ∀ m, m ≤ mN st → 0 ≤ (exN st s K c m).toInt ∧ (exN st s K c m).toInt ≤ (mx st s c m).toInt ∧ (mx st s c m).toInt ≤ 9
  | 0, _ => by
    show 0 ≤ (0 : Int32).toInt ∧ (0 : Int32).toInt ≤ (0 : Int32).toInt ∧ (0 : Int32).toInt ≤ 9
    decide
  | m + 1, hm => by
    obtain ⟨i1, i2, i3⟩ := exN_T (K := K) (c := c) hW hs m (by omega)
    obtain ⟨f1, f2⟩ := frc_T (c := c) (hW.2.2.2.2.1 m (by omega)) hs
    rw [exN_s, mx_s]
    by_cases h1 : K.testBit m = true ∧ exN st s K c m < frc st s c m <;> by_cases h2 : mx st s c m < frc st s c m
    · rw [if_pos h1, if_pos h2]; omega
    · rw [if_pos h1, if_neg h2]; rw [fa_lt] at h2; omega
    · rw [if_neg h1, if_pos h2]; rw [fa_lt] at h2; omega
    · rw [if_neg h1, if_neg h2]; omega
theorem m_explained {x : St} {n s K c : Nat} (hW : WF (x.A 4) n) (hn : n ≤ 6) (hs : s < 6) (hc : c < 12) (hK : K < 2 ^ 31) {Post : Int32 → Prop} (h : Post (exN (x.A 4) s K c (mN (x.A 4)))) : wpX12_explained (nI s) (nI K) (nI c) x Post := by
  have em := hW.2.2.1
  have hm := hW.2.2.2.1
  refine for_rule (F := fun self z => wlX12_explained_6 x Post _ self z.1 z.2.1 z.2.2.1 z.2.2.2.1 z.2.2.2.2) (mN (x.A 4)) (fun i => (nI s, nI K, nI c, exN (x.A 4) s K c i, nI i)) ?_ ?_
  · intro self i hi hself
    dsimp only at hself ⊢
    unfold wlX12_explained_6
    rw [em]
    rw [exN_s] at hself
    refine ⟨fun z => absurd z (nI_ge hi (by omega)), fun _ => m_has hK (by omega) (fun hb => b1e ?_) (fun hb => b0e ?_)⟩
    · refine m_forceIn hW hn hi hs hc ?_
      unfold wjX12_explained_39
      refine ⟨fun q z ez => ?_, fun q z ez => ?_⟩
      · subst ez
        rw [nI_1]
        rw [if_neg (fun w => by have := w.2; rw [fa_lt] at this; rw [fa_le] at q; omega)] at hself
        exact hself
      · subst ez
        rw [nI_1]
        rw [if_pos ⟨hb, by rw [fa_lt]; rw [fa_le] at q; omega⟩] at hself
        exact hself
    · unfold wjX12_explained_39
      have h0 := (exN_T (K := K) (c := c) hW hs i (by omega)).1
      refine ⟨fun q z ez => ?_, fun q => absurd (ge0 h0) q⟩
      subst ez
      rw [nI_1]
      rw [if_neg (fun w => by rw [hb] at w; exact absurd w.1 (by decide))] at hself
      exact hself
  · intro self
    dsimp only
    unfold wlX12_explained_6
    rw [em]
    exact ⟨fun _ => h, fun z => absurd (nI_le (Nat.le_refl _) (by omega)) z⟩
theorem k_look {x p : St} {st : Nat → Int32} {n s K : Nat} (hR : RP (p.A 0) p st) (hW : WF st n) (hn : n ≤ 6) (hs : s < 6) (hK : K < 2 ^ 31) {Post : St → Prop} (h : ∀ x' : St, (∀ c, c < 12 → x'.A 0 c = st (12 + 12 * s + c)) → (∀ c, c < 12 → x'.A 1 c = exN st s K c (mN st)) → Post x') : wpX2_look (nI s) (nI K) x p Post := by
  have em : p.A 0 1 = nI (mN st) := hR.2.1.trans hW.2.2.1
  have hm := hW.2.2.2.1
  unfold wpX2_look
  refine it_rule (F := fun self z => wlX2_look_3 p Post _ self z.1 z.2.1 z.2.2.1 z.2.2.2) (fun z => ∃ (i : Nat) (y : St), z = (nI s, nI K, nI i, y) ∧ i ≤ 12 ∧ (∀ c, c < i → y.A 0 c = st (12 + 12 * s + c)) ∧ ∀ c, c < i → y.A 1 c = 0) (fun z => 12 - z.2.2.1.toNatClampNeg) ?_ _ ⟨0, x, rfl, by omega, fun c hc => absurd hc (Nat.not_lt_zero c), fun c hc => absurd hc (Nat.not_lt_zero c)⟩
  rintro self z ⟨i, y, rfl, hi, h1, h2⟩ hself
  dsimp only at hself ⊢
  unfold wlX2_look_3
  refine pk_le 12 i (fun hle => ?_) (fun hlt => ?_)
  · have e12 : i = 12 := by omega
    subst e12
    refine it_rule (F := fun self z => wlX2_look_41 p Post _ self z.1 z.2.1 z.2.2.1 z.2.2.2) (fun z => ∃ (j : Nat) (y : St), z = (nI s, nI K, nI j, y) ∧ j ≤ mN st ∧ (∀ c, c < 12 → y.A 0 c = st (12 + 12 * s + c)) ∧ ∀ c, c < 12 → y.A 1 c = exN st s K c j) (fun z => mN st - z.2.2.1.toNatClampNeg) ?_ _ ⟨0, y, rfl, by omega, h1, h2⟩
    rintro self2 z ⟨j, y, rfl, hj, h3, h4⟩ hself2
    dsimp only at hself2 ⊢
    unfold wlX2_look_41
    refine k_noteCount ?_
    rw [em]
    refine pk_le (mN st) j (fun hle2 => ?_) (fun hlt2 => ?_)
    · have ej : j = mN st := by omega
      subst ej
      exact h y h3 h4
    · have g := hW.2.2.2.2.1 j hlt2
      rw [has_0 hK (by omega), ncl (by omega)]
      refine ⟨fun hb z ez => ?_, fun hb => ⟨vp_in_nI (by omega) (by omega), k_forceOn hR hW hn hlt2 hs ?_⟩⟩
      · subst ez
        rw [nI_1]
        refine hself2 _ ⟨j + 1, y, rfl, by omega, h3, fun c hc => ?_⟩ (by dsimp only; rw [ncl (by omega), ncl (by omega)]; omega)
        rw [h4 c hc, exN_s, if_neg (fun w => by rw [hb] at w; exact absurd w.1 (by decide))]
      · have hbt : K.testBit j = true := by simpa using hb
        rw [(hR.2.2.2 j hlt2).2.2.1, g.2.2.2.2.2.1]
        refine k_dentInto (f := 0) (by omega) (by decide) (by have := g.2.2.2.2.2.2.1; omega) ?_
        intro z ez
        subst ez
        rw [nI_1]
        refine hself2 _ ⟨j + 1, _, rfl, by omega, h3, fun c hc => ?_⟩ (by dsimp only; rw [ncl (by omega), ncl (by omega)]; omega)
        show dI (y.A 1) 0 (ceN st j) (fOn st s j) 12 c = _
        unfold dI
        rw [exN_s, frc_eq, h4 c hc, show c - 0 = c by omega]
        have h0 := (exN_T (K := K) (c := c) hW hs j (by omega)).1
        by_cases ht : (ceN st j).testBit c = true
        · rw [if_pos ht]
          by_cases hl : exN st s K c j < fOn st s j
          · rw [if_pos ⟨by omega, by omega, ht, hl⟩, if_pos ⟨hbt, hl⟩]
          · rw [if_neg (fun w => hl w.2.2.2), if_neg (fun w => hl w.2)]
        · rw [if_neg ht, if_neg (fun w => ht w.2.2.1), if_neg (fun w => by
            have := w.2
            rw [fa_lt] at this
            have z0 : (0 : Int32).toInt = 0 := by decide
            omega)]
  · refine k_dentOf hs hlt ⟨vp_in_nI (by omega) (by omega), fun y1 e1 => ⟨vp_in_nI (by omega) (by omega), fun y2 e2 z ez => ?_⟩⟩
    rw [ncl (by omega)] at e1 e2
    subst e1; subst e2; subst ez
    rw [nI_1]
    refine hself _ ⟨i + 1, _, rfl, by omega, fun c hc => ?_, fun c hc => ?_⟩ (by dsimp only; rw [ncl (by omega), ncl (by omega)]; omega)
    · show upd (y.A 0) i (p.A 0 (4 + 14 * s + i)) c = _
      unfold upd
      by_cases hci : c = i
      · rw [if_pos hci, hci]; exact (hR.2.2.1 s hs).2.2 i hlt
      · rw [if_neg hci]; exact h1 c (by omega)
    · show upd (y.A 1) i 0 c = 0
      unfold upd
      by_cases hci : c = i
      · rw [if_pos hci]
      · rw [if_neg hci]; exact h2 c (by omega)
