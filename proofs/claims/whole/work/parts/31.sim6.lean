/-! own -/
def orN (st : Nat → Int32) (s note : Nat) : Nat → Int32
  | 0 => 0
  | k + 1 => if k = note then orN st s note k else orN st s note k ||| cd st s k
theorem orN_s (st : Nat → Int32) (s note k : Nat) : orN st s note (k + 1) = if k = note then orN st s note k else orN st s note k ||| cd st s k := rfl
def ow (st : Nat → Int32) (s c note : Nat) : Nat → Bool
  | 0 => decide (0 < frc st s c note)
  | i + 1 => ow st s c note i && (decide (i = note) || decide (frc st s c i = 0))
theorem ow_s (st : Nat → Int32) (s c note i : Nat) : ow st s c note (i + 1) = (ow st s c note i && (decide (i = note) || decide (frc st s c i = 0))) := rfl
theorem ow_iff (st : Nat → Int32) (s c note : Nat) : ∀ m, ow st s c note m = true ↔ 0 < frc st s c note ∧ ∀ k, k < m → k = note ∨ frc st s c k = 0
  | 0 => by simp [ow]
  | m + 1 => by
    rw [ow_s, Bool.and_eq_true, ow_iff st s c note m]
    constructor
    · rintro ⟨⟨h1, h2⟩, h3⟩
      refine ⟨h1, fun k hk => ?_⟩
      by_cases hkm : k = m
      · subst hkm; simpa using h3
      · exact h2 k (by omega)
    · rintro ⟨h1, h2⟩
      exact ⟨⟨h1, fun k hk => h2 k (by omega)⟩, by simpa using h2 m (by omega)⟩
theorem bt_cd {st : Nat → Int32} {n s k i : Nat} (g : GN st n k) (hs : s < 6) (hi : i < 32) : bt (cd st s k) i = (decide (0 < frc st s i k)) := by
  obtain ⟨g1, g2, g3, g4, g5, g6, g7, -⟩ := g
  unfold cd
  rw [frc_eq]
  by_cases hf : 0 < fOn st s k
  · rw [if_pos hf, g6, bt_nI hi]
    cases hb : (ceN st k).testBit i with
    | true => simp [hf]
    | false => simp
  · rw [if_neg hf, b_0]
    cases hb : (ceN st k).testBit i with
    | true => simp [hf]
    | false => simp
theorem frc_pos {st : Nat → Int32} {n s c k : Nat} (g : GN st n k) (hs : s < 6) : frc st s c k = 0 ↔ ¬ 0 < frc st s c k := by
  obtain ⟨e, -⟩ := fOn_N g hs
  rw [frc_eq]
  by_cases hb : (ceN st k).testBit c = true
  · rw [if_pos hb, e]
    have hle := (fOn_N g hs).2
    have e0 : (nI (fOnN st s k) = 0) ↔ fOnN st s k = 0 := nI_eq (b := 0) (by omega) (by decide)
    have e1 : ((0 : Int32) < nI (fOnN st s k)) ↔ 0 < fOnN st s k := nI_ltI (a := 0) (by decide) (by omega)
    rw [e0, e1]; omega
  · rw [if_neg hb]
    simp
theorem bt_orN {st : Nat → Int32} {n s note i : Nat} (hW : WF st n) (hs : s < 6) (hi : i < 32) : ∀ m, m ≤ mN st → (bt (orN st s note m) i = true ↔ ∃ k, k < m ∧ k ≠ note ∧ 0 < frc st s i k)
  | 0, _ => by
    show bt 0 i = true ↔ _
    rw [b_0]
    simp
  | m + 1, hm => by
    have ih := bt_orN (i := i) (note := note) hW hs hi m (by omega)
    rw [orN_s]
    by_cases hk : m = note
    · rw [if_pos hk, ih]
      constructor
      · rintro ⟨k, h1, h2, h3⟩; exact ⟨k, by omega, h2, h3⟩
      · rintro ⟨k, h1, h2, h3⟩; exact ⟨k, by omega, h2, h3⟩
    · rw [if_neg hk, b_or, Bool.or_eq_true, ih, bt_cd (hW.2.2.2.2.1 m (by omega)) hs hi]
      constructor
      · rintro (⟨k, h1, h2, h3⟩ | h)
        · exact ⟨k, by omega, h2, h3⟩
        · exact ⟨m, by omega, hk, by simpa using h⟩
      · rintro ⟨k, h1, h2, h3⟩
        by_cases hkm : k = m
        · subst hkm; exact Or.inr (by simpa using h3)
        · exact Or.inl ⟨k, by omega, h2, h3⟩
theorem frc_big {st : Nat → Int32} {n s k i : Nat} (g : GN st n k) (hi : 12 ≤ i) : ¬ 0 < frc st s i k := by
  rw [frc_eq]
  have hb : (ceN st k).testBit i = false := Nat.testBit_lt_two_pow (Nat.lt_of_lt_of_le g.2.2.2.2.2.2.1 (Nat.pow_le_pow_right (n := 2) (by decide) hi))
  rw [hb, if_neg (by decide)]
  decide
theorem own_eq {st : Nat → Int32} {n s note : Nat} (hW : WF st n) (hs : s < 6) (hk : note < mN st) : cd st s note &&& (orN st s note (mN st) ^^^ (-1)) = bitsN (fun c => ow st s c note (mN st)) 12 := by
  have hm := hW.2.2.2.1
  apply b_ext
  intro i hi
  rw [b_and, b_xor, b_m1 i hi, bt_bitsN _ 12 (by omega) i hi, bt_cd (hW.2.2.2.2.1 note hk) hs hi, Bool.eq_iff_iff]
  rw [Bool.and_eq_true, Bool.and_eq_true, ow_iff]
  simp only [Bool.xor_true, Bool.not_eq_true', decide_eq_true_eq]
  constructor
  · rintro ⟨h1, h2⟩
    refine ⟨?_, h1, fun k hkm => ?_⟩
    · by_cases h12 : i < 12
      · exact h12
      · exact absurd h1 (frc_big (hW.2.2.2.2.1 note hk) (by omega))
    · by_cases hkn : k = note
      · exact Or.inl hkn
      · right
        rw [frc_pos (hW.2.2.2.2.1 k hkm) hs]
        intro hp
        have := (bt_orN (note := note) hW hs hi (mN st) (Nat.le_refl _)).mpr ⟨k, hkm, hkn, hp⟩
        rw [this] at h2
        cases h2
  · rintro ⟨h12, h1, h2⟩
    refine ⟨h1, ?_⟩
    cases hb : bt (orN st s note (mN st)) i with
    | false => rfl
    | true =>
      obtain ⟨k, h3, h4, h5⟩ := (bt_orN (note := note) hW hs hi (mN st) (Nat.le_refl _)).mp hb
      rcases h2 k h3 with h6 | h6
      · exact absurd h6 h4
      · exact absurd h5 ((frc_pos (hW.2.2.2.2.1 k h3) hs).mp h6)
theorem k_ownL {t : Nat → St} {st : Nat → Int32} {n s note : Nat} (hR : RP ((t 2).A 0) (t 2) st) (hW : WF st n) (hn : n ≤ 6) (hs : s < 6) (hk : note < mN st) {Post : Int32 → (Nat → St) → Prop} {KX : Int32 → Int32 → Int32 → (Nat → St) → Prop} (h : KX (nI note) (nI s) (orN st s note (mN st)) t) : ∃ n, wLX11_own_34 Post KX n (nI note, nI s, 0, 0, t) := by
  have em : (t 2).A 0 1 = nI (mN st) := hR.2.1.trans hW.2.2.1
  have hm := hW.2.2.2.1
  refine for_rule (F := fun self z => wlX11_own_34 Post KX self z.1 z.2.1 z.2.2.1 z.2.2.2.1 z.2.2.2.2) (mN st) (fun i => (nI note, nI s, orN st s note i, nI i, t)) ?_ ?_
  · intro self i hi hself
    dsimp only
    unfold wlX11_own_34
    refine k_noteCount ?_
    rw [em]
    rw [orN_s] at hself
    refine ⟨fun z => absurd z (nI_ge hi (by omega)), fun _ => ⟨fun e z ez => ?_, fun e => ?_⟩⟩
    · subst ez
      rw [nI_1]
      rw [if_pos ((nI_eq (by omega) (by omega)).mp e)] at hself
      exact hself
    · rw [if_neg (fun q => e (by rw [q]))] at hself
      refine k_cellsDented hR hW hn hi hs ?_
      intro y ey z ez
      subst ey; subst ez
      rw [nI_1]
      exact hself
  · intro self
    dsimp only
    unfold wlX11_own_34
    refine k_noteCount ?_
    rw [em]
    exact ⟨fun _ => h, fun z => absurd (nI_le (Nat.le_refl _) (by omega)) z⟩
theorem m_ownI {x : St} {n s c note : Nat} {b : Int32} {y : Int32} (hW : WF (x.A 4) n) (hn : n ≤ 6) (hs : s < 6) (hc : c < 12) (hk : note < mN (x.A 4)) (hb : b = if ow (x.A 4) s c note 0 then 1 else 0) {Post : Int32 → St → Prop} {KX : Int32 → Int32 → Int32 → Int32 → Int32 → St → Prop} (h : KX (nI note) (nI s) y (nI c) (if ow (x.A 4) s c note (mN (x.A 4)) then 1 else 0) x) : ∃ n, wLX12_own_65 Post KX n (nI note, nI s, y, nI c, b, 0, x) := by
  have em := hW.2.2.1
  have hm := hW.2.2.2.1
  subst hb
  refine for_rule (F := fun self z => wlX12_own_65 Post KX self z.1 z.2.1 z.2.2.1 z.2.2.2.1 z.2.2.2.2.1 z.2.2.2.2.2.1 z.2.2.2.2.2.2) (mN (x.A 4)) (fun i => (nI note, nI s, y, nI c, if ow (x.A 4) s c note i then 1 else 0, nI i, x)) ?_ ?_
  · intro self i hi hself
    dsimp only
    unfold wlX12_own_65
    rw [em]
    rw [ow_s] at hself
    refine ⟨fun z => absurd z (nI_ge hi (by omega)), fun _ => ?_⟩
    cases ho : ow (x.A 4) s c note i with
    | false =>
      refine ⟨fun _ z ez => ?_, fun e => absurd rfl e⟩
      subst ez
      rw [nI_1]
      rw [ho] at hself
      exact hself
    | true =>
      rw [ho] at hself
      refine ⟨fun e => absurd e (by decide), fun _ => ⟨fun e z ez => ?_, fun e => ?_⟩⟩
      · subst ez
        rw [nI_1]
        rw [decide_eq_true ((nI_eq (by omega) (by omega)).mp e)] at hself
        exact hself
      · have e' : ¬ i = note := fun q => e (by rw [q])
        refine m_forceIn hW hn hi hs hc ⟨fun hf z ez => ?_, fun hf z ez => ?_⟩
        · subst ez
          rw [nI_1]
          rw [decide_eq_false e', decide_eq_false hf] at hself
          exact hself
        · subst ez
          rw [nI_1]
          rw [decide_eq_false e', decide_eq_true hf] at hself
          exact hself
  · intro self
    dsimp only
    unfold wlX12_own_65
    rw [em]
    exact ⟨fun _ => h, fun z => absurd (nI_le (Nat.le_refl _) (by omega)) z⟩
theorem m_ownL {x : St} {n s note : Nat} (hW : WF (x.A 4) n) (hn : n ≤ 6) (hs : s < 6) (hk : note < mN (x.A 4)) {Post : Int32 → St → Prop} {KX : Int32 → St → Prop} (h : KX (bitsN (fun c => ow (x.A 4) s c note (mN (x.A 4))) 12) x) : ∃ n, wLX12_own_37 Post KX n (nI note, nI s, 0, 0, x) := by
  refine for_rule (F := fun self z => wlX12_own_37 Post KX self z.1 z.2.1 z.2.2.1 z.2.2.2.1 z.2.2.2.2) 12 (fun i => (nI note, nI s, bitsN (fun c => ow (x.A 4) s c note (mN (x.A 4))) i, nI i, x)) ?_ ?_
  · intro self i hi hself
    dsimp only
    unfold wlX12_own_37
    rw [bitsN_s] at hself
    have fin : ∀ y15 : Int32, y15 = (if ow (x.A 4) s i note (mN (x.A 4)) then 1 else 0) → ((y15 = 0) → ∀ x3_17 : Int32, x3_17 = (bitsN (fun c => ow (x.A 4) s c note (mN (x.A 4))) i ||| 0) → ∀ x4_18 : Int32, x4_18 = nI i + 1 → self (nI note, nI s, x3_17, x4_18, x)) ∧ ((¬ y15 = 0) → ∀ x3_19 : Int32, x3_19 = (bitsN (fun c => ow (x.A 4) s c note (mN (x.A 4))) i ||| ((1 : Int32) <<< (nI i &&& 31))) → ∀ x4_20 : Int32, x4_20 = nI i + 1 → self (nI note, nI s, x3_19, x4_20, x)) := by
      intro y ey
      cases ho : ow (x.A 4) s i note (mN (x.A 4)) with
      | false =>
        rw [ho] at ey hself
        subst ey
        refine ⟨fun _ a ea b eb => ?_, fun e => absurd rfl e⟩
        subst ea; subst eb
        rw [nI_1, or_0]
        exact hself
      | true =>
        rw [ho] at ey hself
        subst ey
        refine ⟨fun e => absurd e (by decide), fun _ a ea b eb => ?_⟩
        subst ea; subst eb
        rw [nI_1]
        exact hself
    refine ⟨fun z => absurd z (nI_ge (b := 12) hi (by decide)), fun _ => m_forceIn hW hn hk hs hi ⟨fun hf => ?_, fun hf => ?_⟩⟩
    · refine m_ownI hW hn hs hi hk ?_ (fin _ rfl)
      have : ow (x.A 4) s i note 0 = false := by
        show decide _ = false
        rw [decide_eq_false]
        rw [fa_lt]; rw [fa_le] at hf; omega
      rw [this]; rfl
    · refine m_ownI hW hn hs hi hk ?_ (fin _ rfl)
      have : ow (x.A 4) s i note 0 = true := by
        show decide _ = true
        rw [decide_eq_true]
        rw [fa_lt]; rw [fa_le] at hf; omega
      rw [this]; rfl
  · intro self
    dsimp only
    unfold wlX12_own_37
    exact ⟨fun _ => h, fun z => absurd (nI_le (a := 12) (b := 12) (by decide) (by decide)) z⟩
theorem s_own {t : Nat → St} {x : St} (h : Rel t x) (x1 x2 : Int32) : SimI (wpX11_own x1 x2 t) (wpX12_own x1 x2 x) := by
  obtain ⟨n, w, u, e1, e2, e3, hc, g⟩ := h.1.got
  have hn6 := g.2.1
  obtain ⟨q0, q1, q2, q3, q4, q5⟩ := g.nums
  obtain ⟨hR, hW⟩ := g.cur
  unfold SimI wpX11_own wpX12_own wjX11_own_22 wjX12_own_27 wpX12_bad
  refine k_hasNote q1 q5 (fun a b => b1e ?_) (fun a => b0e (k_bad ?_))
  · obtain ⟨k, ek, hk, _⟩ := toNI a
    subst ek
    refine k_hasSheet g.2.2.1 hn6 (fun c d => b1n ?_) (fun c => b0n (k_bad ?_))
    · obtain ⟨s, es, hs, _⟩ := toNI c
      subst es
      refine k_ownL hR hW hn6 (by omega) (by omega) ?_
      refine k_cellsDented hR hW hn6 (by omega) (by omega) ?_
      refine m_isNote q3 q5 (fun _ _ => b1e ?_) (fun z => absurd z (by omega))
      refine m_isSheet e1 hn6 (fun _ _ => b1n ?_) (fun z => absurd z (by omega))
      exact m_ownL hW hn6 (by omega) (by omega) ⟨own_eq hW (by omega) (by omega), h⟩
    · refine m_isNote q3 q5 (fun _ _ => b1e ?_) (fun z => absurd z (by omega))
      exact m_isSheet e1 hn6 (fun a1 a2 => absurd c (by omega)) (fun _ => b0n (m_ref0 ⟨rfl, R_bad h⟩))
  · exact m_isNote q3 q5 (fun a1 a2 => absurd a (by omega)) (fun _ => b0e (m_ref0 ⟨rfl, R_bad h⟩))
