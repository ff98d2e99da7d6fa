/-- the cells that note k dents in a sheet -/
def cd (st : Nat → Int32) (s k : Nat) : Int32 := if 0 < fOn st s k then st (86 + 4 * k) else 0
theorem k_cellsDented {p : St} {pg st : Nat → Int32} {n k s : Nat} (hR : RP pg p st) (hW : WF st n) (hn : n ≤ 6) (hk : k < mN st) (hs : s < 6) {Post : Int32 → Prop} (h : Post (cd st s k)) : wpX4_cellsDented (nI k) (nI s) p Post := by
  have hm := hW.2.2.2.1
  unfold wpX4_cellsDented
  refine k_forceOn hR hW hn hk hs ?_
  unfold cd at h
  refine ⟨fun z => ?_, fun z => ?_⟩
  · rw [if_neg (by rw [fa_lt]; rw [fa_le] at z; omega)] at h
    exact h
  · rw [if_pos (by rw [fa_lt]; rw [fa_le] at z; omega)] at h
    rw [ncl (by omega), (hR.2.2.2 k hk).2.2.1]
    exact ⟨vp_in_nI (by omega) (by omega), h⟩
theorem k_dentedBy {p : St} {st : Nat → Int32} {n s : Nat} (hR : RP (p.A 0) p st) (hW : WF st n) (hn : n ≤ 6) (hs : s < 6) {Post : Int32 → Prop} (h : Post (bitsN (fun k => decide (¬ cd st s k = 0)) (mN st))) : wpX4_dentedBy (nI s) p Post := by
  have em : p.A 0 1 = nI (mN st) := hR.2.1.trans hW.2.2.1
  have hm := hW.2.2.2.1
  refine for_rule (F := fun self x => wlX4_dentedBy_4 p Post _ self x.1 x.2.1 x.2.2) (mN st) (fun i => (nI s, bitsN (fun k => decide (¬ cd st s k = 0)) i, nI i)) ?_ ?_
  · intro self i hi hself
    dsimp only
    unfold wlX4_dentedBy_4
    rw [em]
    refine ⟨fun z => absurd z (nI_ge hi (by omega)), fun _ => k_cellsDented hR hW hn hi hs ⟨fun he z ez => ?_, fun hne y ey z ez => ?_⟩⟩
    · subst ez
      rw [nI_1]
      unfold bitsN at hself
      rw [if_neg (by simpa using he)] at hself
      exact hself
    · subst ez; subst ey
      rw [nI_1]
      unfold bitsN at hself
      rw [if_pos (by simpa using hne)] at hself
      exact hself
  · intro self
    dsimp only
    unfold wlX4_dentedBy_4
    rw [em]
    exact ⟨fun _ => h, fun z => absurd (nI_le (Nat.le_refl _) (by omega)) z⟩
/-- the model's row of bits, cell by cell -/
def wsum (st : Nat → Int32) (s : Nat) : Nat → Int32
  | 0 => 0
  | i + 1 => if 0 < frc st s (i % 12) (i / 12) then wsum st s i ||| ((1 : Int32) <<< (nI (i / 12) &&& 31)) else wsum st s i
theorem wsum_s (st : Nat → Int32) (s i : Nat) : wsum st s (i + 1) = if 0 < frc st s (i % 12) (i / 12) then wsum st s i ||| ((1 : Int32) <<< (nI (i / 12) &&& 31)) else wsum st s i := rfl
theorem bitsN_s (P : Nat → Bool) (n : Nat) : bitsN P (n + 1) = if P n then bitsN P n ||| ((1 : Int32) <<< (nI n &&& 31)) else bitsN P n := rfl
theorem or_or (x y : Int32) : x ||| y ||| y = x ||| y := by
  apply b_ext
  intro i _
  rw [b_or, b_or]
  cases bt x i <;> cases bt y i <;> rfl
theorem wsum_in (st : Nat → Int32) (s k : Nat) : ∀ c, c ≤ 12 → wsum st s (12 * k + c) = if ∃ b, b < c ∧ 0 < frc st s b k then wsum st s (12 * k) ||| ((1 : Int32) <<< (nI k &&& 31)) else wsum st s (12 * k)
  | 0, _ => by
    rw [if_neg (fun ⟨b, hb, _⟩ => absurd hb (Nat.not_lt_zero b))]; rfl
  | c + 1, hc => by
    have ih := wsum_in st s k c (by omega)
    show wsum st s ((12 * k + c) + 1) = _
    rw [wsum_s, show (12 * k + c) % 12 = c by omega, show (12 * k + c) / 12 = k by omega, ih]
    by_cases hp : ∃ b, b < c ∧ 0 < frc st s b k
    · rw [if_pos hp, if_pos (show ∃ b, b < c + 1 ∧ 0 < frc st s b k from hp.elim fun b hb => ⟨b, by omega, hb.2⟩)]
      by_cases h0 : 0 < frc st s c k
      · rw [if_pos h0, or_or]
      · rw [if_neg h0]
    · rw [if_neg hp]
      by_cases h0 : 0 < frc st s c k
      · rw [if_pos h0, if_pos ⟨c, by omega, h0⟩]
      · rw [if_neg h0, if_neg (fun ⟨b, hb, hb2⟩ => by
          by_cases hbc : b = c
          · subst hbc; exact h0 hb2
          · exact hp ⟨b, by omega, hb2⟩)]
theorem any_bit {n : Nat} (hn : n < 4096) : n ≠ 0 ↔ ∃ c, c < 12 ∧ n.testBit c = true := by
  constructor
  · intro h
    refine Classical.byContradiction fun hz => h ?_
    apply Nat.eq_of_testBit_eq
    intro i
    rw [Nat.zero_testBit]
    by_cases hi : i < 12
    · cases hb : n.testBit i with
      | false => rfl
      | true => exact absurd ⟨i, hi, hb⟩ hz
    · exact Nat.testBit_lt_two_pow (Nat.lt_of_lt_of_le hn (Nat.pow_le_pow_right (n := 2) (by decide) (show 12 ≤ i by omega)))
  · intro ⟨c, _, hb⟩ h
    rw [h, Nat.zero_testBit] at hb
    cases hb
theorem cd_any {st : Nat → Int32} {n s k : Nat} (g : GN st n k) : ¬ cd st s k = 0 ↔ ∃ b, b < 12 ∧ 0 < frc st s b k := by
  obtain ⟨g1, g2, g3, g4, g5, g6, g7, -⟩ := g
  unfold cd
  by_cases hf : 0 < fOn st s k
  · rw [if_pos hf, g6]
    have e : (nI (ceN st k) = 0) ↔ ceN st k = 0 := nI_eq (b := 0) (by omega) (by decide)
    rw [e]
    show ceN st k ≠ 0 ↔ _
    rw [any_bit g7]
    constructor
    · rintro ⟨c, hc, hb⟩
      exact ⟨c, hc, by rw [frc_eq, if_pos hb]; exact hf⟩
    · rintro ⟨c, hc, hb⟩
      refine ⟨c, hc, ?_⟩
      rw [frc_eq] at hb
      by_cases hz : (ceN st k).testBit c = true
      · exact hz
      · rw [if_neg hz] at hb; exact absurd hb (by decide)
  · rw [if_neg hf]
    constructor
    · intro z; exact absurd rfl z
    · rintro ⟨c, hc, hb⟩
      rw [frc_eq] at hb
      by_cases hz : (ceN st k).testBit c = true
      · rw [if_pos hz] at hb; exact absurd hb hf
      · rw [if_neg hz] at hb; exact absurd hb (by decide)
theorem wsum_bits {st : Nat → Int32} {n s : Nat} (hW : WF st n) : ∀ k, k ≤ mN st → wsum st s (12 * k) = bitsN (fun k => decide (¬ cd st s k = 0)) k
  | 0, _ => rfl
  | k + 1, hk => by
    have h := wsum_in st s k 12 (by omega)
    rw [show 12 * (k + 1) = 12 * k + 12 by omega, h, wsum_bits hW k (by omega), bitsN_s]
    have hc := cd_any (s := s) (hW.2.2.2.2.1 k (by omega))
    by_cases hz : ∃ b, b < 12 ∧ 0 < frc st s b k
    · rw [if_pos hz, if_pos (by simpa using hc.mpr hz)]
    · rw [if_neg hz, if_neg (by simpa using fun q => hz (hc.mp q))]
theorem m_whoseOf {x : St} {n s : Nat} (hW : WF (x.A 4) n) (hn : n ≤ 6) (hs : s < 6) {Post : Int32 → Prop} (h : Post (bitsN (fun k => decide (¬ cd (x.A 4) s k = 0)) (mN (x.A 4)))) : wpX12_whoseOf (nI s) x Post := by
  have em := hW.2.2.1
  have hm := hW.2.2.2.1
  have e12 : (12 : Int32) * nI (mN (x.A 4)) = nI (12 * mN (x.A 4)) := pk_mul 12 _
  rw [← wsum_bits hW _ (Nat.le_refl _)] at h
  refine for_rule (F := fun self z => wlX12_whoseOf_4 x Post _ self z.1 z.2.1 z.2.2) (12 * mN (x.A 4)) (fun i => (nI s, wsum (x.A 4) s i, nI i)) ?_ ?_
  · intro self i hi hself
    dsimp only
    unfold wlX12_whoseOf_4
    have ed : nI i / (12 : Int32) = nI (i / 12) := pk_div (d := 12) (by omega) (by decide) (by decide)
    have er : nI i - nI i / (12 : Int32) * 12 = nI (i % 12) := pk_rem (d := 12) (by omega) (by decide) (by decide)
    rw [em, e12, er, ed]
    refine ⟨fun z => absurd z (nI_ge hi (by omega)), fun _ => m_forceIn hW hn (by omega) hs (by omega) ⟨fun he y ey z ez => ?_, fun hne y ey z ez => ?_⟩⟩
    · subst ez; subst ey
      rw [nI_1, or_0]
      unfold wsum at hself
      rw [if_neg (by rw [fa_lt]; rw [fa_le] at he; omega)] at hself
      exact hself
    · subst ez; subst ey
      rw [nI_1]
      unfold wsum at hself
      rw [if_pos (by rw [fa_lt]; rw [fa_le] at hne; omega)] at hself
      exact hself
  · intro self
    dsimp only
    unfold wlX12_whoseOf_4
    rw [em, e12]
    exact ⟨fun _ => h, fun z => absurd (nI_le (Nat.le_refl _) (by omega)) z⟩
theorem s_whose {t : Nat → St} {x : St} (h : Rel t x) (x1 : Int32) : SimI (wpX11_whose x1 t) (wpX12_whose x1 x) := by
  obtain ⟨n, w, u, e1, e2, e3, hc, g⟩ := h.1.got
  have hn6 := g.2.1
  obtain ⟨hR, hW⟩ := g.cur
  unfold SimI wpX11_whose wpX12_whose wpX12_bad
  refine k_hasSheet g.2.2.1 hn6 (fun a b => b1e ?_) (fun a => b0e (k_bad ?_))
  · obtain ⟨s, es, hs, _⟩ := toNI a
    subst es
    refine k_dentedBy hR hW hn6 (by omega) ?_
    refine m_isSheet e1 hn6 (fun _ _ => b1e ?_) (fun z => absurd z (by omega))
    exact m_whoseOf hW hn6 (by omega) ⟨rfl, h⟩
  · exact m_isSheet e1 hn6 (fun a1 a2 => absurd a (by omega)) (fun _ => b0e (m_ref0 ⟨rfl, R_bad h⟩))
theorem s_torn {t : Nat → St} {x : St} (h : Rel t x) (x1 : Int32) : SimI (wpX11_torn x1 t) (wpX12_torn x1 x) := by
  obtain ⟨n, w, u, e1, e2, e3, hc, g⟩ := h.1.got
  have hn6 := g.2.1
  have hI := g.2.2.1
  obtain ⟨q0, q1, q2, q3, q4, q5⟩ := g.nums
  obtain ⟨hR, hW⟩ := g.cur
  unfold SimI wpX11_torn wpX12_torn wpX12_bad
  refine k_hasNotes q1 q5 (fun a b => b1n ?_) (fun a => b0n (k_bad ?_))
  · refine k_top ?_
    rw [q0]
    generalize eD : (fun i => bitsN (fun k => decide (¬ cd (x.A 4) (tN (x.A 4) + i) k = 0)) (mN (x.A 4))) = D
    generalize eP : (fun i => decide (D i &&& x1 = 0)) = P
    have hf1 := fa_first_le P (n - tN (x.A 4))
    have hf2 := fa_first_no P (n - tN (x.A 4))
    have hf3 := fa_first_yes P (n - tN (x.A 4))
    generalize fa_first P (n - tN (x.A 4)) = ft at hf1 hf2 hf3
    have hDk : ∀ i, i < n - tN (x.A 4) → ∀ Post : Int32 → Prop, Post (D i) → wpX4_dentedBy (nI (tN (x.A 4) + i)) (t 2) Post := fun i hi Post hp => k_dentedBy hR hW hn6 (by omega) (by rw [← eD] at hp; exact hp)
    have hDm : ∀ i, i < n - tN (x.A 4) → ∀ Post : Int32 → Prop, Post (D i) → wpX12_whoseOf (nI (tN (x.A 4) + i)) x Post := fun i hi Post hp => m_whoseOf hW hn6 (by omega) (by rw [← eD] at hp; exact hp)
    have hPi : ∀ i, P i = true ↔ D i &&& x1 = 0 := fun i => by rw [← eP]; simp
    have hmod : ∀ r : Int32, (ft < n - tN (x.A 4) → r = nI (tN (x.A 4) + ft) - nI (tN (x.A 4))) → (¬ ft < n - tN (x.A 4) → r = -1) → wpX12_areNotes x1 x (fun (r1 : Int32) => ((¬ r1 = 0) → ∀ x2_2 : Int32, x2_2 = ((x.A 4) 125) → ∃ n, wLX12_torn_21 (fun r' x' => r = r' ∧ Rel t x') (fun (p6 : St) => r = (-1) ∧ Rel t p6) n (x1, x2_2, x)) ∧ ((r1 = 0) → wpX12_refuse 0 (-2) x (fun (r7 : Int32) (p8 : St) => r = r7 ∧ Rel t p8))) := by
      intro r hr1 hr2
      refine m_areNotes q3 q5 (fun _ _ => b1n ?_) (fun z => absurd z (by omega))
      intro z ez
      rw [q2] at ez
      subst ez
      refine for_rule (F := fun self z => wlX12_torn_21 (fun r' x' => r = r' ∧ Rel t x') (fun (p6 : St) => r = (-1) ∧ Rel t p6) self z.1 z.2.1 z.2.2) ft (fun i => (x1, nI (tN (x.A 4) + i), x)) ?_ ?_
      · intro self i hi hself
        dsimp only
        unfold wlX12_torn_21
        rw [e1]
        refine ⟨fun z => absurd z (nI_ge (by omega) (by omega)), fun _ => hDm i (by omega) _ ⟨fun _ z ez => ?_, fun he => ?_⟩⟩
        · subst ez
          rw [nI_1]
          exact hself
        · have := hf2 i hi
          rw [(hPi i).mpr he] at this
          cases this
      · intro self
        dsimp only
        unfold wlX12_torn_21
        rw [e1]
        by_cases hft : ft < n - tN (x.A 4)
        · refine ⟨fun z => absurd z (nI_ge (by omega) (by omega)), fun _ => hDm ft hft _ ⟨fun hne => absurd ((hPi ft).mp (hf3 hft)) hne, fun _ => ?_⟩⟩
          rw [q2]
          exact ⟨hr1 hft, h⟩
        · exact ⟨fun _ => ⟨hr2 hft, h⟩, fun z => absurd (nI_le (by omega) (by omega)) z⟩
    refine for_rule (F := fun self z => wlX11_torn_26 _ _ self z.1 z.2.1 z.2.2) ft (fun i => (x1, nI (tN (x.A 4) + i), t)) ?_ ?_
    · intro self i hi hself
      dsimp only
      unfold wlX11_torn_26
      rw [hI]
      refine ⟨fun z => absurd z (nI_ge (by omega) (by omega)), fun _ => hDk i (by omega) _ ⟨fun _ z ez => ?_, fun he => ?_⟩⟩
      · subst ez
        rw [nI_1]
        exact hself
      · have := hf2 i hi
        rw [(hPi i).mpr he] at this
        cases this
    · intro self
      dsimp only
      unfold wlX11_torn_26
      rw [hI]
      by_cases hft : ft < n - tN (x.A 4)
      · refine ⟨fun z => absurd z (nI_ge (by omega) (by omega)), fun _ => hDk ft hft _ ⟨fun hne => absurd ((hPi ft).mp (hf3 hft)) hne, fun _ => k_top ?_⟩⟩
        rw [q0]
        exact hmod _ (fun _ => rfl) (fun z => absurd hft z)
      · exact ⟨fun _ => hmod _ (fun z => absurd z hft) (fun _ => rfl), fun z => absurd (nI_le (by omega) (by omega)) z⟩
  · exact m_areNotes q3 q5 (fun a1 a2 => absurd a (by omega)) (fun _ => b0n (m_ref0 ⟨rfl, R_bad h⟩))
