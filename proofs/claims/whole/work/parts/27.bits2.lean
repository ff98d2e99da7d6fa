/-! one bit of a set -/
theorem has_bit {n c : Nat} (hn : n < 2 ^ 31) (hc : c < 32) : (nI n >>> (nI c &&& 31)) &&& 1 = nI (n / 2 ^ c % 2) := by
  rw [pk_shrN hn (nI c &&& 31) c (s_l c hc)]
  have h : n / 2 ^ c < 2 ^ 32 := Nat.lt_of_le_of_lt (Nat.div_le_self _ _) (by omega)
  exact pk_andN h (m := 1) 1 (by decide)
theorem tb_iff (n c : Nat) : n.testBit c = true ↔ n / 2 ^ c % 2 = 1 := by
  rw [Nat.testBit_eq_decide_div_mod_eq]
  simp
theorem has_0 {n c : Nat} (hn : n < 2 ^ 31) (hc : c < 32) : (nI n >>> (nI c &&& 31)) &&& 1 = 0 ↔ n.testBit c = false := by
  rw [has_bit hn hc]
  have h2 : n / 2 ^ c % 2 < 2 := Nat.mod_lt _ (by decide)
  have e : (nI (n / 2 ^ c % 2) = 0) ↔ n / 2 ^ c % 2 = 0 := nI_eq (b := 0) (by omega) (by decide)
  rw [e]
  cases hb : n.testBit c with
  | true => rw [tb_iff] at hb; simp; omega
  | false =>
    have : ¬ n / 2 ^ c % 2 = 1 := fun q => by rw [← tb_iff] at q; rw [hb] at q; cases q
    simp; omega
theorem has_1 {n c : Nat} (hn : n < 2 ^ 31) (hc : c < 32) : (nI n >>> (nI c &&& 31)) &&& 1 = 1 ↔ n.testBit c = true := by
  rw [has_bit hn hc]
  have h2 : n / 2 ^ c % 2 < 2 := Nat.mod_lt _ (by decide)
  have e : (nI (n / 2 ^ c % 2) = 1) ↔ n / 2 ^ c % 2 = 1 := nI_eq (b := 1) (by omega) (by decide)
  rw [e, tb_iff]
theorem m_has {n c : Nat} (hn : n < 2 ^ 31) (hc : c < 32) {Post : Int32 → Prop} (h1 : n.testBit c = true → Post 1) (h0 : n.testBit c = false → Post 0) : wpX12_has (nI n) (nI c) Post := by
  unfold wpX12_has
  rw [has_1 hn hc]
  refine ⟨fun h => h0 (by simpa using h), fun h => h1 h⟩
theorem bt_one : ∀ j, j < 32 → bt 1 j = decide (j = 0) := by decide +kernel
theorem bt_shl1 {n i : Nat} (hn : n < 32) (hi : i < 32) : bt ((1 : Int32) <<< (nI n &&& 31)) i = decide (i = n) := by
  rw [b_shl n hn 1 hi]
  by_cases h : n ≤ i
  · rw [bt_one (i - n) (by omega)]
    simp [h]
    by_cases h2 : i = n
    · simp [h2]
    · simp [h2]; omega
  · simp [h]; omega
theorem bt_nI {n i : Nat} (hi : i < 32) : bt (nI n) i = n.testBit i := by
  unfold bt
  show (BitVec.ofNat 32 n).getLsbD i = _
  rw [BitVec.getLsbD_ofNat]
  simp [hi]
theorem bt_bitsN (P : Nat → Bool) : ∀ (n : Nat), n ≤ 32 → ∀ i, i < 32 → bt (bitsN P n) i = (decide (i < n) && P i)
  | 0, _, i, _ => by simp [bitsN, b_0]
  | n + 1, hn, i, hi => by
    unfold bitsN
    have ih := bt_bitsN P n (by omega) i hi
    by_cases hP : P n = true
    · rw [if_pos hP, b_or, ih, bt_shl1 (by omega) hi]
      by_cases h : i = n
      · subst h; simp [hP]
      · by_cases h2 : i < n
        · simp [h2, h, show i < n + 1 by omega]
        · simp [h2, h, show ¬ i < n + 1 by omega]
    · rw [if_neg hP, ih]
      by_cases h : i = n
      · subst h; simp [hP]
      · by_cases h2 : i < n
        · simp [h2, show i < n + 1 by omega]
        · simp [h2, show ¬ i < n + 1 by omega]
/-! forces -/
def foN (k x y : Nat) : Nat := (fo (nI k) (nI x) (nI y)).toNatClampNeg
theorem fo_all : ∀ k, k < 6 → ∀ x, x < 10 → ∀ y, y < 6 → fo (nI k) (nI x) (nI y) = nI (foN k x y) ∧ foN k x y ≤ 9 := by decide +kernel
def fOn (st : Nat → Int32) (s k : Nat) : Int32 := if onN st k ≤ s then fo (st (84 + 4 * k)) (st (85 + 4 * k)) (nI (s - onN st k)) else 0
def fOnN (st : Nat → Int32) (s k : Nat) : Nat := if onN st k ≤ s then foN (kN st k) (prN st k) (s - onN st k) else 0
theorem fOn_N {st : Nat → Int32} {n s k : Nat} (g : GN st n k) (hs : s < 6) : fOn st s k = nI (fOnN st s k) ∧ fOnN st s k ≤ 9 := by
  obtain ⟨g1, g2, g3, g4, g5, -⟩ := g
  unfold fOn fOnN
  by_cases h : onN st k ≤ s
  · rw [if_pos h, if_pos h, g1, g3]
    exact fo_all _ g2 _ (by omega) _ (by omega)
  · rw [if_neg h, if_neg h]
    exact ⟨rfl, by omega⟩
theorem frc_eq (st : Nat → Int32) (s c k : Nat) : frc st s c k = if (ceN st k).testBit c = true then fOn st s k else 0 := by
  unfold frc fOn
  by_cases h1 : onN st k ≤ s <;> by_cases h2 : (ceN st k).testBit c = true <;> simp [h1, h2]
theorem k_forceOn {p : St} {pg st : Nat → Int32} {n k s : Nat} (hR : RP pg p st) (hW : WF st n) (hn : n ≤ 6) (hk : k < mN st) (hs : s < 6) {Post : Int32 → Prop} (h : Post (fOn st s k)) : wpX4_forceOn (nI k) (nI s) p Post := by
  have hm := hW.2.2.2.1
  obtain ⟨g1, g2, g3, g4, g5, g6, g7, g8, g9, g10⟩ := hW.2.2.2.2.1 k hk
  obtain ⟨r1, r2, r3, r4, r5⟩ := hR.2.2.2 k hk
  refine ⟨vp_in_nI (by omega) (by omega), ?_⟩
  rw [ncl (by omega), r4, g8]
  unfold wpX4_forceDown
  unfold fOn at h
  by_cases ho : onN st k ≤ s
  · rw [if_pos ho] at h
    rw [pk_sub ho]
    have e : (nI k * 6 + nI (s - onN st k)) = nI (6 * k + (s - onN st k)) := by
      show nI k * nI 6 + _ = _
      rw [pk_mul, nI_add]; congr 1; omega
    refine ⟨fun z => absurd z (nI_pos (by omega)), fun _ => ⟨fun _ => ?_, fun z => absurd (nI_lt (a := s - onN st k) (b := 6) (by omega) (by decide)) z⟩⟩
    rw [e, ncl (by omega), r5 _ (by omega)]
    exact ⟨vp_in_nI (by omega) (by omega), h⟩
  · rw [if_neg ho] at h
    exact ⟨fun _ => h, fun z => absurd (pk_sneg (by omega) (by omega)) z⟩
theorem m_forceIn {x : St} {n k s c : Nat} (hW : WF (x.A 4) n) (hn : n ≤ 6) (hk : k < mN (x.A 4)) (hs : s < 6) (hc : c < 12) {Post : Int32 → Prop} (h : Post (frc (x.A 4) s c k)) : wpX12_forceIn (nI k) (nI s) (nI c) x Post := by
  have hm := hW.2.2.2.1
  obtain ⟨g1, g2, g3, g4, g5, g6, g7, g8, g9, g10⟩ := hW.2.2.2.2.1 k hk
  have e0 : ((84 : Int32) + ((4 : Int32) * nI k)) = nI (84 + 4 * k) := by
    show nI 84 + nI 4 * nI k = _
    rw [pk_mul, nI_add]
  have e1 : nI (84 + 4 * k) + 1 = nI (85 + 4 * k) := by show _ + nI 1 = _; rw [nI_add]; congr 1; omega
  have e2 : nI (84 + 4 * k) + 2 = nI (86 + 4 * k) := by show _ + nI 2 = _; rw [nI_add]; congr 1; omega
  have e3 : nI (84 + 4 * k) + 3 = nI (87 + 4 * k) := by show _ + nI 3 = _; rw [nI_add]; congr 1; omega
  intro z ez
  rw [e0] at ez
  subst ez
  rw [e3, ncl (by omega), g8]
  refine ⟨vp_in_nI (by omega) (by omega), ?_⟩
  intro z ez
  unfold frc at h
  by_cases ho : onN (x.A 4) k ≤ s
  · rw [pk_sub ho] at ez
    subst ez
    refine ⟨fun q => absurd q (nI_pos (by omega)), fun _ => ?_⟩
    rw [e2, ncl (by omega), g6]
    refine ⟨vp_in_nI (by omega) (by omega), m_has (by omega) (by omega) (fun hb => b1e ?_) (fun hb => b0e ?_)⟩
    · rw [if_pos ⟨ho, hb⟩] at h
      rw [e1, ncl (by omega), ncl (by omega)]
      refine ⟨vp_in_nI (by omega) (by omega), vp_in_nI (by omega) (by omega), ?_⟩
      rw [g1] at h ⊢
      exact m_force g2 h
    · rw [if_neg (fun q => by rw [hb] at q; exact absurd q.2 (by decide))] at h
      exact h
  · rw [if_neg (fun q => ho q.1)] at h
    subst ez
    exact ⟨fun _ => h, fun q => absurd (pk_sneg (by omega) (by omega)) q⟩
