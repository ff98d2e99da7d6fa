theorem nI_wide {n : Nat} (h : n < 2 ^ 31) : (nI n).toInt64 = lN n := by
  apply Int64.toInt_inj.mp
  rw [Int32.toInt_toInt64, nI_toInt h, pk_lT (by omega)]
theorem cmp_0 {n : Nat} (h : n < 2 ^ 63) : lg_cmp (lN n) 0 = 0 ↔ n = 0 := by
  by_cases h0 : n = 0
  · subst h0; decide
  · have hl : lN n > 0 := (pk_lLT (a := 0) (by omega) h).mpr (by omega)
    unfold lg_cmp
    rw [if_pos hl]
    exact ⟨fun q => absurd q (by decide), fun q => absurd q h0⟩
theorem cmp_le {n : Nat} (h : n < 2 ^ 63) : lg_cmp (lN n) 0 ≤ 0 ↔ n = 0 := by
  by_cases h0 : n = 0
  · subst h0; decide
  · have hl : lN n > 0 := (pk_lLT (a := 0) (by omega) h).mpr (by omega)
    unfold lg_cmp
    rw [if_pos hl]
    exact ⟨fun q => absurd q (by decide), fun q => absurd q h0⟩
theorem lN_0 {n : Nat} (h : n < 2 ^ 63) (h0 : n ≠ 0) : ¬ lN n = 0 := by
  intro q
  exact h0 ((pk_lEQ h (by omega)).mp (show lN n = lN 0 from q))
theorem gcd_step {a b : Nat} : Nat.gcd b (a % b) = Nat.gcd a b := by
  rw [Nat.gcd_comm a b, Nat.gcd_rec b a, Nat.gcd_comm]
theorem half_step {a b : Nat} (hb : b < a) (h0 : 0 < b) : 2 * (b * (a % b)) ≤ a * b := by
  have h1 : a % b < b := Nat.mod_lt _ h0
  have h2 : a % b + b ≤ a := by
    have := Nat.mod_add_div a b
    have h3 : 1 ≤ a / b := (Nat.one_le_div_iff h0).mpr (by omega)
    have h4 : b * 1 ≤ b * (a / b) := Nat.mul_le_mul_left b h3
    omega
  have h3 : b * (2 * (a % b)) ≤ b * a := Nat.mul_le_mul_left b (by omega)
  calc 2 * (b * (a % b)) = b * (2 * (a % b)) := by rw [← Nat.mul_assoc, Nat.mul_comm 2 b, Nat.mul_assoc]
    _ ≤ b * a := h3
    _ = a * b := Nat.mul_comm b a
theorem k_euclid {t : Nat → St} {a b : Nat} {x1 x3 : Int64} (ha : a < 2 ^ 40) (hb : b < 2 ^ 40) (hb0 : 0 < b) {Post : (Nat → St) → Prop} {KX : Int64 → Int64 → Int64 → (Nat → St) → Prop} (h : KX x1 x3 (lN (Nat.gcd a b)) t) : ∃ n, wLX11_keepFraction_9 Post KX n (x1, x3, lN a, lN b, 0, t) := by
  refine it_rule (F := fun self z => wlX11_keepFraction_9 Post KX self z.1 z.2.1 z.2.2.1 z.2.2.2.1 z.2.2.2.2.1 z.2.2.2.2.2) (fun z => ∃ i c d : Nat, z = (x1, x3, lN c, lN d, nI i, t) ∧ i ≤ 128 ∧ c < 2 ^ 40 ∧ d < 2 ^ 40 ∧ Nat.gcd c d = Nat.gcd a b ∧ (i = 0 → 0 < d) ∧ (1 ≤ i → d < c ∧ 0 < c) ∧ c * d * 2 ^ (i - 1) ≤ 2 ^ 80) (fun z => 128 - z.2.2.2.2.1.toNatClampNeg) ?_ _ ⟨0, a, b, rfl, by omega, ha, hb, rfl, fun _ => hb0, fun q => by omega, ?_⟩
  · rintro self z ⟨i, c, d, rfl, hi, hc, hd, hg, hi0, hi1, hp⟩ hself
    dsimp only at hself ⊢
    unfold wlX11_keepFraction_9
    have hdone : d = 0 → KX x1 x3 (lN c) t := fun q => by
      subst q
      rw [Nat.gcd_zero_right] at hg
      rw [hg]; exact h
    refine pk_le 128 i (fun hle => hdone ?_) (fun hlt => ⟨fun q => hdone ((cmp_0 (by omega)).mp q), fun q => ?_⟩)
    · have e : i = 128 := by omega
      subst e
      obtain ⟨h1, h2⟩ := hi1 (by omega)
      refine Classical.byContradiction fun hd0 => ?_
      have h3 : 1 ≤ c * d := Nat.mul_pos h2 (Nat.pos_of_ne_zero hd0)
      have h4 : 1 * 2 ^ (128 - 1) ≤ c * d * 2 ^ (128 - 1) := Nat.mul_le_mul_right _ h3
      have h5 : (2 : Nat) ^ 80 < 1 * 2 ^ (128 - 1) := by decide
      omega
    · have hd0 : d ≠ 0 := fun w => q ((cmp_0 (by omega)).mpr w)
      have hdp : 0 < d := Nat.pos_of_ne_zero hd0
      refine ⟨lN_0 (by omega) hd0, fun y ey z ez => ?_⟩
      rw [pk_lRem (by omega) hdp (by omega)] at ey
      subst ey; subst ez
      rw [nI_1]
      have hm : c % d < d := Nat.mod_lt _ hdp
      refine hself _ ⟨i + 1, d, c % d, rfl, by omega, hd, by omega, by rw [gcd_step]; exact hg, fun w => by omega, fun _ => ⟨hm, hdp⟩, ?_⟩ (by dsimp only; rw [ncl (by omega), ncl (by omega)]; omega)
      rw [show i + 1 - 1 = i by omega]
      rcases Nat.eq_zero_or_pos i with w | w
      · subst w
        rw [Nat.pow_zero, Nat.mul_one]
        have : d * (c % d) ≤ 2 ^ 40 * 2 ^ 40 := Nat.mul_le_mul (by omega) (by omega)
        have e80 : (2 : Nat) ^ 40 * 2 ^ 40 = 2 ^ 80 := by decide
        omega
      · obtain ⟨h1, h2⟩ := hi1 w
        have h3 := half_step h1 hdp
        have h4 : 2 * (d * (c % d)) * 2 ^ (i - 1) ≤ c * d * 2 ^ (i - 1) := Nat.mul_le_mul_right _ h3
        have h5 : d * (c % d) * 2 ^ i = 2 * (d * (c % d)) * 2 ^ (i - 1) := by
          obtain ⟨j, rfl⟩ : ∃ j, i = j + 1 := ⟨i - 1, by omega⟩
          rw [Nat.pow_succ, show j + 1 - 1 = j by omega, Nat.mul_comm 2 (d * (c % d)), Nat.mul_assoc (d * (c % d)) 2, Nat.mul_comm 2 (2 ^ j)]
        omega
  · rw [show (0 - 1 : Nat) = 0 by omega, Nat.pow_zero, Nat.mul_one]
    have : a * b ≤ 2 ^ 40 * 2 ^ 40 := Nat.mul_le_mul (by omega) (by omega)
    have e80 : (2 : Nat) ^ 40 * 2 ^ 40 = 2 ^ 80 := by decide
    omega
theorem k_keepFraction {t : Nat → St} {a b : Nat} (ha : a < 2 ^ 40) (hb : b < 2 ^ 40) (hb0 : 0 < b) {Post : (Nat → St) → Prop} (h : Post (upS t 0 (((t 0).sL 10 (lN a / lN (Nat.gcd a b))).sL 11 (lN b / lN (Nat.gcd a b))))) : wpX11_keepFraction (lN a) (lN b) t Post := by
  have hg : 0 < Nat.gcd a b := Nat.gcd_pos_of_pos_right a hb0
  have hg2 : Nat.gcd a b ≤ b := Nat.gcd_le_right a hb0
  refine k_euclid ha hb hb0 ?_
  unfold wjX11_keepFraction_45
  refine ⟨fun q => absurd ((cmp_le (by omega)).mp q) (by omega), fun _ => ⟨lN_0 (by omega) (by omega), fun t7 e7 => ⟨lN_0 (by omega) (by omega), fun t8 e8 => ?_⟩⟩⟩
  have : t8 = upS t 0 (((t 0).sL 10 (lN a / lN (Nat.gcd a b))).sL 11 (lN b / lN (Nat.gcd a b))) := by
    subst e7; subst e8
    funext j
    by_cases hj : j = 0
    · subst hj; rfl
    · rw [upS_at, if_neg hj, upS_at, if_neg hj, upS_at, if_neg hj]
  rw [this]; exact h
theorem m_common {a b : Nat} (ha : a < 2 ^ 40) (hb : b < 2 ^ 40) {Post : Int64 → Prop} (h : Post (lN (Nat.gcd a b))) : wpX12_common (lN a) (lN b) Post := by
  refine it_rule (F := fun self z => wlX12_common_6 Post _ self z.1 z.2) (fun z => ∃ c d : Nat, z = (lN c, lN d) ∧ c < 2 ^ 40 ∧ d < 2 ^ 40 ∧ Nat.gcd c d = Nat.gcd a b) (fun z => z.2.toInt.toNat) ?_ _ ⟨a, b, rfl, ha, hb, rfl⟩
  rintro self z ⟨c, d, rfl, hc, hd, hg⟩ hself
  dsimp only at hself ⊢
  unfold wlX12_common_6
  refine ⟨fun q => ?_, fun q => ?_⟩
  · have := (cmp_0 (by omega)).mp q
    subst this
    rw [Nat.gcd_zero_right] at hg
    rw [hg]; exact h
  · have hd0 : d ≠ 0 := fun w => q ((cmp_0 (by omega)).mpr w)
    have hdp : 0 < d := Nat.pos_of_ne_zero hd0
    have hm : c % d < d := Nat.mod_lt _ hdp
    refine ⟨lN_0 (by omega) hd0, fun y ey => ?_⟩
    rw [pk_lRem (by omega) hdp (by omega)] at ey
    subst ey
    refine hself _ ⟨d, c % d, rfl, hd, by omega, by rw [gcd_step]; exact hg⟩ ?_
    dsimp only
    rw [pk_lT (by omega), pk_lT (by omega)]
    omega
/-! the odds -/
def ruA (d : Nat → Nat) (M : Nat) (al : Bool) : Nat → Nat
  | 0 => 1
  | c + 1 => if M.testBit c = true then ruA d M al c * d c else if al = true then ruA d M al c * (10 - d c) else ruA d M al c
def ruB (M : Nat) (al : Bool) : Nat → Nat
  | 0 => 1
  | c + 1 => if M.testBit c = true ∨ al = true then ruB M al c * 10 else ruB M al c
theorem ruA_s (d : Nat → Nat) (M : Nat) (al : Bool) (c : Nat) : ruA d M al (c + 1) = if M.testBit c = true then ruA d M al c * d c else if al = true then ruA d M al c * (10 - d c) else ruA d M al c := rfl
theorem ruB_s (M : Nat) (al : Bool) (c : Nat) : ruB M al (c + 1) = if M.testBit c = true ∨ al = true then ruB M al c * 10 else ruB M al c := rfl
theorem ru_le {d : Nat → Nat} {M : Nat} {al : Bool} (hd : ∀ c, c < 12 → d c ≤ 9) : ∀ c, c ≤ 12 → ruA d M al c ≤ 10 ^ c ∧ 1 ≤ ruB M al c ∧ ruB M al c ≤ 10 ^ c
  | 0, _ => ⟨Nat.le_refl _, Nat.le_refl _, Nat.le_refl _⟩
  | c + 1, hc => by
    obtain ⟨h1, h2, h3⟩ := ru_le (M := M) (al := al) hd c (by omega)
    have hdc := hd c (by omega)
    have hmul : ∀ a b : Nat, a ≤ 10 ^ c → b ≤ 10 → a * b ≤ 10 ^ (c + 1) := fun a b ha hb => by
      rw [Nat.pow_succ]; exact Nat.mul_le_mul ha hb
    have hup : (10 : Nat) ^ c ≤ 10 ^ (c + 1) := Nat.pow_le_pow_right (by omega) (by omega)
    refine ⟨?_, ?_, ?_⟩
    · rw [ruA_s]
      split
      · exact hmul _ _ h1 (by omega)
      · split
        · exact hmul _ _ h1 (by omega)
        · omega
    · rw [ruB_s]
      split <;> omega
    · rw [ruB_s]
      split
      · exact hmul _ _ h3 (by omega)
      · omega
theorem k_rubL {t : Nat → St} {s M : Nat} {x3 : Int32} {d : Nat → Nat} (hs : s < 6) (hM : M < 4096) (hd : ∀ c, c < 12 → (t 2).A 0 (4 + 14 * s + c) = nI (d c) ∧ d c ≤ 9) {Post : Int32 → (Nat → St) → Prop} {KX : Int64 → Int64 → (Nat → St) → Prop} (h : KX (lN (ruA d M (decide (x3 = 0)) 12)) (lN (ruB M (decide (x3 = 0)) 12)) t) : ∃ n, wLX11_rub_43 Post KX n (nI s, nI M, x3, 1, 1, 0, t) := by
  refine for_rule (F := fun self z => wlX11_rub_43 Post KX self z.1 z.2.1 z.2.2.1 z.2.2.2.1 z.2.2.2.2.1 z.2.2.2.2.2.1 z.2.2.2.2.2.2) 12 (fun i => (nI s, nI M, x3, lN (ruA d M (decide (x3 = 0)) i), lN (ruB M (decide (x3 = 0)) i), nI i, t)) ?_ ?_
  · intro self i hi hself
    dsimp only at hself ⊢
    unfold wlX11_rub_43
    obtain ⟨ed, hd9⟩ := hd i hi
    refine ⟨fun z => absurd z (nI_ge (b := 12) hi (by decide)), fun _ => k_dentOf hs hi ?_⟩
    rw [ed, has_0 (by omega) (by omega)]
    unfold wjX11_rub_76 wjX11_rub_87 wjX11_rub_106
    rw [ruA_s, ruB_s] at hself
    refine ⟨fun hb => b0n ⟨fun h3 z ez => ?_, fun h3 => ⟨fun _ y1 ey1 y2 ey2 z ez => ?_, fun q => absurd rfl q⟩⟩, fun hb => b1n ⟨fun q => absurd q (by decide), fun _ y1 ey1 y2 ey2 z ez => ?_⟩⟩
    · subst ez
      rw [hb, decide_eq_false h3, if_neg (by decide), if_neg (by decide), if_neg (by decide)] at hself
      rw [decide_eq_false h3, nI_1]; exact hself
    · subst ez
      have e10 : ((10 : Int32) - nI (d i)).toInt64 = lN (10 - d i) := by
        rw [show (10 : Int32) - nI (d i) = nI (10 - d i) from pk_sub (a := 10) (by omega), nI_wide (by omega)]
      rw [e10, lN_mul] at ey1
      rw [show (10 : Int64) = lN 10 from rfl, lN_mul] at ey2
      subst ey1; subst ey2
      rw [hb, decide_eq_true h3, if_neg (by decide), if_pos rfl, if_pos (Or.inr rfl)] at hself
      rw [decide_eq_true h3, nI_1]; exact hself
    · subst ez
      have hb' : M.testBit i = true := by simpa using hb
      rw [nI_wide (by omega), lN_mul] at ey1
      rw [show (10 : Int64) = lN 10 from rfl, lN_mul] at ey2
      subst ey1; subst ey2
      rw [if_pos hb', if_pos (Or.inl hb')] at hself
      rw [nI_1]; exact hself
  · intro self
    dsimp only
    unfold wlX11_rub_43
    exact ⟨fun _ => h, fun z => absurd (nI_le (a := 12) (b := 12) (by decide) (by decide)) z⟩
theorem m_rubL {x : St} {s M : Nat} {x3 : Int32} {d : Nat → Nat} (hs : s < 6) (hM : M < 4096) (hd : ∀ c, c < 12 → x.A 4 (12 + 12 * s + c) = nI (d c) ∧ d c ≤ 9) (e7 : x.L 7 = lN 1) (e8 : x.L 8 = lN 1) {Post : Int32 → St → Prop} {KX : St → Prop} (h : ∀ y : St, (∀ k, y.I k = x.I k) → (∀ k, y.A k = x.A k) → y.L 7 = lN (ruA d M (decide (x3 = 0)) 12) → y.L 8 = lN (ruB M (decide (x3 = 0)) 12) → KX y) : ∃ n, wLX12_rub_48 Post KX n (nI s, nI M, x3, 0, x) := by
  refine it_rule (F := fun self z => wlX12_rub_48 Post KX self z.1 z.2.1 z.2.2.1 z.2.2.2.1 z.2.2.2.2) (fun z => ∃ (i : Nat) (y : St), z = (nI s, nI M, x3, nI i, y) ∧ i ≤ 12 ∧ (∀ k, y.I k = x.I k) ∧ (∀ k, y.A k = x.A k) ∧ y.L 7 = lN (ruA d M (decide (x3 = 0)) i) ∧ y.L 8 = lN (ruB M (decide (x3 = 0)) i)) (fun z => 12 - z.2.2.2.1.toNatClampNeg) ?_ _ ⟨0, x, rfl, by omega, fun _ => rfl, fun _ => rfl, e7, e8⟩
  rintro self z ⟨i, y, rfl, hi, a1, a2, a3, a4⟩ hself
  dsimp only at hself ⊢
  unfold wlX12_rub_48
  refine pk_le 12 i (fun hle => ?_) (fun hlt => m_dentOf hs hlt ?_)
  · have e : i = 12 := by omega
    subst e
    exact h y a1 a2 a3 a4
  · obtain ⟨ed, hd9⟩ := hd i hlt
    rw [a2, ed]
    have go : ∀ (v : Int64) (e : Nat), v = lN e → (M.testBit i = true → e = d i) → (M.testBit i = false → decide (x3 = 0) = true ∧ e = 10 - d i) → wjX12_rub_103 Post self KX (nI s) (nI M) x3 (nI i) v (y.L 7) y := by
      intro v e ev h1 h2 p11 e11 p12 e12 z ez
      subst ez
      rw [nI_1]
      refine hself _ ⟨i + 1, p12, rfl, by omega, fun k => by rw [e12, e11]; exact a1 k, fun k => by rw [e12, e11]; exact a2 k, ?_, ?_⟩ (by dsimp only; rw [ncl (by omega), ncl (by omega)]; omega)
      · rw [e12, sL_L, if_neg (by decide), e11, sL_L, if_pos rfl, a3, ev, lN_mul, ruA_s]
        by_cases hb : M.testBit i = true
        · rw [if_pos hb, h1 hb]
        · rw [if_neg hb, if_pos (h2 (by simpa using hb)).1, (h2 (by simpa using hb)).2]
      · rw [e12, sL_L, if_pos rfl, e11, sL_L, if_neg (by decide), a4, show (10 : Int64) = lN 10 from rfl, lN_mul, ruB_s, if_pos]
        by_cases hb : M.testBit i = true
        · exact Or.inl hb
        · exact Or.inr (h2 (by simpa using hb)).1
    have e10 : ((10 : Int32) - nI (d i)).toInt64 = lN (10 - d i) := by
      rw [show (10 : Int32) - nI (d i) = nI (10 - d i) from pk_sub (a := 10) (by omega), nI_wide (by omega)]
    unfold wjX12_rub_77
    refine m_has (by omega) (by omega) (fun hb => b1n ?_) (fun hb => b0n ⟨fun h3 z ez => ?_, fun h3 => ?_⟩)
    · exact m_has (by omega) (by omega) (fun _ => b1e (go _ (d i) (nI_wide (by omega)) (fun _ => rfl) (fun w => by rw [hb] at w; exact absurd w (by decide)))) (fun w => by rw [hb] at w; exact absurd w (by decide))
    · subst ez
      rw [nI_1]
      refine hself _ ⟨i + 1, y, rfl, by omega, a1, a2, ?_, ?_⟩ (by dsimp only; rw [ncl (by omega), ncl (by omega)]; omega)
      · rw [a3, ruA_s, if_neg (by rw [hb]; decide), if_neg (by rw [decide_eq_false h3]; decide)]
      · rw [a4, ruB_s, if_neg (by rw [hb, decide_eq_false h3]; decide)]
    · exact m_has (by omega) (by omega) (fun w => by rw [hb] at w; exact absurd w (by decide)) (fun _ => b0e (go _ (10 - d i) e10 (fun w => by rw [hb] at w; exact absurd w (by decide)) (fun _ => ⟨decide_eq_true h3, rfl⟩)))
theorem R_frac {t : Nat → St} {x x' : St} {a b : Int64} (h : Rel t x) (hI : ∀ k, x'.I k = x.I k) (hA : ∀ k, x'.A k = x.A k) (h7 : x'.L 7 = a) (h8 : x'.L 8 = b) : Rel (upS t 0 (((t 0).sL 10 a).sL 11 b)) x' := by
  obtain ⟨hN, hO, hT, hM⟩ := h
  refine ⟨?_, ?_, ?_, ?_⟩
  · unfold NowR at hN ⊢
    rw [hI, hI, hI, hI, hA, hA, hA]; exact hN
  · unfold ObjR at hO ⊢
    rw [h7, h8, hA]
    exact ⟨rfl, rfl, hO.2.2⟩
  · unfold TxtR at hT ⊢
    rw [hI, hA]; exact hT
  · unfold ImsR at hM ⊢
    rw [hA, hA]; exact hM
theorem s_rub {t : Nat → St} {x : St} (h : Rel t x) (x1 x2 x3 : Int32) : SimI (wpX11_rub x1 x2 x3 t) (wpX12_rub x1 x2 x3 x) := by
  obtain ⟨n, w, u, e1, e2, e3, hc, g⟩ := h.1.got
  have hcur := g.cur
  have hn6 := g.2.1
  unfold SimI wpX11_rub wjX11_rub_27
  have MB : ¬ ((0 ≤ x1.toInt ∧ x1.toInt < n) ∧ (0 ≤ x2.toInt ∧ x2.toInt ≤ 4095) ∧ 0 ≤ x3.toInt ∧ x3.toInt ≤ 1) → ∀ {P : Int32 → St → Prop}, P (-2) (refX x 0) → wpX12_rub x1 x2 x3 x P := by
    intro hb P hP
    unfold wpX12_rub wjX12_rub_30 wpX12_bad
    exact m_isSheet e1 hn6 (fun a b => b1e (in_rule 0 4095 (by decide) (by decide) (fun c d => b1e (in_rule 0 1 (by decide) (by decide) (fun e f => absurd ⟨⟨a, b⟩, ⟨c, d⟩, e, f⟩ hb) (fun _ => b0n (m_ref0 hP)))) (fun _ => b0e (m_ref0 hP)))) (fun _ => b0e (m_ref0 hP))
  refine k_hasSheet g.2.2.1 hn6 (fun a b => b1e ?_) (fun q => b0e (k_bad (MB (by omega) ⟨rfl, R_bad h⟩)))
  refine k_isCells (fun c d => b1e ?_) (fun q => b0e (k_bad (MB (by omega) ⟨rfl, R_bad h⟩)))
  refine v_le 0 1 (by decide) (by decide) (fun q => k_bad (MB (by omega) ⟨rfl, R_bad h⟩)) (fun e f => ?_)
  clear MB
  obtain ⟨s, rfl, hs, _⟩ := toNI a
  obtain ⟨M, rfl, hM, _⟩ := toNI c
  have hs6 : s < 6 := by omega
  have hdm : ∀ c, c < 12 → x.A 4 (12 + 12 * s + c) = nI (mx (x.A 4) s c (mN (x.A 4))).toNatClampNeg ∧ (mx (x.A 4) s c (mN (x.A 4))).toNatClampNeg ≤ 9 := fun c hc => by
    have hT := exN_T (K := 0) (c := c) hcur.2 hs6 (mN (x.A 4)) (Nat.le_refl _)
    obtain ⟨j, ej, hj, _⟩ := toNI (show 0 ≤ (mx (x.A 4) s c (mN (x.A 4))).toInt by omega)
    rw [hcur.2.2.2.2.2.2 s (by omega) c hc, ej, ncl (by omega)]
    exact ⟨rfl, by omega⟩
  have hdk : ∀ c, c < 12 → (t 2).A 0 (4 + 14 * s + c) = nI (mx (x.A 4) s c (mN (x.A 4))).toNatClampNeg ∧ (mx (x.A 4) s c (mN (x.A 4))).toNatClampNeg ≤ 9 := fun c hc => by
    rw [(hcur.1.2.2.1 s hs6).2.2 c hc]; exact hdm c hc
  have hle := ru_le (M := M) (al := decide (x3 = 0)) (fun c hc => (hdm c hc).2) 12 (Nat.le_refl _)
  have e12 : (10 : Nat) ^ 12 < 2 ^ 40 := by decide
  refine k_rubL hs6 (by omega) hdk (k_keepFraction (by omega) (by omega) (by omega) ?_)
  unfold wpX12_rub wjX12_rub_30 wpX12_bad
  refine m_isSheet e1 hn6 (fun _ _ => b1e (in_rule 0 4095 (by decide) (by decide) (fun _ _ => b1e (in_rule 0 1 (by decide) (by decide) (fun _ _ => b1n ?_) (fun q => absurd q (by omega)))) (fun q => absurd q (by omega)))) (fun q => absurd q (by omega))
  intro p6 e6 p7 e7
  refine m_rubL (d := fun c => (mx (x.A 4) s c (mN (x.A 4))).toNatClampNeg) hs6 (by omega) (fun c hc => ?_) ?_ ?_ (fun y b1 b2 b3 b4 => ?_)
  · rw [e7, e6]; exact hdm c hc
  · rw [e7, e6]; rfl
  · rw [e7]; rfl
  · rw [b3, b4]
    refine m_common (by omega) (by omega) ?_
    have hg : 0 < Nat.gcd (ruA (fun c => (mx (x.A 4) s c (mN (x.A 4))).toNatClampNeg) M (decide (x3 = 0)) 12) (ruB M (decide (x3 = 0)) 12) := Nat.gcd_pos_of_pos_right _ (by omega)
    have hg2 : Nat.gcd (ruA (fun c => (mx (x.A 4) s c (mN (x.A 4))).toNatClampNeg) M (decide (x3 = 0)) 12) (ruB M (decide (x3 = 0)) 12) ≤ ruB M (decide (x3 = 0)) 12 := Nat.gcd_le_right _ (by omega)
    refine ⟨lN_0 (by omega) (by omega), fun p17 e17 => ⟨lN_0 (by omega) (by omega), fun p18 e18 => ⟨rfl, ?_⟩⟩⟩
    refine R_frac h (fun k => ?_) (fun k => ?_) ?_ ?_
    · rw [e18, e17, sL_I, sL_I, b1, e7, e6]; rfl
    · rw [e18, e17, sL_A, sL_A, b2, e7, e6]; rfl
    · rw [e18, e17, sL_L, if_neg (by decide), sL_L, if_pos rfl]
    · rw [e18, sL_L, if_pos rfl, e17, sL_L, if_neg (by decide), b4]
