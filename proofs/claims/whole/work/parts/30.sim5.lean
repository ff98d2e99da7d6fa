def prV (k : Nat) (d : Int32) : Int32 := if fa_first (fun i => decide (¬ fo (nI k) (nI (1 + i)) d < 2)) 9 < 9 then nI (1 + fa_first (fun i => decide (¬ fo (nI k) (nI (1 + i)) d < 2)) 9) else -1
theorem m_pressL {x : St} {k : Nat} {d : Int32} (hk : k < 6) {Post : Int32 → St → Prop} {KX : St → Prop} (h : Post (prV k d) x) (hX : KX = fun x => Post (-1) x) : ∃ n, wLX12_press_31 Post KX n (nI k, d, 1, x) := by
  unfold prV at h
  generalize eP : (fun i => decide (¬ fo (nI k) (nI (1 + i)) d < 2)) = P at h
  have hf1 := fa_first_le P 9
  have hf2 := fa_first_no P 9
  have hf3 := fa_first_yes P 9
  generalize fa_first P 9 = ft at hf1 hf2 hf3 h
  have hPi : ∀ i, P i = true ↔ ¬ fo (nI k) (nI (1 + i)) d < 2 := fun i => by rw [← eP]; simp
  refine for_rule (F := fun self z => wlX12_press_31 Post KX self z.1 z.2.1 z.2.2.1 z.2.2.2) ft (fun i => (nI k, d, nI (1 + i), x)) ?_ ?_
  · intro self i hi hself
    dsimp only
    unfold wlX12_press_31
    refine ⟨fun z => absurd z (nI_nlt (a := 9) (by omega) (by decide)), fun _ => m_force hk ⟨fun _ z ez => ?_, fun hge => ?_⟩⟩
    · subst ez
      rw [nI_1]
      exact hself
    · have := hf2 i hi
      rw [(hPi i).mpr hge] at this
      cases this
  · intro self
    dsimp only
    unfold wlX12_press_31
    by_cases hft : ft < 9
    · rw [if_pos hft] at h
      exact ⟨fun z => absurd z (nI_nlt (a := 9) (by omega) (by decide)), fun _ => m_force hk ⟨fun hlt => absurd hlt ((hPi ft).mp (hf3 hft)), fun _ => h⟩⟩
    · rw [if_neg hft] at h
      subst hX
      exact ⟨fun _ => h, fun z => absurd (nI_lt (a := 9) (by omega) (by omega)) z⟩
theorem k_pressL {t : Nat → St} {k : Nat} {d : Int32} {Post : Int32 → (Nat → St) → Prop} {KX : (Nat → St) → Prop} (h : Post (prV k d) t) (hX : KX = fun x => Post (-1) x) : ∃ n, wLX11_press_31 Post KX n (nI k, d, 1, t) := by
  unfold prV at h
  generalize eP : (fun i => decide (¬ fo (nI k) (nI (1 + i)) d < 2)) = P at h
  have hf1 := fa_first_le P 9
  have hf2 := fa_first_no P 9
  have hf3 := fa_first_yes P 9
  generalize fa_first P 9 = ft at hf1 hf2 hf3 h
  have hPi : ∀ i, P i = true ↔ ¬ fo (nI k) (nI (1 + i)) d < 2 := fun i => by rw [← eP]; simp
  refine for_rule (F := fun self z => wlX11_press_31 Post KX self z.1 z.2.1 z.2.2.1 z.2.2.2) ft (fun i => (nI k, d, nI (1 + i), t)) ?_ ?_
  · intro self i hi hself
    dsimp only
    unfold wlX11_press_31
    refine ⟨fun z => absurd z (nI_nlt (a := 9) (by omega) (by decide)), fun _ => ⟨fun _ z ez => ?_, fun hge => ?_⟩⟩
    · subst ez
      rw [nI_1]
      exact hself
    · have := hf2 i hi
      rw [(hPi i).mpr hge] at this
      cases this
  · intro self
    dsimp only
    unfold wlX11_press_31
    by_cases hft : ft < 9
    · rw [if_pos hft] at h
      exact ⟨fun z => absurd z (nI_nlt (a := 9) (by omega) (by decide)), fun _ => ⟨fun hlt => absurd hlt ((hPi ft).mp (hf3 hft)), fun _ => h⟩⟩
    · rw [if_neg hft] at h
      subst hX
      exact ⟨fun _ => h, fun z => absurd (nI_lt (a := 9) (by omega) (by omega)) z⟩
theorem k_press {t : Nat → St} {x1 x2 : Int32} {Post : Int32 → (Nat → St) → Prop} (hb : ¬ (0 ≤ x1.toInt ∧ x1.toInt ≤ 5 ∧ 1 ≤ x2.toInt ∧ x2.toInt ≤ 5) → Post (-2) (badT t)) (hg : ∀ k : Nat, k < 6 → x1 = nI k → 1 ≤ x2.toInt → x2.toInt ≤ 5 → Post (prV k x2) t) : wpX11_press x1 x2 t Post := by
  unfold wpX11_press wjX11_press_22
  refine v_ge 0 6 (by decide) (by decide) (fun a => k_bad (hb (by omega))) (fun a b => ?_)
  have e1 : (1 : Int32).toInt = 1 := by decide
  refine ⟨fun c => k_bad (hb ?_), fun c => k_isDepth (fun d1 d2 => b1n ?_) (fun d => b0n (k_bad (hb (by omega))))⟩
  · rw [fa_lt] at c; omega
  · rw [fa_lt] at c
    obtain ⟨k, ek, hk, _⟩ := toNI a
    have := hg k (by omega) ek (by omega) d2
    subst ek
    exact k_pressL this rfl
theorem m_press {x : St} {x1 x2 : Int32} {Post : Int32 → St → Prop} (hb : ¬ (0 ≤ x1.toInt ∧ x1.toInt ≤ 5 ∧ 1 ≤ x2.toInt ∧ x2.toInt ≤ 5) → Post (-2) (refX x 0)) (hg : ∀ k : Nat, k < 6 → x1 = nI k → 1 ≤ x2.toInt → x2.toInt ≤ 5 → Post (prV k x2) x) : wpX12_press x1 x2 x Post := by
  unfold wpX12_press wjX12_press_24 wpX12_bad
  refine in_rule 0 5 (by decide) (by decide) (fun a b => b1e ?_) (fun a => b0e (m_ref0 (hb (by omega))))
  refine in_rule 1 5 (by decide) (by decide) (fun c d => b1n ?_) (fun c => b0n (m_ref0 (hb (by omega))))
  obtain ⟨k, ek, hk, _⟩ := toNI a
  have := hg k (by omega) ek c d
  subst ek
  exact m_pressL (by omega) this rfl
theorem s_press {t : Nat → St} {x : St} (h : Rel t x) (x1 x2 : Int32) : SimI (wpX11_press x1 x2 t) (wpX12_press x1 x2 x) := by
  refine k_press (fun hb => ?_) (fun k hk ek h1 h2 => ?_)
  · exact m_press (fun _ => ⟨rfl, R_bad h⟩) (fun k hk ek h1 h2 => absurd (⟨by rw [ek, nI_toInt (by omega)]; omega, by rw [ek, nI_toInt (by omega)]; omega, h1, h2⟩ : 0 ≤ x1.toInt ∧ x1.toInt ≤ 5 ∧ 1 ≤ x2.toInt ∧ x2.toInt ≤ 5) hb)
  · refine m_press (fun hb => absurd (⟨by rw [ek, nI_toInt (by omega)]; omega, by rw [ek, nI_toInt (by omega)]; omega, h1, h2⟩ : 0 ≤ x1.toInt ∧ x1.toInt ≤ 5 ∧ 1 ≤ x2.toInt ∧ x2.toInt ≤ 5) hb) (fun k' hk' ek' _ _ => ?_)
    have e : k = k' := (nI_eq (by omega) (by omega)).mp (ek.symm.trans ek')
    subst e
    exact ⟨rfl, h⟩
theorem s_about {t : Nat → St} {x : St} (h : Rel t x) (x1 x2 : Int32) : SimI (wpX11_about x1 x2 t) (wpX12_about x1 x2 x) := by
  obtain ⟨n, w, u, e1, e2, e3, hc, g⟩ := h.1.got
  have hn6 := g.2.1
  obtain ⟨q0, q1, q2, q3, q4, q5⟩ := g.nums
  obtain ⟨hR, hW⟩ := g.cur
  unfold SimI wpX11_about wpX12_about wpX12_bad
  refine k_hasNote q1 q5 (fun a b => b1n ?_) (fun a => b0n (k_bad ?_))
  · obtain ⟨k, ek, hk, _⟩ := toNI a
    subst ek
    have hkm : k < mN (x.A 4) := by omega
    obtain ⟨g1, g2, g3, g4, g5, g6, g7, g8, g9, g10⟩ := hW.2.2.2.2.1 k hkm
    obtain ⟨r1, r2, r3, r4, r5⟩ := hR.2.2.2 k hkm
    have e0 : ((84 : Int32) + ((4 : Int32) * nI k)) = nI (84 + 4 * k) := by
      show nI 84 + nI 4 * nI k = _
      rw [pk_mul, nI_add]
    have f0 : nI (84 + 4 * k) + 0 = nI (84 + 4 * k) := by show _ + nI 0 = _; rw [nI_add]; rfl
    have f1 : nI (84 + 4 * k) + 1 = nI (85 + 4 * k) := by show _ + nI 1 = _; rw [nI_add]; congr 1; omega
    have f2 : nI (84 + 4 * k) + 2 = nI (86 + 4 * k) := by show _ + nI 2 = _; rw [nI_add]; congr 1; omega
    have f3 : nI (84 + 4 * k) + 3 = nI (87 + 4 * k) := by show _ + nI 3 = _; rw [nI_add]; congr 1; omega
    have hv : vp_in (nI k) 10 := vp_in_nI (by omega) (by omega)
    rw [ncl (by omega)]
    refine ⟨fun e => ⟨hv, ?_⟩, fun e => ⟨hv, ?_⟩, fun e => ⟨hv, ?_⟩, fun e => ⟨hv, ?_⟩, fun e => ⟨hv, ?_⟩, fun e => ⟨hv, ?_⟩, fun z0 z1 z2 z3 z4 z5 => k_bad ?_⟩
    · subst e
      refine m_isNote q3 q5 (fun _ _ => b1n ?_) (fun z => absurd z (by omega))
      intro z ez; rw [e0] at ez; subst ez
      refine ⟨fun _ => ?_, fun e => absurd e (by decide), fun e => absurd e (by decide), fun e => absurd e (by decide), fun e => absurd e (by decide), fun e => absurd e (by decide), fun e => absurd rfl e⟩
      rw [f0, ncl (by omega)]
      exact ⟨vp_in_nI (by omega) (by omega), r1, h⟩
    · subst e
      refine m_isNote q3 q5 (fun _ _ => b1n ?_) (fun z => absurd z (by omega))
      intro z ez; rw [e0] at ez; subst ez
      refine ⟨fun e => absurd e (by decide), fun _ => ?_, fun e => absurd e (by decide), fun e => absurd e (by decide), fun e => absurd e (by decide), fun e => absurd e (by decide), fun _ e => absurd rfl e⟩
      rw [f1, ncl (by omega)]
      exact ⟨vp_in_nI (by omega) (by omega), r2, h⟩
    · subst e
      refine m_isNote q3 q5 (fun _ _ => b1n ?_) (fun z => absurd z (by omega))
      intro z ez; rw [e0] at ez; subst ez
      refine ⟨fun e => absurd e (by decide), fun e => absurd e (by decide), fun _ => ?_, fun e => absurd e (by decide), fun e => absurd e (by decide), fun e => absurd e (by decide), fun _ _ e => absurd rfl e⟩
      rw [f2, ncl (by omega)]
      exact ⟨vp_in_nI (by omega) (by omega), r3, h⟩
    · subst e
      refine m_isNote q3 q5 (fun _ _ => b1n ?_) (fun z => absurd z (by omega))
      intro z ez; rw [e0] at ez; subst ez
      refine ⟨fun e => absurd e (by decide), fun e => absurd e (by decide), fun e => absurd e (by decide), fun _ => ?_, fun e => absurd e (by decide), fun e => absurd e (by decide), fun _ _ _ e => absurd rfl e⟩
      rw [f3, ncl (by omega)]
      exact ⟨vp_in_nI (by omega) (by omega), r4, h⟩
    · subst e
      rw [r4, g8]
      refine k_forceOn hR hW hn6 hkm (by omega) ?_
      refine m_isNote q3 q5 (fun _ _ => b1n ?_) (fun z => absurd z (by omega))
      intro z ez; rw [e0] at ez; subst ez
      refine ⟨fun e => absurd e (by decide), fun e => absurd e (by decide), fun e => absurd e (by decide), fun e => absurd e (by decide), fun _ => ?_, fun e => absurd e (by decide), fun _ _ _ _ e => absurd rfl e⟩
      rw [f1, ncl (by omega), ncl (by omega)]
      refine ⟨vp_in_nI (by omega) (by omega), vp_in_nI (by omega) (by omega), ?_⟩
      have ef : fOn (x.A 4) (onN (x.A 4) k) k = fo (x.A 4 (84 + 4 * k)) (x.A 4 (85 + 4 * k)) 0 := by
        unfold fOn
        rw [if_pos (Nat.le_refl _), Nat.sub_self]
        rfl
      rw [ef, g1]
      exact m_force g2 ⟨rfl, h⟩
    · subst e
      rw [r1]
      unfold wpX5_hasInk
      have key : ∀ r : Int32, r = hink (x.A 4 (84 + 4 * k)) → wpX12_in ((nI k).toInt64) 0 ((((x.A 4) 124) - 1)).toInt64 (fun (r1 : Int32) => ((¬ r1 = 0) → ∀ x3_2 : Int32, x3_2 = ((84 : Int32) + ((4 : Int32) * nI k)) → ((5 : Int32) = 0 → vp_in (x3_2 + 5) 126 ∧ r = ((x.A 4) (x3_2 + 5).toNatClampNeg) ∧ Rel t x) ∧ ((5 : Int32) = 1 → vp_in (x3_2 + 5) 126 ∧ r = ((x.A 4) (x3_2 + 5).toNatClampNeg) ∧ Rel t x) ∧ ((5 : Int32) = 2 → vp_in (x3_2 + 5) 126 ∧ r = ((x.A 4) (x3_2 + 5).toNatClampNeg) ∧ Rel t x) ∧ ((5 : Int32) = 3 → vp_in (x3_2 + 5) 126 ∧ r = ((x.A 4) (x3_2 + 5).toNatClampNeg) ∧ Rel t x) ∧ ((5 : Int32) = 4 → vp_in x3_2 126 ∧ vp_in (x3_2 + 1) 126 ∧ wpX12_forceOf ((x.A 4) x3_2.toNatClampNeg) ((x.A 4) (x3_2 + 1).toNatClampNeg) 0 (fun (r3 : Int32) => r = r3 ∧ Rel t x)) ∧ ((5 : Int32) = 5 → vp_in x3_2 126 ∧ wpX12_hasInk ((x.A 4) x3_2.toNatClampNeg) (fun (r4 : Int32) => ((r4 = 0) → r = 0 ∧ Rel t x) ∧ ((¬ r4 = 0) → r = 1 ∧ Rel t x))) ∧ (¬ (5 : Int32) = 0 → ¬ (5 : Int32) = 1 → ¬ (5 : Int32) = 2 → ¬ (5 : Int32) = 3 → ¬ (5 : Int32) = 4 → ¬ (5 : Int32) = 5 → wpX12_refuse 0 (-2) x (fun (r1 : Int32) (p2 : St) => r = r1 ∧ Rel t p2))) ∧ ((r1 = 0) → wpX12_refuse 0 (-2) x (fun (r1 : Int32) (p2 : St) => r = r1 ∧ Rel t p2))) := by
        intro r hr
        refine m_isNote q3 q5 (fun _ _ => b1n ?_) (fun z => absurd z (by omega))
        intro z ez; rw [e0] at ez; subst ez
        refine ⟨fun e => absurd e (by decide), fun e => absurd e (by decide), fun e => absurd e (by decide), fun e => absurd e (by decide), fun e => absurd e (by decide), fun _ => ?_, fun _ _ _ _ _ e => absurd rfl e⟩
        rw [ncl (by omega)]
        refine ⟨vp_in_nI (by omega) (by omega), ?_⟩
        rw [g1] at hr ⊢
        refine m_hasInk g2 ?_
        have hh : hink (nI (kN (x.A 4) k)) = 0 ∨ hink (nI (kN (x.A 4) k)) = 1 := by
          have : ∀ k, k < 6 → hink (nI k) = 0 ∨ hink (nI k) = 1 := by decide +kernel
          exact this _ g2
        rcases hh with e | e
        · rw [e] at hr ⊢; exact ⟨fun _ => ⟨hr, h⟩, fun q => absurd rfl q⟩
        · rw [e] at hr ⊢; exact ⟨fun q => absurd q (by decide), fun _ => ⟨hr, h⟩⟩
      refine ⟨fun z => key _ z.symm, fun z => key _ ?_⟩
      rw [g1] at z ⊢
      have hh : hink (nI (kN (x.A 4) k)) = 0 ∨ hink (nI (kN (x.A 4) k)) = 1 := by
        have : ∀ k, k < 6 → hink (nI k) = 0 ∨ hink (nI k) = 1 := by decide +kernel
        exact this _ g2
      rcases hh with e | e
      · exact absurd e z
      · exact e.symm
    · refine m_isNote q3 q5 (fun _ _ => b1n ?_) (fun z => absurd z (by omega))
      intro z ez
      exact ⟨fun e => absurd e z0, fun e => absurd e z1, fun e => absurd e z2, fun e => absurd e z3, fun e => absurd e z4, fun e => absurd e z5, fun _ _ _ _ _ _ => m_ref0 ⟨rfl, R_bad h⟩⟩
  · exact m_isNote q3 q5 (fun a1 a2 => absurd a (by omega)) (fun _ => b0n (m_ref0 ⟨rfl, R_bad h⟩))
