theorem k_writtenOn {p : St} {x1 : Int32} {m : Nat} (em : p.A 0 1 = nI m) (hm : m ≤ 10) {Post : Int32 → Prop} (h : Post (bitsN (fun k => decide (p.A 8 k = x1)) m)) : wpX4_writtenOn x1 p Post := by
  refine for_rule (F := fun self x => wlX4_writtenOn_4 p Post _ self x.1 x.2.1 x.2.2) m (fun i => (x1, bitsN (fun k => decide (p.A 8 k = x1)) i, nI i)) ?_ ?_
  · intro self i hi hs
    show wlX4_writtenOn_4 p Post _ self x1 (bitsN _ i) (nI i)
    unfold wlX4_writtenOn_4
    rw [em, ncl (by omega)]
    refine ⟨fun z => absurd z (nI_ge hi (by omega)), fun _ => ⟨vp_in_nI (by omega) (by omega), fun hne z ez => ?_, fun he y ey z ez => ?_⟩⟩
    · subst ez
      rw [nI_1]
      unfold bitsN at hs
      rw [if_neg (by simpa using hne)] at hs
      exact hs
    · subst ez; subst ey
      rw [nI_1]
      unfold bitsN at hs
      rw [if_pos (by simpa using he)] at hs
      exact hs
  · intro self
    show wlX4_writtenOn_4 p Post _ self x1 (bitsN _ m) (nI m)
    unfold wlX4_writtenOn_4
    rw [em]
    exact ⟨fun _ => h, fun z => absurd (nI_le (Nat.le_refl m) (by omega)) z⟩
theorem m_writtenOn {p : St} {x1 : Int32} {m : Nat} (em : p.A 4 124 = nI m) (hm : m ≤ 10) {Post : Int32 → Prop} (h : Post (bitsN (fun k => decide (p.A 4 (87 + 4 * k) = x1)) m)) : wpX12_writtenOn x1 p Post := by
  refine for_rule (F := fun self x => wlX12_writtenOn_4 p Post _ self x.1 x.2.1 x.2.2) m (fun i => (x1, bitsN (fun k => decide (p.A 4 (87 + 4 * k) = x1)) i, nI i)) ?_ ?_
  · intro self i hi hs
    show wlX12_writtenOn_4 p Post _ self x1 (bitsN _ i) (nI i)
    have e : (((84 : Int32) + ((4 : Int32) * nI i)) + 3) = nI (87 + 4 * i) := by
      show (nI 84 + nI 4 * nI i) + nI 3 = _
      rw [pk_mul, nI_add, nI_add]; congr 1; omega
    unfold wlX12_writtenOn_4
    rw [em, e, ncl (by omega)]
    refine ⟨fun z => absurd z (nI_ge hi (by omega)), fun _ => ⟨vp_in_nI (by omega) (by omega), fun hne y ey z ez => ?_, fun he y ey z ez => ?_⟩⟩
    · subst ez; subst ey
      rw [nI_1, or_0]
      unfold bitsN at hs
      rw [if_neg (by simpa using hne)] at hs
      exact hs
    · subst ez; subst ey
      rw [nI_1]
      unfold bitsN at hs
      rw [if_pos (by simpa using he)] at hs
      exact hs
  · intro self
    show wlX12_writtenOn_4 p Post _ self x1 (bitsN _ m) (nI m)
    unfold wlX12_writtenOn_4
    rw [em]
    exact ⟨fun _ => h, fun z => absurd (nI_le (Nat.le_refl m) (by omega)) z⟩
theorem s_of {t : Nat → St} {x : St} (h : Rel t x) (x1 x2 : Int32) : SimI (wpX11_of x1 x2 t) (wpX12_of x1 x2 x) := by
  obtain ⟨n, w, u, e1, e2, e3, hc, g⟩ := h.1.got
  have hn6 := g.2.1
  obtain ⟨q0, q1, q2, q3, q4, q5⟩ := g.nums
  obtain ⟨⟨r1, r2, r3, r4⟩, hw⟩ := g.cur
  unfold SimI wpX11_of wpX12_of wpX12_badLess
  refine k_hasSheet g.2.2.1 hn6 (fun a b => b1n ?_) (fun a => b0n (k_bad ?_))
  · obtain ⟨s, es, hs, _⟩ := toNI a
    subst es
    refine ⟨fun e => ?_, fun e => ?_, fun e => ?_, fun e => ?_, fun z0 z1 z2 z3 => k_bad ?_⟩
    · subst e
      refine k_inkOf (by omega) ?_
      refine m_isSheet e1 hn6 (fun _ _ => b1n ⟨fun _ => ?_, fun e => absurd e (by decide), fun e => absurd e (by decide), fun e => absurd e (by decide), fun e => absurd rfl e⟩) (fun z => absurd z (by omega))
      have e : ((0 : Int32) + nI s) = nI s := by show nI 0 + nI s = _; rw [nI_add]; congr 1; omega
      rw [e, ncl (by omega)]
      exact ⟨vp_in_nI (by omega) (by omega), (r3 s (by omega)).1, h⟩
    · subst e
      refine k_copyOf (by omega) ?_
      refine m_isSheet e1 hn6 (fun _ _ => b1n ⟨fun e => absurd e (by decide), fun _ => ?_, fun e => absurd e (by decide), fun e => absurd e (by decide), fun _ e => absurd rfl e⟩) (fun z => absurd z (by omega))
      have e : ((6 : Int32) + nI s) = nI (6 + s) := by show nI 6 + nI s = _; rw [nI_add]
      rw [e, ncl (by omega)]
      exact ⟨vp_in_nI (by omega) (by omega), (r3 s (by omega)).2.1, h⟩
    · subst e
      have key : ∀ r : Int32, ((nI (tN (x.A 4)) ≤ nI s → r = nI s - nI (tN (x.A 4))) ∧ (¬ nI (tN (x.A 4)) ≤ nI s → r = -1)) → wpX12_isSheet (nI s) x (fun (r1 : Int32) => ((¬ r1 = 0) → ((2 : Int32) = 0 → vp_in ((0 : Int32) + (nI s)) 126 ∧ r = ((x.A 4) ((0 : Int32) + (nI s)).toNatClampNeg) ∧ Rel t x) ∧ ((2 : Int32) = 1 → vp_in ((6 : Int32) + (nI s)) 126 ∧ r = ((x.A 4) ((6 : Int32) + (nI s)).toNatClampNeg) ∧ Rel t x) ∧ ((2 : Int32) = 2 → ((((x.A 4) 125) ≤ (nI s)) → r = ((nI s) - ((x.A 4) 125)) ∧ Rel t x) ∧ ((¬ ((x.A 4) 125) ≤ (nI s)) → r = (-1) ∧ Rel t x)) ∧ ((2 : Int32) = 3 → wpX12_writtenOn (nI s) x (fun (r2 : Int32) => r = r2 ∧ Rel t x)) ∧ (¬ (2 : Int32) = 0 → ¬ (2 : Int32) = 1 → ¬ (2 : Int32) = 2 → ¬ (2 : Int32) = 3 → wpX12_refuse 0 (-10) x (fun (r3 : Int32) (p4 : St) => r = r3 ∧ Rel t p4))) ∧ ((r1 = 0) → wpX12_refuse 0 (-10) x (fun (r5 : Int32) (p6 : St) => r = r5 ∧ Rel t p6))) := by
        intro r hr
        refine m_isSheet e1 hn6 (fun _ _ => b1n ⟨fun e => absurd e (by decide), fun e => absurd e (by decide), fun _ => ?_, fun e => absurd e (by decide), fun _ _ e => absurd rfl e⟩) (fun z => absurd z (by omega))
        rw [q2]
        exact ⟨fun z => ⟨hr.1 z, h⟩, fun z => ⟨hr.2 z, h⟩⟩
      refine k_top ?_
      rw [q0]
      refine ⟨fun z => k_top ?_, fun z => ?_⟩
      · rw [q0]
        exact key _ ⟨fun _ => rfl, fun z2 => absurd z z2⟩
      · exact key _ ⟨fun z2 => absurd z2 z, fun _ => rfl⟩
    · subst e
      refine k_writtenOn q1 q5 ?_
      refine m_isSheet e1 hn6 (fun _ _ => b1n ⟨fun e => absurd e (by decide), fun e => absurd e (by decide), fun e => absurd e (by decide), fun _ => ?_, fun _ _ _ e => absurd rfl e⟩) (fun z => absurd z (by omega))
      refine m_writtenOn q3 q5 ⟨bitsN_cong (fun k hk => ?_), h⟩
      rw [(r4 k hk).2.2.2.1]
    · exact m_isSheet e1 hn6 (fun _ _ => b1n ⟨fun e => absurd e z0, fun e => absurd e z1, fun e => absurd e z2, fun e => absurd e z3, fun _ _ _ _ => m_ref0 ⟨rfl, R_bad h⟩⟩) (fun z => absurd z (by omega))
  · exact m_isSheet e1 hn6 (fun a1 a2 => absurd a (by omega)) (fun _ => b0n (m_ref0 ⟨rfl, R_bad h⟩))
theorem k_atLeast {p : St} {s : Nat} {q : Int32} (hs : s < 6) {Post : Int32 → Prop} (h : Post (bitsN (fun c => decide (¬ p.A 0 (4 + 14 * s + c) < q)) 12)) : wpX4_dentedAtLeast (nI s) q p Post := by
  refine for_rule (F := fun self x => wlX4_dentedAtLeast_5 p Post _ self x.1 x.2.1 x.2.2.1 x.2.2.2) 12 (fun i => (nI s, q, bitsN (fun c => decide (¬ p.A 0 (4 + 14 * s + c) < q)) i, nI i)) ?_ ?_
  · intro self i hi hself
    show wlX4_dentedAtLeast_5 p Post _ self (nI s) q (bitsN _ i) (nI i)
    unfold wlX4_dentedAtLeast_5
    refine ⟨fun z => absurd z (nI_ge (b := 12) hi (by decide)), fun _ => k_dentOf hs hi ⟨fun hlt z ez => ?_, fun hge y ey z ez => ?_⟩⟩
    · subst ez
      rw [nI_1]
      unfold bitsN at hself
      rw [if_neg (by simpa using hlt)] at hself
      exact hself
    · subst ez; subst ey
      rw [nI_1]
      unfold bitsN at hself
      rw [if_pos (by simpa using hge)] at hself
      exact hself
  · intro self
    dsimp only
    unfold wlX4_dentedAtLeast_5
    exact ⟨fun _ => h, fun z => absurd (nI_le (a := 12) (b := 12) (by decide) (by decide)) z⟩
theorem m_shown {x : St} {s : Nat} {q : Int32} (hs : s < 6) {Post : Int32 → St → Prop} {KX : Int32 → St → Prop} (h : KX (bitsN (fun c => decide (¬ x.A 4 (12 + 12 * s + c) < q)) 12) x) : ∃ n, wLX12_shown_30 Post KX n (nI s, q, 0, 0, x) := by
  refine for_rule (F := fun self z => wlX12_shown_30 Post KX self z.1 z.2.1 z.2.2.1 z.2.2.2.1 z.2.2.2.2) 12 (fun i => (nI s, q, bitsN (fun c => decide (¬ x.A 4 (12 + 12 * s + c) < q)) i, nI i, x)) ?_ ?_
  · intro self i hi hself
    show wlX12_shown_30 Post KX self (nI s) q (bitsN _ i) (nI i) x
    unfold wlX12_shown_30
    refine ⟨fun z => absurd z (nI_ge (b := 12) hi (by decide)), fun _ => m_dentOf hs hi ⟨fun hlt y ey z ez => ?_, fun hge y ey z ez => ?_⟩⟩
    · subst ez; subst ey
      rw [nI_1, or_0]
      unfold bitsN at hself
      rw [if_neg (by simpa using hlt)] at hself
      exact hself
    · subst ez; subst ey
      rw [nI_1]
      unfold bitsN at hself
      rw [if_pos (by simpa using hge)] at hself
      exact hself
  · intro self
    dsimp only
    unfold wlX12_shown_30
    exact ⟨fun _ => h, fun z => absurd (nI_le (a := 12) (b := 12) (by decide) (by decide)) z⟩
theorem s_shown {t : Nat → St} {x : St} (h : Rel t x) (x1 x2 : Int32) : SimI (wpX11_shown x1 x2 t) (wpX12_shown x1 x2 x) := by
  obtain ⟨n, w, u, e1, e2, e3, hc, g⟩ := h.1.got
  have hn6 := g.2.1
  obtain ⟨⟨r1, r2, r3, r4⟩, hw⟩ := g.cur
  unfold SimI wpX11_shown wpX12_shown wjX11_shown_22 wjX12_shown_20 wpX12_bad
  refine k_hasSheet g.2.2.1 hn6 (fun a b => b1e ?_) (fun a => b0e (k_bad ?_))
  · obtain ⟨s, es, hs, _⟩ := toNI a
    subst es
    refine v_le 1 9 (by decide) (by decide) (fun c => k_bad ?_) (fun c d => ?_)
    · refine m_isSheet e1 hn6 (fun _ _ => b1e ?_) (fun z => absurd z (by omega))
      exact in_rule 1 9 (by decide) (by decide) (fun c1 c2 => absurd c (by omega)) (fun _ => b0n (m_ref0 ⟨rfl, R_bad h⟩))
    · refine k_atLeast (by omega) ?_
      refine m_isSheet e1 hn6 (fun _ _ => b1e ?_) (fun z => absurd z (by omega))
      refine in_rule 1 9 (by decide) (by decide) (fun _ _ => b1n ?_) (fun z => absurd z (by omega))
      refine m_shown (by omega) ⟨bitsN_cong (fun k hk => ?_), h⟩
      rw [(r3 s (by omega)).2.2 k hk]
  · exact m_isSheet e1 hn6 (fun a1 a2 => absurd a (by omega)) (fun _ => b0e (m_ref0 ⟨rfl, R_bad h⟩))
