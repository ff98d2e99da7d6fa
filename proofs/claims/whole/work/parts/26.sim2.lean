theorem NowR.got {p x : St} (h : NowR p x) : ∃ n w u : Nat, x.I 0 = nI n ∧ x.I 3 = nI w ∧ x.I 6 = nI u ∧ p.I 4 = x.I 1 ∧ PadN p (x.A 4) (x.A 5) (x.A 2) n w u := by
  obtain ⟨hc, n, w, u, e1, e2, e3, g⟩ := h
  exact ⟨n, w, u, e1, e2, e3, hc, g⟩
/-- the numbers of the pad as it is -/
theorem PadN.nums {p : St} {st ah wo : Nat → Int32} {n w u : Nat} (h : PadN p st ah wo n w u) : p.A 0 0 = nI (tN st) ∧ p.A 0 1 = nI (mN st) ∧ st 125 = nI (tN st) ∧ st 124 = nI (mN st) ∧ tN st ≤ n ∧ mN st ≤ 10 := by
  obtain ⟨⟨r1, r2, -, -⟩, ⟨w1, w2, w3, w4, -, -⟩⟩ := h.cur
  exact ⟨r1.trans w1, r2.trans w3, w1, w3, w2, w4⟩
theorem s_dent {t : Nat → St} {x : St} (h : Rel t x) (x1 x2 : Int32) : SimI (wpX11_dent x1 x2 t) (wpX12_dent x1 x2 x) := by
  unfold SimI wpX11_dent wpX12_dent wjX11_dent_21 wjX12_dent_29 wpX12_bad
  obtain ⟨n, w, u, e1, e2, e3, hc, g⟩ := h.1.got
  have hn6 := g.2.1
  have hI := g.2.2.1
  obtain ⟨⟨r1, r2, r3, r4⟩, hw⟩ := g.cur
  refine k_hasSheet hI hn6 (fun a b => b1e ?_) (fun a => b0e (k_bad ?_))
  · refine v_lt 0 12 (by decide) (by decide) (fun c => k_bad ?_) (fun c d => ?_)
    · refine m_isSheet e1 hn6 (fun _ _ => b1e ?_) (fun a2 => absurd a2 (by omega))
      exact in_rule 0 11 (by decide) (by decide) (fun c1 c2 => absurd c (by omega)) (fun _ => b0e (m_ref0 ⟨rfl, R_bad h⟩))
    · obtain ⟨s, es, hs, _⟩ := toNI a
      obtain ⟨k, ek, hk, _⟩ := toNI c
      subst es; subst ek
      refine k_dentOf (by omega) (by omega) ?_
      refine m_isSheet e1 hn6 (fun _ _ => b1e ?_) (fun a2 => absurd a2 (by omega))
      refine in_rule 0 11 (by decide) (by decide) (fun c1 c2 => b1e ?_) (fun c1 => absurd c1 (by omega))
      refine m_dentOf (by omega) (by omega) ⟨?_, h⟩
      exact (r3 s (by omega)).2.2 k (by omega)
  · exact m_isSheet e1 hn6 (fun a1 a2 => absurd a (by omega)) (fun _ => b0e (m_ref0 ⟨rfl, R_bad h⟩))
theorem s_force {t : Nat → St} {x : St} (h : Rel t x) (x1 x2 x3 : Int32) : SimI (wpX11_force x1 x2 x3 t) (wpX12_force x1 x2 x3 x) := by
  unfold SimI wpX11_force wpX12_force wjX11_force_15 wjX12_force_29 wpX12_bad wpX5_forceOf
  refine k_isPen (fun a b c d => b1e ?_) (fun a => b0e (k_bad ?_))
  · refine k_isDepth (fun e f => b1n ?_) (fun e => b0n (k_bad ?_))
    · refine m_isPen (fun _ _ _ _ => b1e ?_) (fun z => absurd ⟨a, b, c, d⟩ z)
      refine in_rule 0 5 (by decide) (by decide) (fun _ _ => b1e ?_) (fun z => absurd z (by omega))
      obtain ⟨k, ek, hk, _⟩ := toNI a
      subst ek
      exact m_force (by omega) ⟨rfl, h⟩
    · refine m_isPen (fun _ _ _ _ => b1e ?_) (fun z => absurd ⟨a, b, c, d⟩ z)
      exact in_rule 0 5 (by decide) (by decide) (fun _ _ => absurd e (by omega)) (fun z => b0e (m_ref0 ⟨rfl, R_bad h⟩))
  · exact m_isPen (fun a1 a2 a3 a4 => absurd ⟨a1, a2, a3, a4⟩ a) (fun z => b0e (m_ref0 ⟨rfl, R_bad h⟩))
theorem s_carbons {t : Nat → St} {x : St} (h : Rel t x) (x1 : Int32) : SimI (wpX11_carbons x1 t) (wpX12_carbons x1 x) := by
  unfold SimI wpX11_carbons wpX12_carbons wpX12_bad
  obtain ⟨n, w, u, e1, e2, e3, hc, g⟩ := h.1.got
  refine k_hasSheets g.2.2.1 g.2.1 (fun a b => b1n ?_) (fun a => b0n (k_bad ?_))
  · intro r er t2 et
    refine m_inSheets e1 g.2.1 (fun _ _ => b1n ?_) (fun a2 => absurd a2 (by omega))
    intro r' er' x2 ex
    subst et; subst ex
    exact ⟨by rw [er, er', hc], ⟨rfl, n, w, u, e1, e2, e3, g⟩, h.2⟩
  · exact m_inSheets e1 g.2.1 (fun a1 a2 => absurd a (by omega)) (fun _ => b0n (m_ref0 ⟨rfl, R_bad h⟩))
theorem s_word {t : Nat → St} {x : St} (h : Rel t x) (x1 : Int32) : SimI (wpX11_word x1 t) (wpX12_word x1 x) := by
  unfold SimI wpX11_word wpX12_word wpX12_bad
  obtain ⟨n, w, u, e1, e2, e3, hc, g⟩ := h.1.got
  have g0 := g
  obtain ⟨g1, g2, g3, g4, g5, g6, g7, g8, g9, g10⟩ := g
  refine k_isCells (fun a b => b1n ?_) (fun a => b0n (k_bad ?_))
  · rw [g5]
    refine pk_lt w 8 (fun hw => ?_) (fun hw => k_full ?_)
    · refine ⟨pk_in w 8 hw, fun t3 e3' t4 e4 => ?_⟩
      rw [ncl (by omega)] at e3'
      refine in_rule 0 4095 (by decide) (by decide) (fun _ _ => b1n ?_) (fun z => absurd z (by omega))
      rw [e2]
      refine ⟨fun _ => ⟨pk_in w 8 hw, fun p2 e5 p3 e6 => ?_⟩, fun e => absurd ((nI_eq (by omega) (by omega)).mp (show nI w = nI 8 from e)) (by omega)⟩
      rw [ncl (by omega)] at e5
      subst e3'; subst e4; subst e5; subst e6
      have z1 : (t 2).I 11 + 1 = nI (w + 1) := by rw [g5]; exact nI_1 w
      have z2 : x.I 3 + 1 = nI (w + 1) := by rw [e2]; exact nI_1 w
      obtain ⟨j, ej, hj, _⟩ := toNI a
      refine ⟨?_, ⟨hc, n, w + 1, u, e1, z2, e3, g1, g2, g3, by omega, z1, g6, g7, fun i hi => ?_, g9, g10⟩, h.2⟩
      · show (t 2).I 11 + 1 - 1 = x.I 3 + 1 - 1
        rw [z1, z2]
      · show upd ((t 2).A 10) w x1 i = upd (x.A 2) w x1 i ∧ ∃ c, c < 4096 ∧ upd (x.A 2) w x1 i = nI c
        unfold upd
        by_cases hiw : i = w
        · rw [if_pos hiw, if_pos hiw]
          exact ⟨rfl, j, by omega, ej⟩
        · rw [if_neg hiw, if_neg hiw]
          exact g8 i (by omega)
    · refine in_rule 0 4095 (by decide) (by decide) (fun _ _ => b1n ?_) (fun z => absurd z (by omega))
      have e9 : w = 8 := by omega
      subst e9
      exact ⟨fun e => absurd e2 e, fun _ => m_ref2 ⟨rfl, R_full h⟩⟩
  · exact in_rule 0 4095 (by decide) (by decide) (fun a1 a2 => absurd a (by omega)) (fun _ => b0n (m_ref0 ⟨rfl, R_bad h⟩))
theorem k_top {p : St} {Post : Int32 → Prop} (h : Post (p.A 0 0)) : wpX4_top p Post := h
theorem k_noteCount {p : St} {Post : Int32 → Prop} (h : Post (p.A 0 1)) : wpX4_noteCount p Post := h
theorem s_count {t : Nat → St} {x : St} (h : Rel t x) (x1 : Int32) : SimI (wpX11_count x1 t) (wpX12_count x1 x) := by
  unfold SimI wpX11_count wpX12_count wjX11_count_10 wpX12_bad
  obtain ⟨n, w, u, e1, e2, e3, hc, g⟩ := h.1.got
  obtain ⟨b, hb, r1, r2, hk⟩ := h.2.2.1
  obtain ⟨q0, q1, q2, q3, -, -⟩ := g.nums
  refine v_le 0 6 (by decide) (by decide) (fun a => k_bad ?_) (fun a b => ?_)
  · exact in_rule 0 6 (by decide) (by decide) (fun a1 a2 => absurd a (by omega)) (fun _ => b0e (m_ref0 ⟨rfl, R_bad h⟩))
  · obtain ⟨j, ej, hj, _⟩ := toNI a
    have key : ∀ r : Int32, wpX12_countOf x1 x (fun r4 => r = r4 ∧ Rel t x) → wpX12_in x1.toInt64 0 6 (fun (r1 : Int32) => ((r1 = 0) → wpX12_refuse 0 (-2) x (fun (r1 : Int32) (p2 : St) => r = r1 ∧ Rel t p2)) ∧ ((¬ r1 = 0) → wpX12_countOf x1 x (fun (r4 : Int32) => r = r4 ∧ Rel t x))) := fun r hr => in_rule 0 6 (by decide) (by decide) (fun _ _ => b1e hr) (fun z => absurd z (by omega))
    rcases (show j = 0 ∨ j = 1 ∨ j = 2 ∨ j = 3 ∨ j = 4 ∨ j = 5 ∨ j = 6 by omega) with rfl | rfl | rfl | rfl | rfl | rfl | rfl <;> subst ej
    · exact ⟨fun _ => key _ ⟨fun z => absurd rfl z, fun _ => ⟨by rw [g.2.2.1, e1], h⟩⟩, fun e => absurd e (by decide), fun e => absurd e (by decide), fun e => absurd e (by decide), fun e => absurd e (by decide), fun e => absurd e (by decide), fun e => absurd rfl e⟩
    · exact ⟨fun e => absurd e (by decide), fun _ => key _ ⟨fun _ => ⟨fun z => absurd rfl z, fun _ => ⟨by rw [q0, q2], h⟩⟩, fun e => absurd e (by decide)⟩, fun e => absurd e (by decide), fun e => absurd e (by decide), fun e => absurd e (by decide), fun e => absurd e (by decide), fun _ e => absurd rfl e⟩
    · exact ⟨fun e => absurd e (by decide), fun e => absurd e (by decide), fun _ => key _ ⟨fun _ => ⟨fun _ => ⟨fun z => absurd rfl z, fun _ => ⟨by rw [q1, q3], h⟩⟩, fun e => absurd e (by decide)⟩, fun e => absurd e (by decide)⟩, fun e => absurd e (by decide), fun e => absurd e (by decide), fun e => absurd e (by decide), fun _ _ e => absurd rfl e⟩
    · exact ⟨fun e => absurd e (by decide), fun e => absurd e (by decide), fun e => absurd e (by decide), fun _ => key _ ⟨fun _ => ⟨fun _ => ⟨fun _ => ⟨fun z => absurd rfl z, fun _ => ⟨by rw [g.2.2.2.2.1, e2], h⟩⟩, fun e => absurd e (by decide)⟩, fun e => absurd e (by decide)⟩, fun e => absurd e (by decide)⟩, fun e => absurd e (by decide), fun e => absurd e (by decide), fun _ _ _ e => absurd rfl e⟩
    · exact ⟨fun e => absurd e (by decide), fun e => absurd e (by decide), fun e => absurd e (by decide), fun e => absurd e (by decide), fun _ => key _ ⟨fun _ => ⟨fun _ => ⟨fun _ => ⟨fun _ => ⟨fun z => absurd rfl z, fun _ => ⟨hc, h⟩⟩, fun e => absurd e (by decide)⟩, fun e => absurd e (by decide)⟩, fun e => absurd e (by decide)⟩, fun e => absurd e (by decide)⟩, fun e => absurd e (by decide), fun _ _ _ _ e => absurd rfl e⟩
    · exact ⟨fun e => absurd e (by decide), fun e => absurd e (by decide), fun e => absurd e (by decide), fun e => absurd e (by decide), fun e => absurd e (by decide), fun _ => key _ ⟨fun _ => ⟨fun _ => ⟨fun _ => ⟨fun _ => ⟨fun _ => ⟨fun z => absurd rfl z, fun _ => ⟨by rw [g.2.2.2.2.2.2.1, e3], h⟩⟩, fun e => absurd e (by decide)⟩, fun e => absurd e (by decide)⟩, fun e => absurd e (by decide)⟩, fun e => absurd e (by decide)⟩, fun e => absurd e (by decide)⟩, fun _ _ _ _ _ e => absurd rfl e⟩
    · exact ⟨fun e => absurd e (by decide), fun e => absurd e (by decide), fun e => absurd e (by decide), fun e => absurd e (by decide), fun e => absurd e (by decide), fun e => absurd e (by decide), fun _ _ _ _ _ _ => key _ ⟨fun _ => ⟨fun _ => ⟨fun _ => ⟨fun _ => ⟨fun _ => ⟨fun _ => ⟨by rw [r1, r2], h⟩, fun e => absurd e (by decide)⟩, fun e => absurd e (by decide)⟩, fun e => absurd e (by decide)⟩, fun e => absurd e (by decide)⟩, fun e => absurd e (by decide)⟩, fun e => absurd e (by decide)⟩⟩
