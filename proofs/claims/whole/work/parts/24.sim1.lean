theorem s_forget {t : Nat → St} {x : St} (h : Rel t x) : SimI (wpX11_forget t) (wpX12_forget x) := by
  obtain ⟨⟨hc, n, w, u, e1, e2, e3, g1, g2, g3, g4, g5, g6, g7, g8, g9, g10⟩, ho, ht, hi⟩ := h
  intro r1 er t2 et r2 er2 x2 ex
  subst et; subst ex
  refine ⟨by rw [er, er2, e2]; exact g5, ⟨hc, n, 0, u, e1, rfl, e3, g1, g2, g3, by omega, rfl, g6, g7, fun i hi => absurd hi (Nat.not_lt_zero i), g9, g10⟩, ho, ht, hi⟩
theorem s_clear {t : Nat → St} {x : St} (h : Rel t x) : SimI (wpX11_clear t) (wpX12_clear x) := by
  obtain ⟨hn, ho, ⟨b, hb, e1, e2, hk⟩, hi⟩ := h
  intro r1 er t2 et r2 er2 x2 ex
  subst et; subst ex
  exact ⟨by rw [er, er2, e1, e2], hn, ho, ⟨0, by omega, rfl, rfl, fun k hk => absurd hk (Nat.not_lt_zero k)⟩, hi⟩
theorem s_type {t : Nat → St} {x : St} (h : Rel t x) (x1 : Int32) : SimI (wpX11_type x1 t) (wpX12_type x1 x) := by
  by_cases hv : 0 ≤ x1.toInt ∧ x1.toInt ≤ 127
  · obtain ⟨j, ej, hj, _⟩ := toNI hv.1
    refine v_le 0 127 (by decide) (by decide) (fun hb => absurd hv (by omega)) (fun _ _ => ?_)
    obtain ⟨hn, ho, ⟨b, hb, e1, e2, hk⟩, hi⟩ := id h
    rw [e1]
    refine pk_lt b 150 (fun hb2 => ?_) (fun hb2 => k_full ?_)
    · refine ⟨pk_in b 150 hb2, fun t3 e3 t4 e4 => ?_⟩
      rw [ncl (by omega)] at e3
      refine in_rule 0 127 (by decide) (by decide) (fun _ _ => b1n ?_) (fun hb => absurd hv (by omega))
      rw [e2]
      refine ⟨fun _ => ⟨pk_in b 150 hb2, fun p2 e5 p3 e6 => ?_⟩, fun e => absurd ((nI_eq (by omega) (by omega)).mp (show nI b = nI 150 from e)) (by omega)⟩
      rw [ncl (by omega)] at e5
      subst e3; subst e4; subst e5; subst e6
      have z1 : ((upS t 8 ((t 8).sA 0 (upd ((t 8).A 0) b x1))) 8).I 1 + 1 = nI (b + 1) := by
        show (t 8).I 1 + 1 = _
        rw [e1]; exact nI_1 b
      have z2 : (x.sA 10 (upd (x.A 10) b x1)).I 11 + 1 = nI (b + 1) := by
        show x.I 11 + 1 = _
        rw [e2]; exact nI_1 b
      refine ⟨z1.trans z2.symm, hn, ho, ⟨b + 1, by omega, z1, z2, fun k hk2 => ?_⟩, hi⟩
      show upd ((t 8).A 0) b x1 k = upd (x.A 10) b x1 k ∧ ∃ c, c < 128 ∧ upd (x.A 10) b x1 k = nI c
      unfold upd
      by_cases hkb : k = b
      · rw [if_pos hkb, if_pos hkb]
        exact ⟨rfl, j, by omega, ej⟩
      · rw [if_neg hkb, if_neg hkb]
        exact hk k (by omega)
    · refine in_rule 0 127 (by decide) (by decide) (fun _ _ => b1n ?_) (fun hb => absurd hv (by omega))
      have e9 : b = 150 := by omega
      subst e9
      refine ⟨fun e => absurd e2 e, fun _ => m_ref2 ⟨rfl, R_full h⟩⟩
  · refine v_le 0 127 (by decide) (by decide) (fun _ => k_bad ?_) (fun h1 h2 => absurd ⟨h1, h2⟩ hv)
    exact in_rule 0 127 (by decide) (by decide) (fun h1 h2 => absurd ⟨h1, h2⟩ hv) (fun _ => b0n (m_ref0 ⟨rfl, R_bad h⟩))
theorem s_status {t : Nat → St} {x : St} (h : Rel t x) (x1 : Int32) : SimI (wpX11_status x1 t) (wpX12_status x1 x) := by
  obtain ⟨hn, ⟨o1, o2, o3, o4, o5⟩, ht, hi⟩ := id h
  refine ⟨fun e => ?_, fun e => ?_, fun e => ?_, fun n0 n1 n2 => ?_⟩
  · subst e
    exact in_rule (x := 0) 0 2 (by decide) (by decide) (fun _ _ => b1e ⟨vi_0_3', o3, h⟩) (fun hb => absurd hb (by decide))
  · subst e
    exact in_rule (x := 1) 0 2 (by decide) (by decide) (fun _ _ => b1e ⟨vi_1_3', o4, h⟩) (fun hb => absurd hb (by decide))
  · subst e
    exact in_rule (x := 2) 0 2 (by decide) (by decide) (fun _ _ => b1e ⟨vi_2_3', o5, h⟩) (fun hb => absurd hb (by decide))
  · refine k_bad (in_rule 0 2 (by decide) (by decide) (fun h1 h2 => ?_) (fun _ => b0e (m_ref0 ⟨rfl, R_bad h⟩)))
    obtain ⟨j, ej, hj, _⟩ := toNI h1
    rcases (show j = 0 ∨ j = 1 ∨ j = 2 by omega) with rfl | rfl | rfl
    · exact absurd ej n0
    · exact absurd ej n1
    · exact absurd ej n2
theorem s_part {t : Nat → St} {x : St} (h : Rel t x) (x1 : Int32) : SimL (wpX11_part x1 t) (wpX12_part x1 x) := by
  obtain ⟨hn, ⟨o1, o2, o3, o4, o5⟩, ht, hi⟩ := id h
  refine v_le 0 1 (by decide) (by decide) (fun hb => k_bad ?_) (fun h1 h2 => ?_)
  · refine ⟨fun n0 => ⟨fun n1 => m_ref0 ⟨rfl, R_bad h⟩, fun e => ?_⟩, fun e => ?_⟩
    · subst e; exact absurd hb (by decide)
    · subst e; exact absurd hb (by decide)
  · refine ⟨fun n0 => ?_, fun e0 => ?_⟩
    · obtain ⟨j, ej, hj, _⟩ := toNI h1
      rcases (show j = 0 ∨ j = 1 by omega) with rfl | rfl
      · exact absurd ej n0
      · exact ⟨fun _ => ⟨fun n1 => absurd ej n1, fun _ => ⟨o2, h⟩⟩, fun e => absurd e n0⟩
    · exact ⟨fun n0 => absurd e0 n0, fun _ => ⟨o1, h⟩⟩
