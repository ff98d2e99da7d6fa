/-- what of the model the other parts look at -/
theorem R_rest {t t' : Nat → St} {x x' : St} (h : Rel t x) (h0 : t' 0 = t 0) (h4 : t' 4 = t 4) (h5 : t' 5 = t 5) (h8 : t' 8 = t 8) (hL : ∀ k, x'.L k = x.L k) (h11 : x'.I 11 = x.I 11) (a9 : x'.A 9 = x.A 9) (a10 : x'.A 10 = x.A 10) (a27 : x'.A 27 = x.A 27) (a28 : x'.A 28 = x.A 28) (hN : NowR (t' 2) x') : Rel t' x' := by
  obtain ⟨-, hO, hT, hM⟩ := h
  refine ⟨hN, ?_, ?_, ?_⟩
  · unfold ObjR at hO ⊢
    rw [h0, hL, hL, a9]; exact hO
  · unfold TxtR at hT ⊢
    rw [h8, h11, a10]; exact hT
  · unfold ImsR at hM ⊢
    rw [h0, h4, h5, a27, a28]; exact hM
theorem m_undoL {x : St} {v : Nat} (ev : x.I 6 = nI v) (hv : v < 8) {Post : Int32 → St → Prop} {KX : St → Prop} (h : ∀ x' : St, (∀ k, x'.I k = x.I k) → (∀ k, x'.L k = x.L k) → (∀ k, k ≠ 4 → x'.A k = x.A k) → (∀ i, i < 126 → x'.A 4 i = x.A 5 (126 * v + i)) → KX x') : ∃ n, wLX12_undo_27 Post KX n (0, x) := by
  refine it_rule (F := fun self z => wlX12_undo_27 Post KX self z.1 z.2) (fun z => ∃ (j : Nat) (y : St), z = (nI j, y) ∧ j ≤ 126 ∧ (∀ k, y.I k = x.I k) ∧ (∀ k, y.L k = x.L k) ∧ (∀ k, k ≠ 4 → y.A k = x.A k) ∧ ∀ i, i < j → y.A 4 i = x.A 5 (126 * v + i)) (fun z => 126 - z.1.toNatClampNeg) ?_ _ ⟨0, x, rfl, by omega, fun _ => rfl, fun _ => rfl, fun _ _ => rfl, fun i hi => absurd hi (Nat.not_lt_zero i)⟩
  rintro self z ⟨j, y, rfl, hj, a1, a2, a3, a4⟩ hself
  dsimp only at hself ⊢
  unfold wlX12_undo_27
  have e : (126 : Int32) * y.I 6 + nI j = nI (126 * v + j) := by
    rw [a1, ev]
    show nI 126 * nI v + nI j = _
    rw [pk_mul, nI_add]
  refine pk_le 126 j (fun hle => ?_) (fun hlt => ?_)
  · have e126 : j = 126 := by omega
    subst e126
    exact h y a1 a2 a3 a4
  · rw [e]
    refine ⟨vp_in_nI (by omega) (by omega), vp_in_nI (by omega) (by omega), fun y' ey z ez => ?_⟩
    rw [ncl (by omega), ncl (by omega)] at ey
    subst ey; subst ez
    rw [nI_1]
    refine hself _ ⟨j + 1, _, rfl, by omega, a1, a2, fun k hk => ?_, fun i hi => ?_⟩ (by dsimp only; rw [ncl (by omega), ncl (by omega)]; omega)
    · rw [sA_A, if_neg hk]; exact a3 k hk
    · show upd (y.A 4) j (y.A 5 (126 * v + j)) i = _
      unfold upd
      by_cases hij : i = j
      · rw [if_pos hij, a3 5 (by decide), hij]
      · rw [if_neg hij]; exact a4 i (by omega)
theorem PadN_pop {p p' : St} {st ah wo st' : Nat → Int32} {n w v : Nat} (hI : ∀ k, k ≠ 2 → p'.I k = p.I k) (h2 : p'.I 2 = nI v) (hA : ∀ k, k ≠ 0 → p'.A k = p.A k) (h0 : ∀ i, i < 86 → p'.A 0 i = p.A 1 (86 * v + i)) (hs : ∀ k, k < 126 → st' k = ah (126 * v + k)) (h : PadN p st ah wo n w (v + 1)) : PadN p' st' ah wo n w v := by
  obtain ⟨g1, g2, g3, g4, g5, g6, g7, g8, g9, g10⟩ := h
  have hst : ∀ j, j ≤ v → (∀ k, k < 126 → stk st' ah v j k = stk st ah (v + 1) j k) ∧ ∀ k, k < 86 → pgk p' v j k = pgk p (v + 1) j k := by
    intro j hj
    by_cases hjv : j = v
    · refine ⟨fun k hk => ?_, fun k hk => ?_⟩
      · unfold stk; rw [if_pos hjv, if_neg (by omega), hs k hk, hjv]
      · unfold pgk; rw [if_pos hjv, if_neg (by omega), h0 k hk, hjv]
    · refine ⟨fun k hk => ?_, fun k hk => ?_⟩
      · unfold stk; rw [if_neg hjv, if_neg (by omega)]
      · unfold pgk; rw [if_neg hjv, if_neg (by omega), hA 1 (by decide)]
  refine ⟨g1, g2, by rw [hI 3 (by decide)]; exact g3, g4, by rw [hI 11 (by decide)]; exact g5, by omega, h2, fun i hi => by rw [hA 10 (by decide)]; exact g8 i hi, fun j hj => ?_, fun i j hij hj => ?_⟩
  · obtain ⟨r, wf⟩ := g9 j (by omega)
    exact ⟨RP_c (hst j hj).2 (hst j hj).1 wf.2.2.2.1 (fun k hk => by rw [hA 5 (by decide), hA 6 (by decide), hA 7 (by decide), hA 8 (by decide), hA 9 (by decide)]; exact ⟨rfl, rfl, rfl, rfl, fun _ _ => rfl⟩) r, WF_c g2 (hst j hj).1 wf⟩
  · rw [mN_c (hst i (by omega)).1, mN_c (hst j hj).1]
    exact g10 i j hij (by omega)
theorem s_undo {t : Nat → St} {x : St} (h : Rel t x) : SimI (wpX11_undo t) (wpX12_undo x) := by
  obtain ⟨n, w, u, e1, e2, e3, hc, g⟩ := h.1.got
  have hu8 := g.2.2.2.2.2.1
  have e2' := g.2.2.2.2.2.2.1
  unfold SimI wpX11_undo wpX12_undo
  rw [e2', e3]
  refine pk_lt 0 u (fun hlt => ?_) (fun hge => k_no ?_)
  · obtain ⟨v, rfl⟩ : ∃ v, u = v + 1 := ⟨u - 1, by omega⟩
    unfold wpX4_goBack
    rw [e2']
    refine ⟨fun q => absurd q (nI_nle (by omega) (by omega)), fun _ p1 ep1 => ?_⟩
    rw [nI_pred] at ep1
    have ei2 : p1.I 2 = nI v := by rw [ep1]; rfl
    have e86 : p1.I 2 * (86 : Int32) = nI (86 * v) := by
      rw [ei2]
      show nI v * nI 86 = _
      rw [pk_mul]; congr 1; omega
    rw [e86, ncl (by omega)]
    refine ⟨nI_pos (by omega), by omega, fun p2 ep2 t2 et2 => k_noteCount ?_⟩
    refine ⟨fun _ x1 ex1 => ?_, fun e => absurd ((nI_eq (b := 0) (by omega) (by decide)).mp e) (by omega)⟩
    rw [nI_pred] at ex1
    have ev : x1.I 6 = nI v := by rw [ex1]; rfl
    refine m_undoL ev (by omega) (fun x' a1 a2 a3 a4 => ?_)
    subst et2
    have hI : ∀ k, k ≠ 2 → p2.I k = (t 2).I k := fun k hk => by rw [ep2, sA_I, ep1, sI_I, if_neg hk]
    have h2 : p2.I 2 = nI v := by rw [ep2, sA_I]; exact ei2
    have hA : ∀ k, k ≠ 0 → p2.A k = (t 2).A k := fun k hk => by rw [ep2, sA_A, if_neg hk, ep1, sI_A]
    have h0 : ∀ i, i < 86 → p2.A 0 i = (t 2).A 1 (86 * v + i) := fun i hi => by
      rw [ep2, sA_A, if_pos rfl, pk_cpy_in (by omega) (by omega), ep1, sI_A, show i - 0 = i by omega]
    have hx1A : ∀ k, x1.A k = x.A k := fun k => by rw [ex1]; rfl
    have hs : ∀ k, k < 126 → x'.A 4 k = x.A 5 (126 * v + k) := fun k hk => by rw [a4 k hk, hx1A]
    have hP := PadN_pop hI h2 hA h0 hs g
    have hx'A : ∀ k, k ≠ 4 → x'.A k = x.A k := fun k hk => by rw [a3 k hk, hx1A]
    have hx'I : ∀ k, k ≠ 6 → x'.I k = x.I k := fun k hk => by rw [a1 k, ex1, sI_I, if_neg hk]
    have hnum := hP.nums
    refine ⟨?_, R_rest h rfl rfl rfl rfl (fun k => by rw [a2 k, ex1]; rfl) (hx'I 11 (by decide)) (hx'A 9 (by decide)) (hx'A 10 (by decide)) (hx'A 27 (by decide)) (hx'A 28 (by decide)) ?_⟩
    · show p2.A 0 1 = x'.A 4 124
      rw [hnum.2.1, hnum.2.2.2.1]
    · show NowR p2 x'
      refine ⟨by rw [hI 4 (by decide), hx'I 1 (by decide)]; exact hc, n, w, v, by rw [hx'I 0 (by decide)]; exact e1, by rw [hx'I 3 (by decide)]; exact e2, by rw [a1 6]; exact ev, ?_⟩
      rw [hx'A 5 (by decide), hx'A 2 (by decide)]
      exact hP
  · have e0 : u = 0 := by omega
    subst e0
    exact ⟨fun q => absurd rfl q, fun _ => m_ref1 ⟨rfl, R_no h⟩⟩
/-! images -/
theorem k_copyFrom {p q : St} {u : Nat} (eu : q.I 2 = nI u) (hu : u ≤ 8) {Post : St → Prop} (h : ∀ p' : St, p'.I 3 = q.I 3 → p'.I 4 = q.I 4 → p'.I 2 = q.I 2 → p'.I 11 = q.I 11 → (∀ i, i < 86 → p'.A 0 i = q.A 0 i) → (∀ i, i < 86 * u → p'.A 1 i = q.A 1 i) → (∀ k, k < 10 → p'.A 5 k = q.A 5 k ∧ p'.A 6 k = q.A 6 k ∧ p'.A 7 k = q.A 7 k ∧ p'.A 8 k = q.A 8 k) → (∀ k, k < 60 → p'.A 9 k = q.A 9 k) → (∀ k, k < 8 → p'.A 10 k = q.A 10 k) → Post p') : wpX4_copyFrom p q Post := by
  intro p1 e1 p2 e2 p3 e3 p4 e4 p5 e5
  have i2 : p5.I 2 = q.I 2 := by rw [e5, e4, e3]; rfl
  have e86 : p5.I 2 * 86 = nI (86 * u) := by
    rw [i2, eu]
    show nI u * nI 86 = _
    rw [pk_mul]; congr 1; omega
  rw [e86, ncl (by omega)]
  refine ⟨nI_pos (by omega), by omega, by omega, fun p6 e6 p7 e7 p8 e8 p9 e9 p10 e10 p11 e11 p12 e12 => ?_⟩
  refine h p12 ?_ ?_ ?_ ?_ (fun i hi => ?_) (fun i hi => ?_) (fun k hk => ⟨?_, ?_, ?_, ?_⟩) (fun k hk => ?_) (fun k hk => ?_)
  · rw [e12, e11, e10, e9, e8, e7, e6, e5, e4, e3, e2, e1]; rfl
  · rw [e12, e11, e10, e9, e8, e7, e6, e5, e4, e3, e2]; rfl
  · rw [e12, e11, e10, e9, e8, e7, e6]; exact i2
  · rw [e12, e11, e10, e9, e8, e7, e6, e5, e4]; rfl
  · have : p12.A 0 = va_cpy (q.A 0) (p4.A 0) 0 0 86 := by rw [e12, e11, e10, e9, e8, e7, e6, e5]; rfl
    rw [this, pk_cpy_in (by omega) (by omega), show 0 + (i - 0) = i by omega]
  · have : p12.A 1 = va_cpy (q.A 1) (p5.A 1) 0 0 (86 * u) := by rw [e12, e11, e10, e9, e8, e7, e6]; rfl
    rw [this, pk_cpy_in (by omega) (by omega), show 0 + (i - 0) = i by omega]
  · have : p12.A 5 = va_cpy (q.A 5) (p6.A 5) 0 0 10 := by rw [e12, e11, e10, e9, e8, e7]; rfl
    rw [this, pk_cpy_in (by omega) (by omega), show 0 + (k - 0) = k by omega]
  · have : p12.A 6 = va_cpy (q.A 6) (p7.A 6) 0 0 10 := by rw [e12, e11, e10, e9, e8]; rfl
    rw [this, pk_cpy_in (by omega) (by omega), show 0 + (k - 0) = k by omega]
  · have : p12.A 7 = va_cpy (q.A 7) (p8.A 7) 0 0 10 := by rw [e12, e11, e10, e9]; rfl
    rw [this, pk_cpy_in (by omega) (by omega), show 0 + (k - 0) = k by omega]
  · have : p12.A 8 = va_cpy (q.A 8) (p9.A 8) 0 0 10 := by rw [e12, e11, e10]; rfl
    rw [this, pk_cpy_in (by omega) (by omega), show 0 + (k - 0) = k by omega]
  · have : p12.A 9 = va_cpy (q.A 9) (p10.A 9) 0 0 60 := by rw [e12, e11]; rfl
    rw [this, pk_cpy_in (by omega) (by omega), show 0 + (k - 0) = k by omega]
  · have : p12.A 10 = va_cpy (q.A 10) (p11.A 10) 0 0 8 := by rw [e12]; rfl
    rw [this, pk_cpy_in (by omega) (by omega), show 0 + (k - 0) = k by omega]
