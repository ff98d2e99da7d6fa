def shU (u : Nat) : Nat := if u = 8 then 1 else 0
def upU (u : Nat) : Nat := if u = 8 then 8 else u + 1
theorem k_keep {p : St} {u : Nat} (eu : p.I 2 = nI u) (hu : u ≤ 8) {Post : St → Prop} (h : ∀ p' : St, (∀ k, k ≠ 2 → p'.I k = p.I k) → p'.I 2 = nI (upU u) → (∀ k, k ≠ 1 → p'.A k = p.A k) → (∀ j, j < upU u → ∀ i, i < 86 → p'.A 1 (86 * j + i) = pgk p u (j + shU u) i) → Post p') : wpX4_keepForUndo p Post := by
  have e86 : ∀ v : Nat, nI v * (86 : Int32) = nI (86 * v) := fun v => by
    show nI v * nI 86 = _
    rw [pk_mul]; congr 1; omega
  unfold wpX4_keepForUndo wjX4_keepForUndo_32
  rw [eu]
  refine pk_lt u 8 (fun hlt => ?_) (fun hge => ?_)
  · have s0 : shU u = 0 := by unfold shU; rw [if_neg (by omega)]
    have u0 : upU u = u + 1 := by unfold upU; rw [if_neg (by omega)]
    rw [e86, ncl (by omega)]
    refine ⟨nI_pos (by omega), by omega, fun p1 e1 p2 e2 => ?_⟩
    subst e1; subst e2
    refine h _ (fun k hk => by rw [sI_I, if_neg hk]; rfl) ?_ (fun k hk => by rw [sI_A, sA_A, if_neg hk]) (fun j hj i hi => ?_)
    · rw [sI_I, if_pos rfl, u0]
      show p.I 2 + 1 = _
      rw [eu]; exact nI_1 u
    · rw [u0] at hj
      show va_cpy (p.A 0) (p.A 1) 0 (86 * u) 86 (86 * j + i) = _
      rw [s0, Nat.add_zero]
      unfold pgk
      by_cases hju : j = u
      · subst hju
        rw [if_pos rfl, pk_cpy_in (by omega) (by omega)]
        congr 1; omega
      · rw [if_neg hju, pk_cpy_out (by omega)]
  · have e8 : u = 8 := by omega
    subst e8
    have s0 : shU 8 = 1 := rfl
    have u0 : upU 8 = 8 := rfl
    intro p3 e3 p4 e4
    subst e3; subst e4
    have e7 : ((p.sA 1 (va_cpy (p.A 1) (p.A 1) 86 0 602)).sI 2 7).I 2 * 86 = nI (86 * 7) := e86 7
    rw [e7, ncl (by omega)]
    refine ⟨nI_pos (by omega), by omega, fun p1 e1 p2 e2 => ?_⟩
    subst e1; subst e2
    refine h _ (fun k hk => ?_) rfl (fun k hk => ?_) (fun j hj i hi => ?_)
    · rw [sI_I, if_neg hk]
      show ((p.sA 1 _).sI 2 7).I k = _
      rw [sI_I, if_neg hk]; rfl
    · rw [sI_A, sA_A, if_neg hk, sI_A, sA_A, if_neg hk]
    · rw [u0] at hj
      show va_cpy (p.A 0) (va_cpy (p.A 1) (p.A 1) 86 0 602) 0 (86 * 7) 86 (86 * j + i) = _
      rw [s0]
      unfold pgk
      by_cases hj7 : j = 7
      · subst hj7
        rw [if_pos rfl, pk_cpy_in (by omega) (by omega), show 0 + (86 * 7 + i - 86 * 7) = i by omega]
      · rw [if_neg (by omega), pk_cpy_out (by omega), pk_cpy_in (by omega) (by omega), show 86 + (86 * j + i - 0) = 86 * (j + 1) + i by omega]
theorem m_noteL {x : St} {v : Nat} (ev : x.I 6 = nI v) (hv : v < 8) {Post : St → Prop} {KX : St → Prop} (h : ∀ x' : St, (∀ k, x'.I k = x.I k) → (∀ k, x'.L k = x.L k) → (∀ k, k ≠ 5 → x'.A k = x.A k) → (∀ i, x'.A 5 i = if 126 * v ≤ i ∧ i < 126 * v + 126 then x.A 4 (i - 126 * v) else x.A 5 i) → KX x') : ∃ n, wLX12_note_51 Post KX n (0, x) := by
  refine it_rule (F := fun self z => wlX12_note_51 Post KX self z.1 z.2) (fun z => ∃ (j : Nat) (y : St), z = (nI j, y) ∧ j ≤ 126 ∧ (∀ k, y.I k = x.I k) ∧ (∀ k, y.L k = x.L k) ∧ (∀ k, k ≠ 5 → y.A k = x.A k) ∧ ∀ i, y.A 5 i = if 126 * v ≤ i ∧ i < 126 * v + j then x.A 4 (i - 126 * v) else x.A 5 i) (fun z => 126 - z.1.toNatClampNeg) ?_ _ ⟨0, x, rfl, by omega, fun _ => rfl, fun _ => rfl, fun _ _ => rfl, fun i => by rw [if_neg (by omega)]⟩
  rintro self z ⟨j, y, rfl, hj, a1, a2, a3, a4⟩ hself
  dsimp only at hself ⊢
  unfold wlX12_note_51
  have e : (126 : Int32) * y.I 6 + nI j = nI (126 * v + j) := by
    rw [a1, ev]
    show nI 126 * nI v + nI j = _
    rw [pk_mul, nI_add]
  refine pk_le 126 j (fun hle => ?_) (fun hlt => ?_)
  · have e126 : j = 126 := by omega
    subst e126
    exact h y a1 a2 a3 a4
  · rw [e]
    refine ⟨vp_in_nI (by omega) (by omega), vp_in_nI (by omega) (by omega), fun y' ey z ez => ?_⟩
    rw [ncl (by omega), ncl (by omega)] at ey
    subst ey; subst ez
    rw [nI_1]
    refine hself _ ⟨j + 1, _, rfl, by omega, a1, a2, fun k hk => ?_, fun i => ?_⟩ (by dsimp only; rw [ncl (by omega), ncl (by omega)]; omega)
    · rw [sA_A, if_neg hk]; exact a3 k hk
    · show upd (y.A 5) (126 * v + j) (y.A 4 j) i = _
      unfold upd
      by_cases hi : i = 126 * v + j
      · rw [if_pos hi, if_pos (by omega), a3 4 (by decide), hi]
        congr 1; omega
      · rw [if_neg hi, a4 i]
        by_cases hr : 126 * v ≤ i ∧ i < 126 * v + j
        · rw [if_pos hr, if_pos (by omega)]
        · rw [if_neg hr, if_neg (by omega)]
theorem m_shiftL {x : St} {Post : St → Prop} {KX : St → Prop} (h : ∀ x' : St, (∀ k, x'.I k = x.I k) → (∀ k, x'.L k = x.L k) → (∀ k, k ≠ 5 → x'.A k = x.A k) → (∀ i, x'.A 5 i = if i < 882 then x.A 5 (i + 126) else x.A 5 i) → KX x') : ∃ n, wLX12_note_11 Post KX n (0, x) := by
  refine it_rule (F := fun self z => wlX12_note_11 Post KX self z.1 z.2) (fun z => ∃ (j : Nat) (y : St), z = (nI j, y) ∧ j ≤ 882 ∧ (∀ k, y.I k = x.I k) ∧ (∀ k, y.L k = x.L k) ∧ (∀ k, k ≠ 5 → y.A k = x.A k) ∧ ∀ i, y.A 5 i = if i < j then x.A 5 (i + 126) else x.A 5 i) (fun z => 882 - z.1.toNatClampNeg) ?_ _ ⟨0, x, rfl, by omega, fun _ => rfl, fun _ => rfl, fun _ _ => rfl, fun i => by rw [if_neg (by omega)]⟩
  rintro self z ⟨j, y, rfl, hj, a1, a2, a3, a4⟩ hself
  dsimp only at hself ⊢
  unfold wlX12_note_11
  have e : nI j + (126 : Int32) = nI (j + 126) := by
    show nI j + nI 126 = _
    rw [nI_add]
  refine pk_le 882 j (fun hle => ?_) (fun hlt => ?_)
  · have e882 : j = 882 := by omega
    subst e882
    exact h y a1 a2 a3 a4
  · rw [e]
    refine ⟨vp_in_nI (by omega) (by omega), vp_in_nI (by omega) (by omega), fun y' ey z ez => ?_⟩
    rw [ncl (by omega), ncl (by omega)] at ey
    subst ey; subst ez
    rw [nI_1]
    refine hself _ ⟨j + 1, _, rfl, by omega, a1, a2, fun k hk => ?_, fun i => ?_⟩ (by dsimp only; rw [ncl (by omega), ncl (by omega)]; omega)
    · rw [sA_A, if_neg hk]; exact a3 k hk
    · show upd (y.A 5) j (y.A 5 (j + 126)) i = _
      unfold upd
      by_cases hi : i = j
      · rw [if_pos hi, if_pos (by omega), a4 (j + 126), if_neg (by omega), hi]
      · rw [if_neg hi, a4 i]
        by_cases hr : i < j
        · rw [if_pos hr, if_pos (by omega)]
        · rw [if_neg hr, if_neg (by omega)]
theorem m_note {x : St} {u : Nat} (eu : x.I 6 = nI u) (hu : u ≤ 8) {Post : St → Prop} (h : ∀ x' : St, (∀ k, k ≠ 6 → x'.I k = x.I k) → x'.I 6 = nI (upU u) → (∀ k, x'.L k = x.L k) → (∀ k, k ≠ 5 → x'.A k = x.A k) → (∀ j, j < upU u → ∀ k, k < 126 → x'.A 5 (126 * j + k) = stk (x.A 4) (x.A 5) u (j + shU u) k) → Post x') : wpX12_note x Post := by
  refine ⟨fun hne => ?_, fun he => ?_⟩
  · have hu8 : u ≠ 8 := fun q => hne (by rw [eu, q]; rfl)
    have s0 : shU u = 0 := by unfold shU; rw [if_neg hu8]
    have u0 : upU u = u + 1 := by unfold upU; rw [if_neg hu8]
    refine m_noteL eu (by omega) (fun y a1 a2 a3 a4 => ?_)
    intro y1 e1
    subst e1
    refine h _ (fun k hk => by rw [sI_I, if_neg hk]; exact a1 k) ?_ a2 a3 (fun j hj k hk => ?_)
    · rw [sI_I, if_pos rfl, a1, eu, u0]; exact nI_1 u
    · rw [u0] at hj
      show y.A 5 (126 * j + k) = _
      have e0 : j + shU u = j := by rw [s0]; rfl
      rw [a4, e0]
      unfold stk
      by_cases hju : j = u
      · rw [if_pos hju, if_pos (by omega), show 126 * j + k - 126 * u = k by rw [hju]; omega]
      · rw [if_neg hju, if_neg (by omega)]
  · have e8 : u = 8 := (nI_eq (b := 8) (by omega) (by decide)).mp (eu.symm.trans he)
    subst e8
    have s0 : shU 8 = 1 := rfl
    have u0 : upU 8 = 8 := rfl
    refine m_shiftL (fun y a1 a2 a3 a4 => ?_)
    intro y1 e1
    subst e1
    refine m_noteL (v := 7) ?_ (by omega) (fun z b1 b2 b3 b4 => ?_)
    · rw [sI_I, if_pos rfl, a1, eu]; decide
    · intro y2 e2
      subst e2
      refine h _ (fun k hk => ?_) ?_ (fun k => (b2 k).trans (a2 k)) (fun k hk => (b3 k hk).trans (a3 k hk)) (fun j hj k hk => ?_)
      · rw [sI_I, if_neg hk, b1, sI_I, if_neg hk]; exact a1 k
      · rw [sI_I, if_pos rfl, b1, sI_I, if_pos rfl, a1, eu]; decide
      · rw [u0] at hj
        show z.A 5 (126 * j + k) = _
        rw [b4, s0]
        unfold stk
        by_cases hj7 : j = 7
        · subst hj7
          rw [if_pos rfl, if_pos (by omega)]
          show y.A 4 _ = _
          rw [a3 4 (by decide), show 126 * 7 + k - 126 * 7 = k by omega]
        · rw [if_neg (by omega), if_neg (by omega)]
          show y.A 5 (126 * j + k) = _
          rw [a4, if_pos (by omega), show 126 * j + k + 126 = 126 * (j + 1) + k by omega]
theorem PadN_push {p p' : St} {st ah wo ah' : Nat → Int32} {n w u : Nat} (hI : ∀ k, k ≠ 2 → p'.I k = p.I k) (h2 : p'.I 2 = nI (upU u)) (hA : ∀ k, k ≠ 1 → p'.A k = p.A k) (h1 : ∀ j, j < upU u → ∀ i, i < 86 → p'.A 1 (86 * j + i) = pgk p u (j + shU u) i) (ha : ∀ j, j < upU u → ∀ k, k < 126 → ah' (126 * j + k) = stk st ah u (j + shU u) k) (h : PadN p st ah wo n w u) : PadN p' st ah' wo n w (upU u) := by
  obtain ⟨g1, g2, g3, g4, g5, g6, g7, g8, g9, g10⟩ := h
  have hup : upU u ≤ 8 ∧ ∀ j, j < upU u → j + shU u ≤ u := by
    unfold upU shU
    by_cases h8 : u = 8
    · rw [if_pos h8, if_pos h8]; exact ⟨by omega, fun j hj => by omega⟩
    · rw [if_neg h8, if_neg h8]; exact ⟨by omega, fun j hj => by omega⟩
  have hst : ∀ j, j ≤ upU u → ∃ i, i ≤ u ∧ (j < upU u → i = j + shU u) ∧ (j = upU u → i = u) ∧ (∀ k, k < 126 → stk st ah' (upU u) j k = stk st ah u i k) ∧ ∀ k, k < 86 → pgk p' (upU u) j k = pgk p u i k := by
    intro j hj
    by_cases hju : j = upU u
    · refine ⟨u, Nat.le_refl u, fun q => by omega, fun _ => rfl, fun k hk => ?_, fun k hk => ?_⟩
      · unfold stk; rw [if_pos hju, if_pos rfl]
      · unfold pgk; rw [if_pos hju, if_pos rfl, hA 0 (by decide)]
    · refine ⟨j + shU u, hup.2 j (by omega), fun _ => rfl, fun q => absurd q hju, fun k hk => ?_, fun k hk => ?_⟩
      · rw [← ha j (by omega) k hk]
        unfold stk; rw [if_neg hju]
      · rw [← h1 j (by omega) k hk]
        unfold pgk; rw [if_neg hju]
  refine ⟨g1, g2, by rw [hI 3 (by decide)]; exact g3, g4, by rw [hI 11 (by decide)]; exact g5, hup.1, h2, fun i hi => by rw [hA 10 (by decide)]; exact g8 i hi, fun j hj => ?_, fun i j hij hj => ?_⟩
  · obtain ⟨i, hi, -, -, hs, hp⟩ := hst j hj
    obtain ⟨r, wf⟩ := g9 i hi
    exact ⟨RP_c hp hs wf.2.2.2.1 (fun k hk => by rw [hA 5 (by decide), hA 6 (by decide), hA 7 (by decide), hA 8 (by decide), hA 9 (by decide)]; exact ⟨rfl, rfl, rfl, rfl, fun _ _ => rfl⟩) r, WF_c g2 hs wf⟩
  · obtain ⟨a, ha1, ha2, ha3, hs, -⟩ := hst i (by omega)
    obtain ⟨b, hb1, hb2, hb3, hs2, -⟩ := hst j hj
    rw [mN_c hs, mN_c hs2]
    refine g10 a b ?_ hb1
    by_cases hju : j = upU u
    · rw [hb3 hju]; exact ha1
    · rw [ha2 (by omega), hb2 (by omega)]; omega
theorem k_usedUp {p : St} {T n : Nat} (eT : p.A 0 0 = nI T) (eI : p.I 3 = nI n) (hT : T ≤ 6) (hn : n ≤ 6) {Post : Int32 → Prop} (h0 : T < n → Post 0) (h1 : ¬ T < n → Post 1) : wpX4_isUsedUp p Post := by
  unfold wpX4_isUsedUp
  rw [eT, eI]
  exact pk_lt T n h0 (fun q => h1 (by omega))
theorem s_tear {t : Nat → St} {x : St} (h : Rel t x) : SimI (wpX11_tear t) (wpX12_tear x) := by
  obtain ⟨n, w, u, e1, e2, e3, hc, g⟩ := h.1.got
  obtain ⟨hN, hO, hT, hM⟩ := id h
  obtain ⟨q0, q1, q2, q3, q4, q5⟩ := g.nums
  have hn6 := g.2.1
  unfold SimI wpX11_tear wpX12_tear
  refine k_usedUp q0 g.2.2.1 (by omega) hn6 (fun hlt => b0e ?_) (fun hge => b1e (k_no ?_))
  · refine k_keep g.2.2.2.2.2.2.1 g.2.2.2.2.2.1 (fun p' f1 f2 f3 f4 => ?_)
    intro t3 et3 p1 ep1 t6 et6
    subst et3
    refine ⟨fun _ => ?_, fun e => absurd ((nI_eq (by omega) (by omega)).mp (q2.symm.trans (e.trans e1))) (by omega)⟩
    refine m_note e3 g.2.2.2.2.2.1 (fun x' g1 g2 g3 g4 g5 => ?_)
    intro x2 ex2
    have hpush := PadN_push f1 f2 f3 f4 g5 g
    have hp0 : (upS t 2 p') 2 = p' := rfl
    rw [hp0] at ep1
    subst ep1; subst et6; subst ex2
    have eP : (p'.A 0) 0 + 1 = nI (tN (x.A 4) + 1) := by rw [f3 0 (by decide), q0]; exact nI_1 _
    have eX : (x'.A 4) 125 + 1 = nI (tN (x.A 4) + 1) := by rw [g4 4 (by decide), q2]; exact nI_1 _
    refine ⟨?_, ⟨?_, n, w, upU u, ?_, ?_, g2, ?_⟩, ?_, ?_, ?_⟩
    · show (p'.A 0) 0 + 1 - 1 = (x'.A 4) 125 + 1 - 1
      rw [eP, eX]
    · show p'.I 4 = x'.I 1
      rw [f1 4 (by decide), g1 1 (by decide)]; exact hc
    · show x'.I 0 = _
      rw [g1 0 (by decide)]; exact e1
    · show x'.I 3 = _
      rw [g1 3 (by decide)]; exact e2
    · -- the pad, one sheet less
      have hstA : ∀ k, k ≠ 125 → upd (x'.A 4) 125 ((x'.A 4) 125 + 1) k = x.A 4 k := fun k hk => by
        unfold upd; rw [if_neg hk, g4 4 (by decide)]
      have hst125 : upd (x'.A 4) 125 ((x'.A 4) 125 + 1) 125 = nI (tN (x.A 4) + 1) := by unfold upd; rw [if_pos rfl, eX]
      obtain ⟨a1, a2, a3, a4, a5, a6, a7, a8, a9, a10⟩ := hpush
      show PadN (p'.sA 0 (upd (p'.A 0) 0 ((p'.A 0) 0 + 1))) (upd (x'.A 4) 125 ((x'.A 4) 125 + 1)) (x'.A 5) (x'.A 2) n w (upU u)
      have etN : tN (upd (x'.A 4) 125 ((x'.A 4) 125 + 1)) = tN (x.A 4) + 1 := by
        unfold tN at *
        rw [hst125, ncl (by omega)]
      have emN : mN (upd (x'.A 4) 125 ((x'.A 4) 125 + 1)) = mN (x.A 4) := by
        unfold mN
        rw [hstA 124 (by decide)]
      have hstk : ∀ j, j ≤ upU u → j ≠ upU u → stk (upd (x'.A 4) 125 ((x'.A 4) 125 + 1)) (x'.A 5) (upU u) j = stk (x.A 4) (x'.A 5) (upU u) j := fun j _ hj => by
        unfold stk; rw [if_neg hj, if_neg hj]
      have hpgk : ∀ j, j ≤ upU u → j ≠ upU u → pgk (p'.sA 0 (upd (p'.A 0) 0 ((p'.A 0) 0 + 1))) (upU u) j = pgk p' (upU u) j := fun j _ hj => by
        unfold pgk; rw [if_neg hj, if_neg hj]; rfl
      refine ⟨a1, a2, a3, a4, a5, a6, a7, fun i hi => by rw [g4 2 (by decide)]; exact a8 i hi, fun j hj => ?_, fun i j hij hj => ?_⟩
      · by_cases hju : j = upU u
        · have ec := a9 (upU u) (Nat.le_refl _)
          unfold pgk stk at ec ⊢
          rw [if_pos rfl, if_pos rfl] at ec
          rw [if_pos hju, if_pos hju]
          obtain ⟨⟨r1, r2, r3, r4⟩, w1, w2, w3, w4, w5, w6⟩ := ec
          refine ⟨⟨?_, ?_, fun s hs => ⟨?_, ?_, fun c hc => ?_⟩, fun k hk => ?_⟩, ?_, by omega, ?_, by omega, fun k hk => ?_, fun s hs c hc => ?_⟩
          · rw [hst125]
            show upd (p'.A 0) 0 ((p'.A 0) 0 + 1) 0 = _
            unfold upd; rw [if_pos rfl]; exact eP
          · rw [hstA 124 (by decide)]
            show upd (p'.A 0) 0 ((p'.A 0) 0 + 1) 1 = _
            unfold upd; rw [if_neg (by decide)]; exact r2
          · rw [hstA _ (by omega)]
            show upd (p'.A 0) 0 ((p'.A 0) 0 + 1) (2 + 14 * s) = _
            unfold upd; rw [if_neg (by omega)]; exact (r3 s hs).1
          · rw [hstA _ (by omega)]
            show upd (p'.A 0) 0 ((p'.A 0) 0 + 1) (3 + 14 * s) = _
            unfold upd; rw [if_neg (by omega)]; exact (r3 s hs).2.1
          · rw [hstA _ (by omega)]
            show upd (p'.A 0) 0 ((p'.A 0) 0 + 1) (4 + 14 * s + c) = _
            unfold upd; rw [if_neg (by omega)]; exact (r3 s hs).2.2 c hc
          · rw [emN] at hk
            rw [hstA _ (by omega), hstA _ (by omega), hstA _ (by omega), hstA _ (by omega)]
            exact r4 k hk
          · rw [hst125, etN]
          · rw [hstA 124 (by decide), emN]; exact w3
          · rw [emN] at hk
            exact GN_c (fun i h1 h2 => hstA i (by omega)) (by rw [etN]; omega) (w5 k hk)
          · rw [hstA _ (by omega), w6 s hs c hc, emN, mx_c _ (fun i h1 h2 => hstA i (by omega))]
        · rw [hstk j hj hju, hpgk j hj hju]
          obtain ⟨⟨r1, r2, r3, r4⟩, wf⟩ := a9 j hj
          exact ⟨⟨r1, r2, r3, r4⟩, wf⟩
      · have hmono := a10 i j hij hj
        have e0 : ∀ j, j ≤ upU u → mN (stk (upd (x'.A 4) 125 ((x'.A 4) 125 + 1)) (x'.A 5) (upU u) j) = mN (stk (x.A 4) (x'.A 5) (upU u) j) := fun j hj => by
          by_cases hju : j = upU u
          · unfold stk; rw [if_pos hju, if_pos hju]; exact emN
          · rw [hstk j hj hju]
        rw [e0 i (by omega), e0 j hj]; exact hmono
    · unfold ObjR at hO ⊢
      show _ = x'.L 7 ∧ _ = x'.L 8 ∧ _ = (x'.A 9) 0 ∧ _ = (x'.A 9) 1 ∧ _ = (x'.A 9) 2
      rw [g3, g3, g4 9 (by decide)]
      exact hO
    · unfold TxtR at hT ⊢
      obtain ⟨b, b1, b2, b3, b4⟩ := hT
      refine ⟨b, b1, b2, ?_, ?_⟩
      · show x'.I 11 = _
        rw [g1 11 (by decide)]; exact b3
      · show ∀ k, k < b → _ = x'.A 10 k ∧ ∃ c, c < 128 ∧ x'.A 10 k = nI c
        rw [g4 10 (by decide)]; exact b4
    · unfold ImsR at hM ⊢
      show ∃ b0 b1 : Nat, b0 < 2 ∧ b1 < 2 ∧ _ ∧ x'.A 27 0 = nI b0 ∧ x'.A 27 1 = nI b1 ∧ (b0 = 1 → ImgR _ (x'.A 28) 0) ∧ (b1 = 1 → ImgR _ (x'.A 28) 1)
      rw [g4 27 (by decide), g4 28 (by decide)]
      exact hM
  · have eT : tN (x.A 4) = n := by omega
    refine ⟨fun hne => absurd (by rw [q2, eT, e1]) hne, fun _ => m_ref1 ⟨rfl, R_no h⟩⟩
