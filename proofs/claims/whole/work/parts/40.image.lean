theorem m_carry {d s L n0 n1 : Nat} {p q : Nat → Int32} (h0 : d + L ≤ n0) (h1 : s + L ≤ n1) (b0 : n0 < 100000) (b1 : n1 < 100000) {Post : (Nat → Int32) → Prop} (h : ∀ p' : Nat → Int32, (∀ i, d ≤ i → i < d + L → p' i = q (s + (i - d))) → (∀ i, i < d ∨ d + L ≤ i → p' i = p i) → Post p') : wpX12_carry (nI d) (nI s) (nI L) p q n0 n1 Post := by
  unfold wpX12_carry
  refine it_rule (F := fun self z => wlX12_carry_3 q n0 n1 Post _ self z.1 z.2.1 z.2.2.1 z.2.2.2.1 z.2.2.2.2) (fun z => ∃ (j : Nat) (y : Nat → Int32), z = (nI d, nI s, nI L, nI j, y) ∧ j ≤ L ∧ (∀ i, d ≤ i → i < d + j → y i = q (s + (i - d))) ∧ ∀ i, i < d ∨ d + j ≤ i → y i = p i) (fun z => L - z.2.2.2.1.toNatClampNeg) ?_ _ ⟨0, p, rfl, by omega, fun i a b => by omega, fun i _ => rfl⟩
  rintro self z ⟨j, y, rfl, hj, a1, a2⟩ hself
  dsimp only at hself ⊢
  unfold wlX12_carry_3
  refine pk_le L j (fun hle => ?_) (fun hlt => ?_)
  · have e : j = L := by omega
    subst e
    exact h y a1 a2
  · rw [nI_add, nI_add]
    refine ⟨vp_in_nI (by omega) (by omega), vp_in_nI (by omega) (by omega), fun y' ey z ez => ?_⟩
    rw [ncl (by omega), ncl (by omega)] at ey
    subst ey; subst ez
    rw [nI_1]
    refine hself _ ⟨j + 1, _, rfl, by omega, fun i c1 c2 => ?_, fun i c => ?_⟩ (by dsimp only; rw [ncl (by omega), ncl (by omega)]; omega)
    · show upd y (d + j) (q (s + j)) i = _
      unfold upd
      by_cases hi : i = d + j
      · rw [if_pos hi, hi]; congr 1; omega
      · rw [if_neg hi]; exact a1 i c1 (by omega)
    · show upd y (d + j) (q (s + j)) i = _
      unfold upd
      rw [if_neg (by omega)]; exact a2 i (by omega)
/-- a pad beside a block of the model's images -/
def BlkOf (K : Nat → Int32) (b : Nat) (x : St) : Prop := (∀ k, k < 126 → K (b + k) = x.A 4 k) ∧ (∀ k, k < 1008 → K (b + 126 + k) = x.A 5 k) ∧ (∀ k, k < 8 → K (b + 1134 + k) = x.A 2 k) ∧ K (b + 1142) = x.I 0 ∧ K (b + 1143) = x.I 1 ∧ K (b + 1144) = x.I 3 ∧ K (b + 1145) = x.I 6
theorem upd_at {p : Nat → Int32} {i : Nat} {v : Int32} : upd p i v i = v := by unfold upd; rw [if_pos rfl]
theorem upd_ne {p : Nat → Int32} {i k : Nat} {v : Int32} (h : k ≠ i) : upd p i v k = p k := by unfold upd; rw [if_neg h]
theorem m_imageG {x : St} {j : Nat} (hj : j < 2) {Post : Int32 → St → Prop} (h : ∀ x' : St, (∀ k, x'.I k = x.I k) → (∀ k, x'.L k = x.L k) → (∀ k, k ≠ 27 → k ≠ 28 → x'.A k = x.A k) → x'.A 27 = upd (x.A 27) j 1 → BlkOf (x'.A 28) (1154 * j) x → (∀ i, i < 1154 * j ∨ 1154 * j + 1154 ≤ i → x'.A 28 i = x.A 28 i) → Post 1 x') : wpX12_image (nI j) x Post := by
  unfold wpX12_image
  refine in_rule 0 1 (by decide) (by decide) (fun _ _ => b1n ?_) (fun z => absurd z (by rw [nI_toInt (by omega)]; omega))
  intro B eB
  have eB2 : B = nI (1154 * j) := by
    rw [eB]
    show nI 1154 * nI j = _
    rw [pk_mul]
  subst eB2
  rw [show nI (1154 * j) + 126 = nI (1154 * j + 126) from nI_add _ 126, show nI (1154 * j) + 1134 = nI (1154 * j + 1134) from nI_add _ 1134, show nI (1154 * j) + 1142 = nI (1154 * j + 1142) from nI_add _ 1142, show nI (1154 * j) + 1143 = nI (1154 * j + 1143) from nI_add _ 1143, show nI (1154 * j) + 1144 = nI (1154 * j + 1144) from nI_add _ 1144, show nI (1154 * j) + 1145 = nI (1154 * j + 1145) from nI_add _ 1145]
  refine m_carry (s := 0) (L := 126) (by omega) (by omega) (by omega) (by omega) (fun p3 a1 a2 => ?_)
  refine m_carry (s := 0) (L := 1008) (by omega) (by omega) (by omega) (by omega) (fun p4 b1 b2 => ?_)
  refine m_carry (s := 0) (L := 8) (by omega) (by omega) (by omega) (by omega) (fun p5 c1 c2 => ?_)
  refine ⟨vp_in_nI (by omega) (by omega), fun p6 e6 => ⟨vp_in_nI (by omega) (by omega), fun p7 e7 => ⟨vp_in_nI (by omega) (by omega), fun p8 e8 => ⟨vp_in_nI (by omega) (by omega), fun p9 e9 => ⟨vp_in_nI (by omega) (by omega), fun p10 e10 => ?_⟩⟩⟩⟩⟩
  rw [ncl (by omega)] at e6 e7 e8 e9 e10
  have f28 : p10.A 28 = upd (upd (upd (upd p5 (1154 * j + 1142) (x.I 0)) (1154 * j + 1143) (x.I 1)) (1154 * j + 1144) (x.I 3)) (1154 * j + 1145) (x.I 6) := by
    rw [e10, e9, e8, e7, e6]; rfl
  have hb2 : ∀ i, i < 1154 * j + 126 ∨ 1154 * j + 126 + 1008 ≤ i → p4 i = p3 i := b2
  have hc2 : ∀ i, i < 1154 * j + 1134 ∨ 1154 * j + 1134 + 8 ≤ i → p5 i = p4 i := c2
  refine h p10 (fun k => by rw [e10, e9, e8, e7, e6]; rfl) (fun k => by rw [e10, e9, e8, e7, e6]; rfl) (fun k k1 k2 => ?_) (by rw [e10, e9, e8, e7, e6]; rfl) ⟨fun k hk => ?_, fun k hk => ?_, fun k hk => ?_, ?_, ?_, ?_, ?_⟩ (fun i hi => ?_)
  · rw [e10, e9, e8, e7, e6]
    simp only [sA_A, if_neg k1, if_neg k2]
  · rw [f28, upd_ne (by omega), upd_ne (by omega), upd_ne (by omega), upd_ne (by omega), hc2 _ (by omega), hb2 _ (by omega), a1 _ (by omega) (by omega)]
    congr 1; omega
  · rw [f28, upd_ne (by omega), upd_ne (by omega), upd_ne (by omega), upd_ne (by omega), hc2 _ (by omega), b1 _ (by omega) (by omega)]
    rw [show 0 + (1154 * j + 126 + k - (1154 * j + 126)) = k by omega]; rfl
  · rw [f28, upd_ne (by omega), upd_ne (by omega), upd_ne (by omega), upd_ne (by omega), c1 _ (by omega) (by omega)]
    rw [show 0 + (1154 * j + 1134 + k - (1154 * j + 1134)) = k by omega]; rfl
  · rw [f28, upd_ne (by omega), upd_ne (by omega), upd_ne (by omega), upd_at]
  · rw [f28, upd_ne (by omega), upd_ne (by omega), upd_at]
  · rw [f28, upd_ne (by omega), upd_at]
  · rw [f28, upd_at]
  · rw [f28, upd_ne (by omega), upd_ne (by omega), upd_ne (by omega), upd_ne (by omega), hc2 _ (by omega), hb2 _ (by omega), a2 _ (by omega)]
theorem ImgR_same {q : St} {ke ke' : Nat → Int32} {i : Nat} (h : ∀ k, 1154 * i ≤ k → k < 1154 * i + 1154 → ke' k = ke k) (g : ImgR q ke i) : ImgR q ke' i := by
  unfold ImgR PadR at *
  obtain ⟨g0, n, w, u, e1, e2, e3, g1⟩ := g
  have hw := g1.2.2.2.1
  have hu := g1.2.2.2.2.2.1
  refine ⟨by rw [h _ (by omega) (by omega)]; exact g0, n, w, u, by rw [h _ (by omega) (by omega)]; exact e1, by rw [h _ (by omega) (by omega)]; exact e2, by rw [h _ (by omega) (by omega)]; exact e3, ?_⟩
  exact PadN_c rfl rfl rfl (fun _ _ => rfl) (fun _ _ => rfl) (fun _ _ => ⟨rfl, rfl, rfl, rfl⟩) (fun _ _ => rfl) (fun _ _ => rfl) (fun k hk => h _ (by omega) (by omega)) (fun k hk => h _ (by omega) (by omega)) (fun k hk => h _ (by omega) (by omega)) g1
/-- a pad's copy -/
def CopyOf (p' q : St) (u : Nat) : Prop := p'.I 3 = q.I 3 ∧ p'.I 4 = q.I 4 ∧ p'.I 2 = q.I 2 ∧ p'.I 11 = q.I 11 ∧ (∀ i, i < 86 → p'.A 0 i = q.A 0 i) ∧ (∀ i, i < 86 * u → p'.A 1 i = q.A 1 i) ∧ (∀ k, k < 10 → p'.A 5 k = q.A 5 k ∧ p'.A 6 k = q.A 6 k ∧ p'.A 7 k = q.A 7 k ∧ p'.A 8 k = q.A 8 k) ∧ (∀ k, k < 60 → p'.A 9 k = q.A 9 k) ∧ ∀ k, k < 8 → p'.A 10 k = q.A 10 k
theorem PadN_copy {p' q : St} {u n w : Nat} {st ah wo st' ah' wo' : Nat → Int32} (c : CopyOf p' q u) (hs : ∀ k, k < 126 → st' k = st k) (ha : ∀ k, k < 126 * u → ah' k = ah k) (hw : ∀ k, k < w → wo' k = wo k) (g : PadN q st ah wo n w u) : PadN p' st' ah' wo' n w u := by
  obtain ⟨c3, c4, c2, c11, c0, c1, c5, c9, c10⟩ := c
  have hw8 := g.2.2.2.1
  exact PadN_c c3 c11 c2 c0 c1 c5 c9 (fun k hk => c10 k (by omega)) hs ha hw g
theorem k_copyP {p q : St} {u : Nat} (eu : q.I 2 = nI u) (hu : u ≤ 8) {Post : St → Prop} (h : ∀ p' : St, CopyOf p' q u → Post p') : wpX4_copyFrom p q Post :=
  k_copyFrom eu hu (fun p' a1 a2 a3 a4 a5 a6 a7 a8 a9 => h p' ⟨a1, a2, a3, a4, a5, a6, a7, a8, a9⟩)
theorem ImgR_new {p' q x : St} {K : Nat → Int32} {j : Nat} {u : Nat} (eu : q.I 2 = nI u) (hu : u ≤ 8) (hN : NowR q x) (c : CopyOf p' q u) (b : BlkOf K (1154 * j) x) : ImgR p' K j := by
  obtain ⟨hc, n, w, u', e1, e2, e3, g⟩ := hN
  have hu' : u' = u := (nI_eq (by have := g.2.2.2.2.2.1; omega) (by omega)).mp (g.2.2.2.2.2.2.1.symm.trans eu)
  subst hu'
  have hw := g.2.2.2.1
  obtain ⟨b1, b2, b3, b4, b5, b6, b7⟩ := b
  refine ⟨by rw [c.2.1, hc]; exact b5.symm, n, w, u', b4.trans e1, b6.trans e2, b7.trans e3, ?_⟩
  exact PadN_copy c b1 (fun k hk => b2 k (by omega)) (fun k hk => b3 k (by omega)) g
theorem s_image {t : Nat → St} {x : St} (h : Rel t x) (x1 : Int32) : SimI (wpX11_image x1 t) (wpX12_image x1 x) := by
  obtain ⟨n, w, u, e1, e2, e3, hc, g⟩ := h.1.got
  obtain ⟨hN, hO, hT, hM⟩ := id h
  have eu := g.2.2.2.2.2.2.1
  have hu := g.2.2.2.2.2.1
  unfold SimI wpX11_image wjX11_image_9
  refine v_lt 0 2 (by decide) (by decide) (fun a => k_bad ?_) (fun a b => ?_)
  · unfold wpX12_image wpX12_bad
    exact in_rule 0 1 (by decide) (by decide) (fun a1 a2 => absurd a (by omega)) (fun _ => b0n (m_ref0 ⟨rfl, R_bad h⟩))
  · obtain ⟨j, ej, hj, _⟩ := toNI a
    have hj2 : j < 2 := by omega
    obtain ⟨c0, c1, l0, l1, o9, k0, k1, i0, i1⟩ := hM
    subst ej
    have hj01 : j = 0 ∨ j = 1 := by omega
    rcases hj01 with rfl | rfl
    · refine ⟨fun _ => ?_, fun e => absurd rfl e⟩
      refine k_copyP eu hu (fun p' cp => ?_)
      intro t4 et4 t5 et5
      refine m_imageG (by omega) (fun x' f1 f2 f3 f4 f5 f6 => ⟨rfl, ?_⟩)
      subst et4; subst et5
      refine ⟨?_, ?_, ?_, ⟨1, c1, by omega, l1, ?_, ?_, ?_, fun _ => ?_, fun z => ?_⟩⟩
      · unfold NowR at hN ⊢
        rw [f1, f1, f1, f1, f3 4 (by decide) (by decide), f3 5 (by decide) (by decide), f3 2 (by decide) (by decide)]; exact hN
      · unfold ObjR at hO ⊢
        rw [f2, f2, f3 9 (by decide) (by decide)]; exact hO
      · unfold TxtR at hT ⊢
        rw [f1, f3 10 (by decide) (by decide)]; exact hT
      · show (t 0).I 9 ||| _ = _
        rw [o9]
        have : (c0 = 0 ∨ c0 = 1) ∧ (c1 = 0 ∨ c1 = 1) := ⟨by omega, by omega⟩
        rcases this with ⟨rfl | rfl, rfl | rfl⟩ <;> decide
      · rw [f4]; exact upd_at
      · rw [f4, upd_ne (by decide)]; exact k1
      · exact ImgR_new eu hu hN cp f5
      · exact ImgR_same (fun k g1 g2 => f6 k (by omega)) (i1 z)
    · refine ⟨fun e => absurd e (by decide), fun _ => ?_⟩
      refine k_copyP eu hu (fun p' cp => ?_)
      intro t4 et4 t5 et5
      refine m_imageG (by omega) (fun x' f1 f2 f3 f4 f5 f6 => ⟨rfl, ?_⟩)
      subst et4; subst et5
      refine ⟨?_, ?_, ?_, ⟨c0, 1, l0, by omega, ?_, ?_, ?_, fun z => ?_, fun _ => ?_⟩⟩
      · unfold NowR at hN ⊢
        rw [f1, f1, f1, f1, f3 4 (by decide) (by decide), f3 5 (by decide) (by decide), f3 2 (by decide) (by decide)]; exact hN
      · unfold ObjR at hO ⊢
        rw [f2, f2, f3 9 (by decide) (by decide)]; exact hO
      · unfold TxtR at hT ⊢
        rw [f1, f3 10 (by decide) (by decide)]; exact hT
      · show (t 0).I 9 ||| _ = _
        rw [o9]
        have : (c0 = 0 ∨ c0 = 1) ∧ (c1 = 0 ∨ c1 = 1) := ⟨by omega, by omega⟩
        rcases this with ⟨rfl | rfl, rfl | rfl⟩ <;> decide
      · rw [f4, upd_ne (by decide)]; exact k0
      · rw [f4]; exact upd_at
      · exact ImgR_same (fun k g1 g2 => f6 k (by omega)) (i0 z)
      · exact ImgR_new eu hu hN cp f5
theorem m_fromG {x : St} {j : Nat} (hj : j < 2) {Post : Int32 → St → Prop} (h1 : x.A 27 j ≠ 0 → ∀ x' : St, (∀ k, k ≠ 0 → k ≠ 1 → k ≠ 3 → k ≠ 6 → x'.I k = x.I k) → (∀ k, x'.L k = x.L k) → (∀ k, k ≠ 4 → k ≠ 5 → k ≠ 2 → x'.A k = x.A k) → BlkOf (x.A 28) (1154 * j) x' → Post 1 x') (h0 : x.A 27 j = 0 → Post (-3) (refX x 1)) : wpX12_from (nI j) x Post := by
  unfold wpX12_from
  refine in_rule 0 1 (by decide) (by decide) (fun _ _ => b1n ?_) (fun z => absurd z (by rw [nI_toInt (by omega)]; omega))
  rw [ncl (by omega)]
  refine ⟨vp_in_nI (by omega) (by omega), fun hne => ?_, fun he => m_ref1 (h0 he)⟩
  intro B eB
  have eB2 : B = nI (1154 * j) := by
    rw [eB]
    show nI 1154 * nI j = _
    rw [pk_mul]
  subst eB2
  rw [show nI (1154 * j) + 126 = nI (1154 * j + 126) from nI_add _ 126, show nI (1154 * j) + 1134 = nI (1154 * j + 1134) from nI_add _ 1134, show nI (1154 * j) + 1142 = nI (1154 * j + 1142) from nI_add _ 1142, show nI (1154 * j) + 1143 = nI (1154 * j + 1143) from nI_add _ 1143, show nI (1154 * j) + 1144 = nI (1154 * j + 1144) from nI_add _ 1144, show nI (1154 * j) + 1145 = nI (1154 * j + 1145) from nI_add _ 1145]
  refine m_carry (d := 0) (L := 126) (by omega) (by omega) (by omega) (by omega) (fun p3 a1 a2 => ?_)
  refine m_carry (d := 0) (L := 1008) (by omega) (by omega) (by omega) (by omega) (fun p4 b1 b2 => ?_)
  refine m_carry (d := 0) (L := 8) (by omega) (by omega) (by omega) (by omega) (fun p5 c1 c2 => ?_)
  refine ⟨vp_in_nI (by omega) (by omega), fun p6 e6 => ⟨vp_in_nI (by omega) (by omega), fun p7 e7 => ⟨vp_in_nI (by omega) (by omega), fun p8 e8 => ⟨vp_in_nI (by omega) (by omega), fun p9 e9 => ?_⟩⟩⟩⟩
  rw [ncl (by omega)] at e6 e7 e8 e9
  refine h1 hne p9 (fun k z0 z1 z3 z6 => ?_) (fun k => by rw [e9, e8, e7, e6]; rfl) (fun k z4 z5 z2 => ?_) ⟨fun k hk => ?_, fun k hk => ?_, fun k hk => ?_, ?_, ?_, ?_, ?_⟩
  · rw [e9, e8, e7, e6]
    simp only [sI_I, if_neg z0, if_neg z1, if_neg z3, if_neg z6, sA_I]
  · rw [e9, e8, e7, e6]
    simp only [sI_A, sA_A, if_neg z4, if_neg z5, if_neg z2]
  · have : p9.A 4 = p3 := by rw [e9, e8, e7, e6]; rfl
    rw [this, a1 k (by omega) (by omega), Nat.sub_zero]
  · have : p9.A 5 = p4 := by rw [e9, e8, e7, e6]; rfl
    rw [this, b1 k (by omega) (by omega), Nat.sub_zero]; rfl
  · have : p9.A 2 = p5 := by rw [e9, e8, e7, e6]; rfl
    rw [this, c1 k (by omega) (by omega), Nat.sub_zero]; rfl
  · rw [e9, e8, e7, e6]; rfl
  · rw [e9, e8, e7, e6]; rfl
  · rw [e9, e8, e7, e6]; rfl
  · rw [e9, e8, e7, e6]; rfl
theorem NowR_from {p' q x' : St} {K : Nat → Int32} {j u : Nat} (eu : q.I 2 = nI u) (hu : u ≤ 8) (hI : ImgR q K j) (c : CopyOf p' q u) (b : BlkOf K (1154 * j) x') : NowR p' x' := by
  obtain ⟨hc, n, w, u', e1, e2, e3, g⟩ := hI
  have hu' : u' = u := (nI_eq (by have := g.2.2.2.2.2.1; omega) (by omega)).mp (g.2.2.2.2.2.2.1.symm.trans eu)
  subst hu'
  have hw := g.2.2.2.1
  obtain ⟨b1, b2, b3, b4, b5, b6, b7⟩ := b
  refine ⟨by rw [c.2.1, hc]; exact b5, n, w, u', b4.symm.trans e1, b6.symm.trans e2, b7.symm.trans e3, ?_⟩
  exact PadN_copy c (fun k hk => (b1 k hk).symm) (fun k hk => (b2 k (by omega)).symm) (fun k hk => (b3 k (by omega)).symm) g
theorem ImgR.und {q : St} {K : Nat → Int32} {j : Nat} (h : ImgR q K j) : ∃ u, q.I 2 = nI u ∧ u ≤ 8 := by
  obtain ⟨hc, n, w, u', e1, e2, e3, g⟩ := h
  exact ⟨u', g.2.2.2.2.2.2.1, g.2.2.2.2.2.1⟩
theorem s_from {t : Nat → St} {x : St} (h : Rel t x) (x1 : Int32) : SimI (wpX11_from x1 t) (wpX12_from x1 x) := by
  obtain ⟨hN, hO, hT, hM⟩ := id h
  unfold SimI wpX11_from wjX11_from_9
  refine v_lt 0 2 (by decide) (by decide) (fun a => k_bad ?_) (fun a b => ?_)
  · unfold wpX12_from wpX12_bad
    exact in_rule 0 1 (by decide) (by decide) (fun a1 a2 => absurd a (by omega)) (fun _ => b0n (m_ref0 ⟨rfl, R_bad h⟩))
  · obtain ⟨j, ej, hj, _⟩ := toNI a
    have hj2 : j < 2 := by omega
    obtain ⟨c0, c1, l0, l1, o9, k0, k1, i0, i1⟩ := hM
    subst ej
    have hj01 : j = 0 ∨ j = 1 := by omega
    have hcc : (c0 = 0 ∨ c0 = 1) ∧ (c1 = 0 ∨ c1 = 1) := ⟨by omega, by omega⟩
    rw [o9]
    rcases hj01 with rfl | rfl
    · rcases hcc.1 with rfl | rfl
      · refine ⟨fun e => absurd (by rcases hcc.2 with rfl | rfl <;> decide) e, fun _ => k_no (m_fromG (by omega) (fun z => absurd k0 z) (fun _ => ⟨rfl, R_no h⟩))⟩
      · refine ⟨fun _ => ⟨fun _ => ?_, fun e => absurd rfl e⟩, fun e => absurd e (by rcases hcc.2 with rfl | rfl <;> decide)⟩
        obtain ⟨u, eu, hu⟩ := (i0 rfl).und
        refine k_copyP eu hu (fun p' cp => ?_)
        intro t4 et4
        subst et4
        refine m_fromG (by omega) (fun _ x' f1 f2 f3 f4 => ⟨rfl, ?_⟩) (fun z => absurd (k0.symm.trans z) (by decide))
        exact R_rest h rfl rfl rfl rfl f2 (f1 11 (by decide) (by decide) (by decide) (by decide)) (f3 9 (by decide) (by decide) (by decide)) (f3 10 (by decide) (by decide) (by decide)) (f3 27 (by decide) (by decide) (by decide)) (f3 28 (by decide) (by decide) (by decide)) (NowR_from eu hu (i0 rfl) cp f4)
    · rcases hcc.2 with rfl | rfl
      · refine ⟨fun e => absurd (by rcases hcc.1 with rfl | rfl <;> decide) e, fun _ => k_no (m_fromG (by omega) (fun z => absurd k1 z) (fun _ => ⟨rfl, R_no h⟩))⟩
      · refine ⟨fun _ => ⟨fun e => absurd e (by decide), fun _ => ?_⟩, fun e => absurd e (by rcases hcc.1 with rfl | rfl <;> decide)⟩
        obtain ⟨u, eu, hu⟩ := (i1 rfl).und
        refine k_copyP eu hu (fun p' cp => ?_)
        intro t4 et4
        subst et4
        refine m_fromG (by omega) (fun _ x' f1 f2 f3 f4 => ⟨rfl, ?_⟩) (fun z => absurd (k1.symm.trans z) (by decide))
        exact R_rest h rfl rfl rfl rfl f2 (f1 11 (by decide) (by decide) (by decide) (by decide)) (f3 9 (by decide) (by decide) (by decide)) (f3 10 (by decide) (by decide) (by decide)) (f3 27 (by decide) (by decide) (by decide)) (f3 28 (by decide) (by decide) (by decide)) (NowR_from eu hu (i1 rfl) cp f4)
