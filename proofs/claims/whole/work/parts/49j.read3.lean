/-! the items are told by the text alone -/
theorem ItOk_det {c : Nat → Nat} {b n T m i i' i2 : Nat} {it it2 : Nat × Nat × Nat × Nat} (h : ItOk c b n T m i it i') (g : ItOk c b n T m i it2 i2) : it = it2 ∧ i' = i2 := by
  rcases h with ⟨a, -, -, e, f⟩ | ⟨a, -, -, e, f⟩ | ⟨a, -, -, -, -, -, e, f⟩ <;> rcases g with ⟨a', -, -, e', f'⟩ | ⟨a', -, -, e', f'⟩ | ⟨a', -, -, -, -, -, e', f'⟩ <;> first | exact ⟨e.trans e'.symm, f.trans f'.symm⟩ | (exfalso; omega)
theorem itd_abs {K T n m f f2 A B D s0 s1 s2 s3 : Nat} {P Q R : Prop} (h : (K ≠ 7 ∧ ((K ≠ 2 ∧ K ≠ 3 ∧ K ≠ 4) ∨ (K = 4 ∧ T = n) ∨ (K = 3 ∧ (T = n ∨ m = 10))) ∧ f = s0) ∨ (K = 2 ∧ ¬ P ∧ f = s1) ∨ (K = 2 ∧ P ∧ A ≠ 5 ∧ f = s2) ∨ (K = 4 ∧ T < n ∧ B ≠ 5 ∧ f = s1) ∨ (K = 3 ∧ T < n ∧ m < 10 ∧ ¬ Q ∧ f = s1) ∨ (K = 3 ∧ T < n ∧ m < 10 ∧ Q ∧ ¬ R ∧ f = s2) ∨ (K = 3 ∧ T < n ∧ m < 10 ∧ Q ∧ R ∧ D ≠ 5 ∧ f = s3))
    (g : (K ≠ 7 ∧ ((K ≠ 2 ∧ K ≠ 3 ∧ K ≠ 4) ∨ (K = 4 ∧ T = n) ∨ (K = 3 ∧ (T = n ∨ m = 10))) ∧ f2 = s0) ∨ (K = 2 ∧ ¬ P ∧ f2 = s1) ∨ (K = 2 ∧ P ∧ A ≠ 5 ∧ f2 = s2) ∨ (K = 4 ∧ T < n ∧ B ≠ 5 ∧ f2 = s1) ∨ (K = 3 ∧ T < n ∧ m < 10 ∧ ¬ Q ∧ f2 = s1) ∨ (K = 3 ∧ T < n ∧ m < 10 ∧ Q ∧ ¬ R ∧ f2 = s2) ∨ (K = 3 ∧ T < n ∧ m < 10 ∧ Q ∧ R ∧ D ≠ 5 ∧ f2 = s3)) : f = f2 := by
  rcases h with ⟨-, h, h9⟩ | ⟨h1, h2, h9⟩ | ⟨h1, h2, h3, h9⟩ | ⟨h1, h2, h3, h9⟩ | ⟨h1, h2, h3, h4, h9⟩ | ⟨h1, h2, h3, h4, h5, h9⟩ | ⟨h1, h2, h3, h4, h5, h6, h9⟩ <;> rcases g with ⟨-, g, g9⟩ | ⟨g1, g2, g9⟩ | ⟨g1, g2, g3, g9⟩ | ⟨g1, g2, g3, g9⟩ | ⟨g1, g2, g3, g4, g9⟩ | ⟨g1, g2, g3, g4, g5, g9⟩ | ⟨g1, g2, g3, g4, g5, g6, g9⟩ <;> first | (exact h9.trans g9.symm) | contradiction | omega
theorem ito_abs {K T n m f A B D s0 s1 s2 s3 : Nat} {P Q R U V W : Prop} (h : (K = 2 ∧ P ∧ A = 5 ∧ U) ∨ (K = 4 ∧ T < n ∧ B = 5 ∧ V) ∨ (K = 3 ∧ T < n ∧ m < 10 ∧ Q ∧ R ∧ D = 5 ∧ W))
    (g : (K ≠ 7 ∧ ((K ≠ 2 ∧ K ≠ 3 ∧ K ≠ 4) ∨ (K = 4 ∧ T = n) ∨ (K = 3 ∧ (T = n ∨ m = 10))) ∧ f = s0) ∨ (K = 2 ∧ ¬ P ∧ f = s1) ∨ (K = 2 ∧ P ∧ A ≠ 5 ∧ f = s2) ∨ (K = 4 ∧ T < n ∧ B ≠ 5 ∧ f = s1) ∨ (K = 3 ∧ T < n ∧ m < 10 ∧ ¬ Q ∧ f = s1) ∨ (K = 3 ∧ T < n ∧ m < 10 ∧ Q ∧ ¬ R ∧ f = s2) ∨ (K = 3 ∧ T < n ∧ m < 10 ∧ Q ∧ R ∧ D ≠ 5 ∧ f = s3)) : False := by
  rcases h with ⟨a, b1, b2, -⟩ | ⟨a, b1, b2, -⟩ | ⟨a, b1, b2, b3, b4, b5, -⟩ <;> rcases g with ⟨-, g, -⟩ | ⟨g1, g2, -⟩ | ⟨g1, g2, g3, -⟩ | ⟨g1, g2, g3, -⟩ | ⟨g1, g2, g3, g4, -⟩ | ⟨g1, g2, g3, g4, g5, -⟩ | ⟨g1, g2, g3, g4, g5, g6, -⟩ <;> first | contradiction | omega
theorem ItOk_bad {c : Nat → Nat} {b n T m i i' f : Nat} {it : Nat × Nat × Nat × Nat} (h : ItOk c b n T m i it i') (g : ItBad c b n T m i f) : False := by
  unfold ItOk at h
  unfold ItBad at g
  exact ito_abs h g
theorem ItBad_det {c : Nat → Nat} {b n T m i f f2 : Nat} (h : ItBad c b n T m i f) (g : ItBad c b n T m i f2) : f = f2 := by
  unfold ItBad at h g
  exact itd_abs h g
theorem ItBad_7 {c : Nat → Nat} {b n T m i f : Nat} (h : ItBad c b n T m i f) : tK c b i ≠ 7 := by
  rcases h with ⟨h1, -⟩ | ⟨h1, -⟩ | ⟨h1, -⟩ | ⟨h1, -⟩ | ⟨h1, -⟩ | ⟨h1, -⟩ | ⟨h1, -⟩ <;> omega
theorem ItOk_7 {c : Nat → Nat} {b n T m i i' : Nat} {it : Nat × Nat × Nat × Nat} (h : ItOk c b n T m i it i') : tK c b i ≠ 7 := by
  rcases h with ⟨h1, -⟩ | ⟨h1, -⟩ | ⟨h1, -⟩ <;> omega
theorem ItOk_Tm {c : Nat → Nat} {b n T m i i' : Nat} {it : Nat × Nat × Nat × Nat} (hT : T ≤ n) (hm : m ≤ 10) (h : ItOk c b n T m i it i') : T + trI it ≤ n ∧ m + ntI it ≤ 10 := by
  rcases h with ⟨-, -, -, rfl, -⟩ | ⟨-, ht, -, rfl, -⟩ | ⟨-, -, hm', -, -, -, rfl, -⟩
  · exact ⟨hT, hm⟩
  · exact ⟨ht, hm⟩
  · exact ⟨hT, hm'⟩
theorem ItOk_2 {c : Nat → Nat} {b n T m i i' : Nat} {it : Nat × Nat × Nat × Nat} (hi : i ≤ b) (h : ItOk c b n T m i it i') : i + 2 ≤ i' ∧ i' ≤ b := by
  have h1 := tE_b (c := c) hi
  have h2 := tE_b (c := c) h1.2.1
  have h3 := tE_b (c := c) h2.2.1
  have s1 := tS_b (c := c) h1.2.1
  have s2 := tS_b (c := c) h2.2.1
  have s3 := tS_b (c := c) h3.2.1
  have h7 := tE_lt hi (ItOk_7 h)
  rcases h with ⟨k, g, -, -, e⟩ | ⟨k, -, g, -, e⟩ | ⟨k, -, -, g, -, -, -, e⟩
  · have := tE_lt h1.2.1 (by rw [g.1]; decide); omega
  · have := tE_lt h1.2.1 (by rw [g]; decide); omega
  · have := tE_lt h1.2.1 (by rw [g.1]; decide)
    have hc := cel_b (c := c) 12 0 0 (tE c b (tE c b (tE c b i))) h3.2.1 (by omega)
    have h4 := tE_b (c := c) hc.2.1
    have s4 := tS_b (c := c) hc.2.1
    omega
theorem Ch_len {c : Nat → Nat} {b n : Nat} : ∀ (L : List (Nat × Nat × Nat × Nat)) {i T m i' T' m' : Nat}, Ch c b n i T m L i' T' m' → i ≤ b → i + 2 * L.length ≤ i' ∧ i' ≤ b
  | [], i, T, m, i', T', m', h, hi => by
    obtain ⟨rfl, -, -⟩ := h
    exact ⟨Nat.le_refl _, hi⟩
  | it :: L, i, T, m, i', T', m', h, hi => by
    obtain ⟨i1, h1, h2⟩ := h
    have a := ItOk_2 hi h1
    have r := Ch_len L h2 a.2
    rw [List.length_cons]
    omega
/-! the model's loop over the items -/
theorem m_loopG {c : Nat → Nat} {b n : Nat} {Post : Int32 → St → Prop} {KX : St → Prop} (h1n : 1 ≤ n) (hn : n ≤ 6) : ∀ (L : List (Nat × Nat × Nat × Nat)) (i T m k : Nat) (p : St) {i' T' m' : Nat}, Ch c b n i T m L i' T' m' → tK c b i' = 7 → i ≤ b → TM p c b → TkM p c b i → T ≤ n → m ≤ 10 → k + L.length < 148 → p.I 17 = nI (1 + k) → p.I 18 = nI n → p.I 19 = nI T → p.I 20 = nI m → (∀ y : St, FrB y p → y.I 17 = nI (1 + (k + L.length)) → (∀ j (h : j < L.length), StoI (y.A 16) (k + j) (L[j])) → (∀ j, j < 4 * (1 + k) → y.A 16 j = p.A 16 j) → KX y) → wLX12_readPad_75 Post KX (L.length + 1) p
  | [], i, T, m, k, p, i', T', m', hC, h7, hi, hM, hk, hT, hm, hl, e17, e18, e19, e20, hg => by
    obtain ⟨rfl, -, -⟩ := hC
    show wlX12_readPad_75 Post KX _ p
    unfold wlX12_readPad_75
    rw [hk.2.2.1, h7]
    exact ⟨fun _ => hg p (FrB_refl p) e17 (fun j h => absurd h (Nat.not_lt_zero j)) (fun _ _ => rfl), fun e => absurd rfl e⟩
  | it :: L, i, T, m, k, p, i', T', m', hC, h7, hi, hM, hk, hT, hm, hl, e17, e18, e19, e20, hg => by
    obtain ⟨i1, hO, hC⟩ := hC
    show wlX12_readPad_75 Post KX (wLX12_readPad_75 Post KX (L.length + 1)) p
    rw [List.length_cons] at hl
    refine m_item hM hi hk (ItOk_7 hO) h1n hn hT hm (by omega) e17 e18 e19 e20 (fun it2 i2 y o1 o2 o3 o4 o5 o6 o7 o8 => ?_) (fun f y o1 o2 o3 => (ItOk_bad hO o1).elim)
    obtain ⟨rfl, rfl⟩ := ItOk_det hO o1
    have hTm := ItOk_Tm hT hm hO
    have h2 := ItOk_2 hi hO
    refine m_loopG h1n hn L i1 _ _ (k + 1) y hC h7 h2.2 (TM_frB hM o2) o3 hTm.1 hTm.2 (by omega) o4 (o2.2.2.2.trans e18) o5 o6 (fun z z1 z2 z3 z4 => ?_)
    refine hg z (z1.trans o2) (by rw [z2, List.length_cons]; congr 1; omega) (fun j hj => ?_) (fun j hj => by rw [z4 j (by omega)]; exact o8 j hj)
    cases j with
    | zero => exact StoI_c (fun j hj => z4 j (by omega)) o7
    | succ j =>
      have := z3 j (by rw [List.length_cons] at hj; omega)
      rw [show k + (j + 1) = k + 1 + j by omega]
      exact this
theorem m_loopB {c : Nat → Nat} {b n f : Nat} {Post : Int32 → St → Prop} {KX : St → Prop} (h1n : 1 ≤ n) (hn : n ≤ 6) : ∀ (L : List (Nat × Nat × Nat × Nat)) (i T m k : Nat) (p : St) {i' T' m' : Nat}, Ch c b n i T m L i' T' m' → ItBad c b n T' m' i' f → i ≤ b → TM p c b → TkM p c b i → T ≤ n → m ≤ 10 → k + L.length < 148 → p.I 17 = nI (1 + k) → p.I 18 = nI n → p.I 19 = nI T → p.I 20 = nI m → (∀ y : St, FrB y p → y.I 15 = nI f → Post 0 y) → wLX12_readPad_75 Post KX (L.length + 1) p
  | [], i, T, m, k, p, i', T', m', hC, hB, hi, hM, hk, hT, hm, hl, e17, e18, e19, e20, hg => by
    obtain ⟨rfl, rfl, rfl⟩ := hC
    show wlX12_readPad_75 Post KX _ p
    have hl' : k + 0 < 148 := hl
    refine m_item hM hi hk (ItBad_7 hB) h1n hn hT hm (by omega) e17 e18 e19 e20 (fun it2 i2 y o1 o2 o3 o4 o5 o6 o7 o8 => (ItOk_bad o1 hB).elim) (fun f2 y o1 o2 o3 => hg y o2 ?_)
    rw [o3, ItBad_det o1 hB]
  | it :: L, i, T, m, k, p, i', T', m', hC, hB, hi, hM, hk, hT, hm, hl, e17, e18, e19, e20, hg => by
    obtain ⟨i1, hO, hC⟩ := hC
    show wlX12_readPad_75 Post KX (wLX12_readPad_75 Post KX (L.length + 1)) p
    rw [List.length_cons] at hl
    refine m_item hM hi hk (ItOk_7 hO) h1n hn hT hm (by omega) e17 e18 e19 e20 (fun it2 i2 y o1 o2 o3 o4 o5 o6 o7 o8 => ?_) (fun f y o1 o2 o3 => (ItOk_bad hO o1).elim)
    obtain ⟨rfl, rfl⟩ := ItOk_det hO o1
    have hTm := ItOk_Tm hT hm hO
    have h2 := ItOk_2 hi hO
    exact m_loopB h1n hn L i1 _ _ (k + 1) y hC hB h2.2 (TM_frB hM o2) o3 hTm.1 hTm.2 (by omega) o4 (o2.2.2.2.trans e18) o5 o6 (fun z z1 z2 => hg z (z1.trans o2) z2)
/-! the first item -/
def FrC (y p : St) : Prop := (∀ k, k ≠ 16 → y.A k = p.A k) ∧ (∀ k, y.L k = p.L k) ∧ ∀ k, k < 12 ∨ 20 < k → y.I k = p.I k
theorem FrC.trans {z y p : St} (h : FrC z y) (g : FrC y p) : FrC z p := ⟨fun k hk => (h.1 k hk).trans (g.1 k hk), fun k => (h.2.1 k).trans (g.2.1 k), fun k a => (h.2.2 k a).trans (g.2.2 k a)⟩
theorem FrC_A {y p : St} (f : FrA y p) : FrC y p := ⟨f.1, f.2.1, fun k hk => f.2.2 k (by omega) (by omega) (by omega) (by omega)⟩
theorem FrC_B {y p : St} (f : FrB y p) : FrC y p := ⟨f.1, f.2.1, f.2.2.1⟩
theorem FrC_I (y : St) (k : Nat) (v : Int32) (h1 : 12 ≤ k) (h2 : k ≤ 20) : FrC (y.sI k v) y := ⟨fun _ _ => rfl, fun _ => rfl, fun j hj => by rw [sI_I, if_neg (by omega)]⟩
theorem TM_frC {y p : St} {c : Nat → Nat} {b : Nat} (h : TM p c b) (f : FrC y p) : TM y c b := ⟨h.1, (f.2.2 11 (by omega)).trans h.2.1, fun k hk => by rw [f.1 10 (by decide)]; exact h.2.2 k hk⟩
theorem m_first {x : St} {c : Nat → Nat} {b : Nat} (hT : TM x c b) {Post : Int32 → St → Prop} (hg : ∀ n i0 (y : St), First c b n i0 → i0 ≤ b → FrC y x → TkM y c b i0 → y.I 17 = nI (1 + 0) → y.I 18 = nI n → y.I 19 = nI 0 → y.I 20 = nI 0 → ∃ N, wLX12_readPad_75 Post (fun p25 => Post 1 p25) N y) (hb : ∀ f (y : St), FirstBad c b f → FrC y x → y.I 15 = nI f → Post 0 y) : wpX12_readPad x Post := by
  have hE0 := tE_b (c := c) (Nat.zero_le b)
  have hE1 := tE_b (c := c) hE0.2.1
  have hE2 := tE_b (c := c) hE1.2.1
  intro p1 e1 p2 e2 p3 e3 p4 e4
  have f1 : FrC p1 x := by rw [e1]; exact FrC_I _ _ _ (by decide) (by decide)
  have f2 : FrC p2 x := by rw [e2]; exact (FrC_I _ _ _ (by decide) (by decide)).trans f1
  have f3 : FrC p3 x := by rw [e3]; exact (FrC_I _ _ _ (by decide) (by decide)).trans f2
  have f4 : FrC p4 x := by rw [e4]; exact (FrC_I _ _ _ (by decide) (by decide)).trans f3
  have i12 : p4.I 12 = nI 0 := by rw [e4, sI_I, if_neg (by decide), e3, sI_I, if_neg (by decide), e2, sI_I, if_neg (by decide), e1, sI_I, if_pos rfl]; rfl
  have i19 : p4.I 19 = nI 0 := by rw [e4, sI_I, if_neg (by decide), e3, sI_I, if_pos rfl]; rfl
  have i20 : p4.I 20 = nI 0 := by rw [e4, sI_I, if_pos rfl]; rfl
  refine m_nextToken (TM_frC hT f4) (Nat.zero_le b) i12 (fun y a1 a2 a3 => ?_)
  have fA := FrA_of a1 a2
  have fy := (FrC_A fA).trans f4
  have hK := tK_C c b 0
  rw [a3.2.2.1]
  refine nq (w := 1) (by omega) (by omega) (fun q => hb _ y (Or.inl ⟨q, rfl⟩) fy a3.1) (fun q => ?_)
  refine m_number (lo := 1) (hi := 6) (TM_frC hT fy) hE0.2.1 a3.2.1 (by omega) (by omega) (fun g y2 b1 g2 b3 => b1n ?_) (fun g y2 b1 g2 b3 => b0n (hb _ y2 (Or.inr (Or.inl ⟨q, g, rfl⟩)) ((FrC_A g2).trans fy) b3.1))
  intro p8 e8
  have fy2 := (FrC_A g2).trans fy
  have f8 : FrC p8 x := by rw [e8]; exact (FrC_I _ _ _ (by decide) (by decide)).trans fy2
  refine m_nextToken (TM_frC hT f8) hE1.2.1 (by rw [e8]; exact b3.2.1) (fun y3 c1 c2 c3 => ?_)
  have fy3 := (FrC_A (FrA_of c1 c2)).trans f8
  have hK2 := tK_C c b (tE c b (tE c b 0))
  rw [c3.2.2.1]
  refine ⟨fun w => ?_, fun w => hb _ y3 (Or.inr (Or.inr ⟨q, g, fun z => w (by rw [z]; rfl), rfl⟩)) fy3 c3.1⟩
  have w5 : tK c b (tE c b (tE c b 0)) = 5 := (nI_eq (b := 5) (by omega) (by decide)).mp w
  intro p10 e10
  have f10 : FrC p10 x := by rw [e10]; exact (FrC_I _ _ _ (by decide) (by decide)).trans fy3
  refine m_nextToken (TM_frC hT f10) hE2.2.1 (by rw [e10]; exact c3.2.1) (fun y4 d1 d2 d3 => ?_)
  refine hg _ _ y4 ⟨q, g, rfl, w5, rfl⟩ hE2.2.1 ((FrC_A (FrA_of d1 d2)).trans f10) d3 ?_ ?_ ?_ ?_
  · rw [d2 17 (by decide) (by decide) (by decide) (by decide), e10, sI_I, if_pos rfl]; rfl
  · rw [d2 18 (by decide) (by decide) (by decide) (by decide), e10, sI_I, if_neg (by decide), c2 18 (by decide) (by decide) (by decide) (by decide), e8, sI_I, if_pos rfl]
    exact b3.2.2.2 g.1
  · rw [d2 19 (by decide) (by decide) (by decide) (by decide), e10, sI_I, if_neg (by decide), c2 19 (by decide) (by decide) (by decide) (by decide), e8, sI_I, if_neg (by decide), g2.2.2 19 (by decide) (by decide) (by decide) (by decide), fA.2.2 19 (by decide) (by decide) (by decide) (by decide)]; exact i19
  · rw [d2 20 (by decide) (by decide) (by decide) (by decide), e10, sI_I, if_neg (by decide), c2 20 (by decide) (by decide) (by decide) (by decide), e8, sI_I, if_neg (by decide), g2.2.2 20 (by decide) (by decide) (by decide) (by decide), fA.2.2 20 (by decide) (by decide) (by decide) (by decide)]; exact i20
theorem First_bad {c : Nat → Nat} {b n i0 f : Nat} (h : First c b n i0) (g : FirstBad c b f) : False := by
  obtain ⟨h1, h2, h3, h4, h5⟩ := h
  rcases g with ⟨g1, -⟩ | ⟨g1, g2, -⟩ | ⟨g1, g2, g3, -⟩
  · exact g1 h1
  · exact g2 h2
  · exact g3 h4
theorem FirstBad_det {c : Nat → Nat} {b f f2 : Nat} (h : FirstBad c b f) (g : FirstBad c b f2) : f = f2 := by
  rcases h with ⟨h1, h9⟩ | ⟨h1, h2, h9⟩ | ⟨h1, h2, h3, h9⟩ <;> rcases g with ⟨g1, g9⟩ | ⟨g1, g2, g9⟩ | ⟨g1, g2, g3, g9⟩ <;> first | omega | contradiction
theorem First_det {c : Nat → Nat} {b n i0 n2 i2 : Nat} (h : First c b n i0) (g : First c b n2 i2) : n = n2 ∧ i0 = i2 := ⟨h.2.2.1.trans g.2.2.1.symm, h.2.2.2.2.trans g.2.2.2.2.symm⟩
theorem m_padG {x : St} {c : Nat → Nat} {b n i0 i T m : Nat} {L : List (Nat × Nat × Nat × Nat)} (hT : TM x c b) (hF : First c b n i0) (hC : Ch c b n i0 0 0 L i T m) (h7 : tK c b i = 7) {Post : Int32 → St → Prop} (h : ∀ y : St, FrC y x → y.I 17 = nI (1 + L.length) → y.I 18 = nI n → (∀ j (h : j < L.length), StoI (y.A 16) j (L[j])) → Post 1 y) : wpX12_readPad x Post := by
  have hb := hT.1
  refine m_first hT (fun n' i' y o1 o2 o3 o4 o5 o6 o7 o8 => ?_) (fun f y o1 => (First_bad hF o1).elim)
  obtain ⟨rfl, rfl⟩ := First_det hF o1
  have hl := Ch_len L hC o2
  have hn1 := hF.2.1.2.1
  have hn6 := hF.2.1.2.2
  rw [← hF.2.2.1] at hn1 hn6
  refine ⟨L.length + 1, m_loopG hn1 hn6 L _ 0 0 0 y hC h7 o2 (TM_frC hT o3) o4 (by omega) (by omega) (by omega) o5 o6 o7 o8 (fun z z1 z2 z3 z4 => ?_)⟩
  refine h z ((FrC_B z1).trans o3) (by rw [z2, Nat.zero_add]) (z1.2.2.2.trans o6) (fun j hj => ?_)
  have := z3 j hj
  rw [Nat.zero_add] at this
  exact this
theorem m_padB {x : St} {c : Nat → Nat} {b f : Nat} (hT : TM x c b) (hB : FirstBad c b f ∨ ∃ n i0 L i T m, First c b n i0 ∧ Ch c b n i0 0 0 L i T m ∧ ItBad c b n T m i f) {Post : Int32 → St → Prop} (h : ∀ y : St, FrC y x → y.I 15 = nI f → Post 0 y) : wpX12_readPad x Post := by
  have hb := hT.1
  rcases hB with hB | ⟨n, i0, L, i, T, m, hF, hC, hI⟩
  · refine m_first hT (fun n' i' y o1 => (First_bad o1 hB).elim) (fun f2 y o1 o2 o3 => h y o2 ?_)
    rw [o3, FirstBad_det o1 hB]
  · refine m_first hT (fun n' i' y o1 o2 o3 o4 o5 o6 o7 o8 => ?_) (fun f y o1 => (First_bad hF o1).elim)
    obtain ⟨rfl, rfl⟩ := First_det hF o1
    have hl := Ch_len L hC o2
    have hn1 := hF.2.1.2.1
    have hn6 := hF.2.1.2.2
    rw [← hF.2.2.1] at hn1 hn6
    exact ⟨L.length + 1, m_loopB hn1 hn6 L _ 0 0 0 y hC hI o2 (TM_frC hT o3) o4 (by omega) (by omega) (by omega) o5 o6 o7 o8 (fun z z1 z2 => h z ((FrC_B z1).trans o3) z2)⟩
