/-! the model reads -/
def FrA (y p : St) : Prop := (∀ k, k ≠ 16 → y.A k = p.A k) ∧ (∀ k, y.L k = p.L k) ∧ ∀ k, k ≠ 12 → k ≠ 13 → k ≠ 14 → k ≠ 15 → y.I k = p.I k
theorem FrA_refl (p : St) : FrA p p := ⟨fun _ _ => rfl, fun _ => rfl, fun _ _ _ _ _ => rfl⟩
theorem FrA.trans {z y p : St} (h : FrA z y) (g : FrA y p) : FrA z p := ⟨fun k hk => (h.1 k hk).trans (g.1 k hk), fun k => (h.2.1 k).trans (g.2.1 k), fun k a b c d => (h.2.2 k a b c d).trans (g.2.2 k a b c d)⟩
theorem FrA_of {y p : St} (e : y.2 = p.2) (h : ∀ k, k ≠ 12 → k ≠ 13 → k ≠ 14 → k ≠ 15 → y.I k = p.I k) : FrA y p := ⟨fun k _ => A_of2 e k, fun k => L_of2 e k, h⟩
theorem FrA_sA (y : St) (v : Nat → Int32) : FrA (y.sA 16 v) y := ⟨fun k hk => by rw [sA_A, if_neg hk], fun _ => rfl, fun _ _ _ _ _ => rfl⟩
theorem TM_fr {y p : St} {c : Nat → Nat} {b : Nat} (h : TM p c b) (f : FrA y p) : TM y c b := ⟨h.1, (f.2.2 11 (by decide) (by decide) (by decide) (by decide)).trans h.2.1, fun k hk => by rw [f.1 10 (by decide)]; exact h.2.2 k hk⟩
theorem m_number {p : St} {c : Nat → Nat} {b i lo hi : Nat} (hT : TM p c b) (hi' : i ≤ b) (e : p.I 12 = nI i) (hlo : lo < 1000) (hhi : hi < 1000) {Post : Int32 → St → Prop} (h1 : inN c b i lo hi → ∀ y : St, y.2 = p.2 → FrA y p → TkM y c b i → Post 1 y) (h0 : ¬ inN c b i lo hi → ∀ y : St, y.2 = p.2 → FrA y p → TkM y c b i → Post 0 y) : wpX12_number (nI lo) (nI hi) p Post := by
  unfold wpX12_number
  refine m_nextToken hT hi' e (fun y a1 a2 a3 => ?_)
  have hK := tK_C c b i
  have hF := FrA_of a1 a2
  rw [a3.2.2.1]
  refine nq (w := 6) (by omega) (by omega) (fun q => h0 (fun w => q w.1) y a1 hF a3) (fun q => ?_)
  have hV := tV_b hi' q
  rw [a3.2.2.2 q]
  refine in_rule (lo : Int) (hi : Int) (by rw [wideT, nI_toInt (by omega)]) (by rw [wideT, nI_toInt (by omega)]) (fun g1 g2 => b1e ?_) (fun g => b0e ?_)
  · rw [nI_toInt (by omega)] at g1 g2
    exact h1 ⟨q, by omega, by omega⟩ y a1 hF a3
  · rw [nI_toInt (by omega)] at g
    exact h0 (fun w => by have w1 := w.2.1; have w2 := w.2.2; omega) y a1 hF a3
theorem m_cells {c : Nat → Nat} {b : Nat} {Post : Int32 → St → Prop} {KX : Int32 → Int32 → St → Prop} {a0 : Int32} : ∀ (f le acc i : Nat) (x3 : Int32) (p : St), 12 ≤ f + le → le ≤ 12 → i ≤ b → acc < 4096 → x3 + 1 = nI le → TM p c b → TkM p c b i → (∀ y : St, y.2 = p.2 → FrA y p → TkM y c b (cel c b f le acc i).2 → tK c b (cel c b f le acc i).2 ≠ 6 → KX a0 (nI (cel c b f le acc i).1) y) → (∀ y : St, y.2 = p.2 → FrA y p → TkM y c b (cel c b f le acc i).2 → tK c b (cel c b f le acc i).2 = 6 → Post 0 y) → wLX12_readNote_55 Post KX (f + 1) (a0, nI acc, x3, p)
  | 0, le, acc, i, x3, p, h12, hle, hi, ha, e3, hT, hk, hg, hb => by
    show wlX12_readNote_55 Post KX _ a0 (nI acc) x3 p
    unfold wlX12_readNote_55
    have hK := tK_C c b i
    rw [hk.2.2.1]
    refine nq (w := 6) (by omega) (by omega) (fun q => hg p rfl (FrA_refl p) hk q) (fun q => ?_)
    have hV := tV_b hi q
    rw [hk.2.2.2 q, e3]
    refine in_rule (le : Int) 11 (by rw [wideT, nI_toInt (by omega)]) (by decide) (fun g1 g2 => ?_) (fun g => b0n (hb p rfl (FrA_refl p) hk q))
    rw [nI_toInt (by omega)] at g1 g2
    omega
  | f + 1, le, acc, i, x3, p, h12, hle, hi, ha, e3, hT, hk, hg, hb => by
    show wlX12_readNote_55 Post KX (wLX12_readNote_55 Post KX (f + 1)) a0 (nI acc) x3 p
    unfold wlX12_readNote_55
    rw [cel_s] at hg hb
    have hK := tK_C c b i
    have hE := tE_b (c := c) hi
    rw [hk.2.2.1]
    refine nq (w := 6) (by omega) (by omega) (fun q => ?_) (fun q => ?_)
    · rw [if_neg (fun w => q w.1)] at hg
      exact hg p rfl (FrA_refl p) hk q
    · have hV := tV_b hi q
      rw [hk.2.2.2 q, e3]
      refine in_rule (le : Int) 11 (by rw [wideT, nI_toInt (by omega)]) (by decide) (fun g1 g2 => b1n ?_) (fun g => b0n ?_)
      · rw [nI_toInt (by omega)] at g1 g2
        rw [if_pos ⟨q, by omega, by omega⟩] at hg hb
        intro x3' e3' x2' e2'
        rw [sh_or (by omega)] at e2'
        subst e2'
        refine m_nextToken hT hE.2.1 hk.2.1 (fun y a1 a2 a3 => ?_)
        have hF := FrA_of a1 a2
        exact m_cells f (tV c b i + 1) (acc ||| 2 ^ tV c b i) (tE c b i) x3' y (by omega) (by omega) hE.2.1 (or_lt (n := 12) ha (by omega)) (by rw [e3', nI_1]) (TM_fr hT hF) a3 (fun z f1 f2 f3 f4 => hg z (f1.trans a1) (f2.trans hF) f3 f4) (fun z f1 f2 f3 f4 => hb z (f1.trans a1) (f2.trans hF) f3 f4)
      · rw [nI_toInt (by omega)] at g
        rw [if_neg (fun w => by have w1 := w.2.1; have w2 := w.2.2; omega)] at hb
        exact hb p rfl (FrA_refl p) hk q
theorem m_readNote {p : St} {c : Nat → Nat} {b i a : Nat} (hT : TM p c b) (hi : i ≤ b) (e : p.I 12 = nI i) (ha : a + 3 < 600) {Post : Int32 → St → Prop}
    (h1 : inN c b i 0 5 → inN c b (tE c b i) 1 9 → tK c b (cel c b 12 0 0 (tE c b (tE c b i))).2 ≠ 6 → ∀ y : St, FrA y p → TkM y c b (cel c b 12 0 0 (tE c b (tE c b i))).2 → y.A 16 = upd (upd (upd (p.A 16) (a + 1) (nI (tV c b i))) (a + 2) (nI (tV c b (tE c b i)))) (a + 3) (nI (cel c b 12 0 0 (tE c b (tE c b i))).1) → Post 1 y)
    (h2 : ¬ inN c b i 0 5 → ∀ y : St, FrA y p → TkM y c b i → Post 0 y)
    (h3 : inN c b i 0 5 → ¬ inN c b (tE c b i) 1 9 → ∀ y : St, FrA y p → TkM y c b (tE c b i) → Post 0 y)
    (h4 : inN c b i 0 5 → inN c b (tE c b i) 1 9 → tK c b (cel c b 12 0 0 (tE c b (tE c b i))).2 = 6 → ∀ y : St, FrA y p → TkM y c b (cel c b 12 0 0 (tE c b (tE c b i))).2 → Post 0 y) : wpX12_readNote (nI a) p Post := by
  have hE1 := tE_b (c := c) hi
  have hE2 := tE_b (c := c) hE1.2.1
  unfold wpX12_readNote
  rw [show nI a + 1 = nI (a + 1) from nI_1 a, show nI a + 2 = nI (a + 2) from nI_add a 2]
  refine m_number (lo := 0) (hi := 5) hT hi e (by omega) (by omega) (fun g y a1 f1 k1 => b1n ?_) (fun g y a1 f1 k1 => b0n (h2 g y f1 k1))
  refine ⟨vp_in_nI (by omega) (by omega), fun p3 e3 => ?_⟩
  rw [ncl (by omega), k1.2.2.2 g.1, A_of2 a1] at e3
  have f3 : FrA p3 y := by rw [e3]; exact FrA_sA y _
  have f3p := f3.trans f1
  refine m_number (lo := 1) (hi := 9) (TM_fr hT f3p) hE1.2.1 (by rw [e3]; exact k1.2.1) (by omega) (by omega) (fun gg y2 a2 f2 k2 => b1n ?_) (fun gg y2 a2 f2 k2 => b0n (h3 g gg y2 (f2.trans f3p) k2))
  refine ⟨vp_in_nI (by omega) (by omega), fun p6 e6 x3 ex3 => ?_⟩
  rw [ncl (by omega), k2.2.2.2 gg.1, A_of2 a2] at e6
  have f6 : FrA p6 y2 := by rw [e6]; exact FrA_sA y2 _
  have f6p := f6.trans (f2.trans f3p)
  refine m_nextToken (TM_fr hT f6p) hE2.2.1 (by rw [e6]; exact k2.2.1) (fun y3 b1 b2 b3 => ?_)
  have f7p := (FrA_of b1 b2).trans f6p
  refine ⟨13, m_cells 12 0 0 _ x3 y3 (by omega) (by omega) hE2.2.1 (by omega) (by rw [ex3]; decide) (TM_fr hT f7p) b3 (fun z c1 c2 c3 c4 => ?_) (fun z c1 c2 c3 c4 => h4 g gg c4 z (c2.trans f7p) c3)⟩
  rw [show nI a + 3 = nI (a + 3) from nI_add a 3]
  refine ⟨vp_in_nI (by omega) (by omega), fun p16 e16 => ?_⟩
  rw [ncl (by omega)] at e16
  have f16 : FrA p16 z := by rw [e16]; exact FrA_sA z _
  refine h1 g gg c4 p16 (f16.trans (c2.trans f7p)) ?_ ?_
  · rw [e16]; exact c3
  · rw [e16, sA_A, if_pos rfl, A_of2 c1, A_of2 b1, e6, sA_A, if_pos rfl, e3, sA_A, if_pos rfl]
/-! an item of the model -/
def FrB (y p : St) : Prop := (∀ k, k ≠ 16 → y.A k = p.A k) ∧ (∀ k, y.L k = p.L k) ∧ (∀ k, k < 12 ∨ 20 < k → y.I k = p.I k) ∧ y.I 18 = p.I 18
theorem FrB_refl (p : St) : FrB p p := ⟨fun _ _ => rfl, fun _ => rfl, fun _ _ => rfl, rfl⟩
theorem FrB.trans {z y p : St} (h : FrB z y) (g : FrB y p) : FrB z p := ⟨fun k hk => (h.1 k hk).trans (g.1 k hk), fun k => (h.2.1 k).trans (g.2.1 k), fun k a => (h.2.2.1 k a).trans (g.2.2.1 k a), h.2.2.2.trans g.2.2.2⟩
theorem FrB_of {y p : St} (f : FrA y p) : FrB y p := ⟨f.1, f.2.1, fun k hk => f.2.2 k (by omega) (by omega) (by omega) (by omega), f.2.2 18 (by decide) (by decide) (by decide) (by decide)⟩
theorem FrB_end {y z p : St} (d1 : y.2 = z.2) (d2 : ∀ k, k < 12 ∨ 20 < k ∨ k = 18 → y.I k = z.I k) (f : FrA z p) : FrB y p := ⟨fun k hk => (A_of2 d1 k).trans (f.1 k hk), fun k => (L_of2 d1 k).trans (f.2.1 k), fun k hk => (d2 k (by omega)).trans (f.2.2 k (by omega) (by omega) (by omega) (by omega)), (d2 18 (Or.inr (Or.inr rfl))).trans (f.2.2 18 (by decide) (by decide) (by decide) (by decide))⟩
theorem TM_frB {y p : St} {c : Nat → Nat} {b : Nat} (h : TM p c b) (f : FrB y p) : TM y c b := ⟨h.1, (f.2.2.1 11 (by omega)).trans h.2.1, fun k hk => by rw [f.1 10 (by decide)]; exact h.2.2 k hk⟩
def StoI (a : Nat → Int32) (k : Nat) (it : Nat × Nat × Nat × Nat) : Prop := a (4 * (1 + k)) = nI it.1 ∧ (it.1 = 2 → a (4 * (1 + k) + 1) = nI it.2.1) ∧ (it.1 = 3 → a (4 * (1 + k) + 1) = nI it.2.1 ∧ a (4 * (1 + k) + 2) = nI it.2.2.1 ∧ a (4 * (1 + k) + 3) = nI it.2.2.2)
theorem StoI_c {a a' : Nat → Int32} {k : Nat} {it : Nat × Nat × Nat × Nat} (h : ∀ j, j < 4 * (1 + k) + 4 → a' j = a j) (g : StoI a k it) : StoI a' k it := by
  obtain ⟨g1, g2, g3⟩ := g
  refine ⟨by rw [h _ (by omega)]; exact g1, fun w => by rw [h _ (by omega)]; exact g2 w, fun w => ?_⟩
  rw [h _ (by omega), h _ (by omega), h _ (by omega)]; exact g3 w
theorem m_end {z : St} {c : Nat → Nat} {b j T m k u v : Nat} {x1 x2 : Int32} (hT : TM z c b) (hj : j ≤ b) (hk : TkM z c b j) (e17 : z.I 17 = nI (1 + k)) (e19 : z.I 19 = nI T) (e20 : z.I 20 = nI m) (hu : (x1 = 4 ∧ u = 1) ∨ (¬ x1 = 4 ∧ u = 0)) (hv : (¬ x2 = 0 ∧ v = 1) ∨ (x2 = 0 ∧ v = 0)) {Post : Int32 → St → Prop} {self KX : St → Prop}
    (h5 : tK c b j = 5 → ∀ y : St, y.2 = z.2 → (∀ k, k < 12 ∨ 20 < k ∨ k = 18 → y.I k = z.I k) → TkM y c b (tE c b j) → y.I 17 = nI (1 + (k + 1)) → y.I 19 = nI (T + u) → y.I 20 = nI (m + v) → self y) (hn : tK c b j ≠ 5 → Post 0 z) : wjX12_readPad_210 Post self KX x1 x2 z := by
  have hE := tE_b (c := c) hj
  have hK := tK_C c b j
  have key : tK c b j = 5 → ∀ p15 : St, p15 = z.sI 19 (nI T + nI u) → wjX12_readPad_253 Post self KX (nI v) (p15.I 20) p15 := by
    intro w p15 e15 p16 e16 p17 e17'
    have i20 : p15.I 20 = nI m := by rw [e15, sI_I, if_neg (by decide)]; exact e20
    rw [i20, nI_add] at e16
    have i17 : p16.I 17 = nI (1 + k) := by rw [e16, sI_I, if_neg (by decide), e15, sI_I, if_neg (by decide)]; exact e17
    rw [i17, nI_1] at e17'
    rw [nI_add] at e15
    have f2 : p17.2 = z.2 := by rw [e17', e16, e15]; rfl
    have fI : ∀ k, k ≠ 17 → k ≠ 19 → k ≠ 20 → p17.I k = z.I k := fun k k1 k2 k3 => by rw [e17', sI_I, if_neg k1, e16, sI_I, if_neg k3, e15, sI_I, if_neg k2]
    refine m_nextToken (TM_of hT f2 (fI 11 (by decide) (by decide) (by decide))) hE.2.1 ((fI 12 (by decide) (by decide) (by decide)).trans hk.2.1) (fun y a1 a2 a3 => ?_)
    refine h5 w y (a1.trans f2) (fun k hk => ?_) a3 ?_ ?_ ?_
    · rw [a2 k (by omega) (by omega) (by omega) (by omega)]; exact fI k (by omega) (by omega) (by omega)
    · rw [a2 17 (by decide) (by decide) (by decide) (by decide), e17', sI_I, if_pos rfl]; rfl
    · rw [a2 19 (by decide) (by decide) (by decide) (by decide), e17', sI_I, if_neg (by decide), e16, sI_I, if_neg (by decide), e15, sI_I, if_pos rfl]
    · rw [a2 20 (by decide) (by decide) (by decide) (by decide), e17', sI_I, if_neg (by decide), e16, sI_I, if_pos rfl]
  unfold wjX12_readPad_210
  rw [hk.2.2.1]
  refine ⟨fun q => ?_, fun q => hn (fun w => q (by rw [w]; rfl))⟩
  have w : tK c b j = 5 := (nI_eq (b := 5) (by omega) (by decide)).mp q
  have go : ∀ p15 : St, p15 = z.sI 19 (nI T + nI u) → ((x2 = 0 → wjX12_readPad_253 Post self KX 0 (p15.I 20) p15) ∧ (¬ x2 = 0 → wjX12_readPad_253 Post self KX 1 (p15.I 20) p15)) := by
    intro p15 e15
    rcases hv with ⟨h, rfl⟩ | ⟨h, rfl⟩
    · exact ⟨fun e => absurd e h, fun _ => key w p15 e15⟩
    · exact ⟨fun _ => key w p15 e15, fun e => absurd h e⟩
  rw [e19]
  rcases hu with ⟨h, rfl⟩ | ⟨h, rfl⟩
  · exact ⟨fun e => absurd h e, fun _ => go⟩
  · exact ⟨fun _ => go, fun e => absurd e h⟩
theorem m_item {p : St} {c : Nat → Nat} {b i n T m k : Nat} (hT : TM p c b) (hi : i ≤ b) (hk : TkM p c b i) (h7 : tK c b i ≠ 7) (h1n : 1 ≤ n) (hn : n ≤ 6) (hTn : T ≤ n) (hm : m ≤ 10) (hk6 : k < 148) (e17 : p.I 17 = nI (1 + k)) (e18 : p.I 18 = nI n) (e19 : p.I 19 = nI T) (e20 : p.I 20 = nI m) {Post : Int32 → St → Prop} {self KX : St → Prop}
    (h1 : ∀ it i' (y : St), ItOk c b n T m i it i' → FrB y p → TkM y c b i' → y.I 17 = nI (1 + (k + 1)) → y.I 19 = nI (T + trI it) → y.I 20 = nI (m + ntI it) → StoI (y.A 16) k it → (∀ j, j < 4 * (1 + k) → y.A 16 j = p.A 16 j) → self y)
    (h0 : ∀ f (y : St), ItBad c b n T m i f → FrB y p → y.I 15 = nI f → Post 0 y) : wlX12_readPad_75 Post KX self p := by
  have hE1 := tE_b (c := c) hi
  have hE2 := tE_b (c := c) hE1.2.1
  have hE3 := tE_b (c := c) hE2.2.1
  have hcel := cel_b (c := c) 12 0 0 (tE c b (tE c b (tE c b i))) hE3.2.1 (by omega)
  have hK := tK_C c b i
  have bad : ((tK c b i ≠ 2 ∧ tK c b i ≠ 3 ∧ tK c b i ≠ 4) ∨ (tK c b i = 4 ∧ T = n) ∨ (tK c b i = 3 ∧ (T = n ∨ m = 10))) → Post 0 p := fun g => h0 _ p (Or.inl ⟨h7, g, rfl⟩) (FrB_refl p) hk.1
  unfold wlX12_readPad_75
  rw [hk.2.2.1]
  refine ⟨fun q => absurd ((nI_eq (b := 7) (by omega) (by decide)).mp q) h7, fun _ x1 ex1 => ?_⟩
  have ix : (4 : Int32) * p.I 17 = nI (4 * (1 + k)) := by rw [e17]; exact pk_mul 4 (1 + k)
  have eT : ∀ {A B : Prop}, (T = n → A) → (T < n → B) → ((p.I 19 = p.I 18) → A) ∧ ((¬ p.I 19 = p.I 18) → B) := by
    intro A B f g
    rw [e19, e18]
    exact ⟨fun w => f ((nI_eq (by omega) (by omega)).mp w), fun w => g (by
      have : T ≠ n := fun z => w (by rw [z])
      omega)⟩
  by_cases k2 : tK c b i = 2
  · rw [k2] at ex1
    have ex1 : x1 = 2 := ex1
    subst ex1
    refine ⟨fun _ => ?_, fun e => absurd e (by decide)⟩
    refine ⟨fun e => absurd e (by decide), fun _ => ⟨fun e => absurd e (by decide), fun _ => ⟨fun _ => ?_, fun e => absurd (by decide) e⟩⟩⟩
    refine ⟨fun _ => ?_, fun e => absurd rfl e⟩
    intro x3 ex3
    rw [ix] at ex3
    subst ex3
    rw [ncl (by omega)]
    refine ⟨vp_in_nI (by omega) (by omega), fun p14 e14 => ⟨fun e => absurd rfl e, fun _ => ?_⟩⟩
    have f14 : FrA p14 p := by rw [e14]; exact FrA_sA p _
    have i18 : p14.I 18 = nI n := by rw [e14]; exact e18
    rw [i18, show nI n - 1 = nI (n - 1) from pk_sub (b := 1) h1n, nI_1]
    refine m_number (lo := 0) (TM_fr hT f14) hE1.2.1 (by rw [e14]; exact hk.2.1) (by omega) (by omega) (fun g y a1 f1 k1 => b1n ?_) (fun g y a1 f1 k1 => b0n ?_)
    · refine ⟨vp_in_nI (by omega) (by omega), fun p24 e24 => ?_⟩
      rw [ncl (by omega), k1.2.2.2 g.1, A_of2 a1, e14, sA_A, if_pos rfl] at e24
      have f24 : FrA p24 y := by rw [e24]; exact FrA_sA y _
      have fA := f24.trans (f1.trans f14)
      refine ⟨fun _ => ?_, fun e => absurd rfl e⟩
      refine ⟨fun e => absurd rfl e, fun _ => ?_⟩
      refine m_nextToken (TM_fr hT fA) hE2.2.1 (by rw [e24]; exact k1.2.1) (fun z b1 b2 b3 => ?_)
      have fz := (FrA_of b1 b2).trans fA
      refine m_end (T := T) (m := m) (k := k) (u := 0) (v := 0) (TM_fr hT fz) hE2.2.1 b3 ((fz.2.2 17 (by decide) (by decide) (by decide) (by decide)).trans e17) ((fz.2.2 19 (by decide) (by decide) (by decide) (by decide)).trans e19) ((fz.2.2 20 (by decide) (by decide) (by decide) (by decide)).trans e20) (Or.inr ⟨by decide, rfl⟩) (Or.inr ⟨rfl, rfl⟩) (fun g5 y2 d1 d2 d3 d4 d5 d6 => ?_) (fun g5 => ?_)
      · have eA : y2.A 16 = upd (upd (p.A 16) (4 * (1 + k)) 2) (4 * (1 + k) + 1) (nI (tV c b (tE c b i))) := by rw [A_of2 d1, A_of2 b1, e24, sA_A, if_pos rfl]
        refine h1 (2, tV c b (tE c b i), 0, 0) _ y2 (Or.inl ⟨k2, g, g5, rfl, rfl⟩) (FrB_end d1 d2 fz) d3 d4 d5 d6 ?_ ?_
        · rw [eA]
          exact ⟨by rw [upd_ne (by omega), upd_at]; rfl, fun _ => upd_at, fun e => absurd e (by show ¬ (2 : Nat) = 3; decide)⟩
        · intro j hj
          rw [eA, upd_ne (by omega), upd_ne (by omega)]
      · exact h0 _ z (Or.inr (Or.inr (Or.inl ⟨k2, g, g5, rfl⟩))) (FrB_of fz) b3.1
    · exact h0 _ y (Or.inr (Or.inl ⟨k2, g, rfl⟩)) (FrB_of (f1.trans f14)) k1.1
  by_cases k4 : tK c b i = 4
  · rw [k4] at ex1
    have ex1 : x1 = 4 := ex1
    subst ex1
    refine ⟨fun _ => ?_, fun e => absurd e (by decide)⟩
    refine ⟨fun e => absurd e (by decide), fun _ => ⟨fun e => absurd e (by decide), fun _ => ⟨fun e => absurd e (by decide), fun _ => eT (fun w => bad (Or.inr (Or.inl ⟨k4, w⟩))) (fun hlt => ?_)⟩⟩⟩
    refine ⟨fun _ => ?_, fun e => absurd rfl e⟩
    intro x3 ex3
    rw [ix] at ex3
    subst ex3
    rw [ncl (by omega)]
    refine ⟨vp_in_nI (by omega) (by omega), fun p14 e14 => ⟨fun _ => ?_, fun e => absurd e (by decide)⟩⟩
    have f14 : FrA p14 p := by rw [e14]; exact FrA_sA p _
    refine ⟨fun _ => ?_, fun e => absurd rfl e⟩
    refine ⟨fun e => absurd rfl e, fun _ => ?_⟩
    refine m_nextToken (TM_fr hT f14) hE1.2.1 (by rw [e14]; exact hk.2.1) (fun z b1 b2 b3 => ?_)
    have fz := (FrA_of b1 b2).trans f14
    refine m_end (T := T) (m := m) (k := k) (u := 1) (v := 0) (TM_fr hT fz) hE1.2.1 b3 ((fz.2.2 17 (by decide) (by decide) (by decide) (by decide)).trans e17) ((fz.2.2 19 (by decide) (by decide) (by decide) (by decide)).trans e19) ((fz.2.2 20 (by decide) (by decide) (by decide) (by decide)).trans e20) (Or.inl ⟨rfl, rfl⟩) (Or.inr ⟨rfl, rfl⟩) (fun g5 y2 d1 d2 d3 d4 d5 d6 => ?_) (fun g5 => ?_)
    · have eA : y2.A 16 = upd (p.A 16) (4 * (1 + k)) 4 := by rw [A_of2 d1, A_of2 b1, e14, sA_A, if_pos rfl]
      refine h1 (4, 0, 0, 0) _ y2 (Or.inr (Or.inl ⟨k4, hlt, g5, rfl, rfl⟩)) (FrB_end d1 d2 fz) d3 d4 d5 d6 ?_ ?_
      · rw [eA]
        exact ⟨by rw [upd_at]; rfl, fun e => absurd e (by show ¬ (4 : Nat) = 2; decide), fun e => absurd e (by show ¬ (4 : Nat) = 3; decide)⟩
      · intro j hj
        rw [eA, upd_ne (by omega)]
    · exact h0 _ z (Or.inr (Or.inr (Or.inr (Or.inl ⟨k4, hlt, g5, rfl⟩)))) (FrB_of fz) b3.1
  by_cases k3 : tK c b i = 3
  · rw [k3] at ex1
    have ex1 : x1 = 3 := ex1
    subst ex1
    refine ⟨fun e => absurd rfl e, fun _ => ?_⟩
    refine ⟨fun e => absurd e (by decide), fun _ => ⟨fun e => absurd e (by decide), fun _ => ⟨fun e => absurd e (by decide), fun _ => eT (fun w => bad (Or.inr (Or.inr ⟨k3, Or.inl w⟩))) (fun hlt => ?_)⟩⟩⟩
    refine ⟨fun e => absurd e (by decide), fun _ => ?_⟩
    rw [e20]
    refine nq (w := 10) (by omega) (by omega) (fun hm10 => ?_) (fun w => bad (Or.inr (Or.inr ⟨k3, Or.inr w⟩)))
    have hm10 : m < 10 := by omega
    intro x3 ex3
    rw [ix] at ex3
    subst ex3
    rw [ncl (by omega)]
    refine ⟨vp_in_nI (by omega) (by omega), fun p14 e14 => ⟨fun _ => ?_, fun e => absurd e (by decide)⟩⟩
    have f14 : FrA p14 p := by rw [e14]; exact FrA_sA p _
    refine ⟨fun e => absurd e (by decide), fun _ => ?_⟩
    refine m_readNote (TM_fr hT f14) hE1.2.1 (by rw [e14]; exact hk.2.1) (by omega) (fun g gg w6 y f1 k1 eA1 => b1n ?_) (fun g y f1 k1 => b0n ?_) (fun g gg y f1 k1 => b0n ?_) (fun g gg w6 y f1 k1 => b0n ?_)
    · have fz := f1.trans f14
      refine ⟨fun _ => ?_, fun e => absurd e (by decide)⟩
      refine m_end (T := T) (m := m) (k := k) (u := 0) (v := 1) (TM_fr hT fz) hcel.2.1 k1 ((fz.2.2 17 (by decide) (by decide) (by decide) (by decide)).trans e17) ((fz.2.2 19 (by decide) (by decide) (by decide) (by decide)).trans e19) ((fz.2.2 20 (by decide) (by decide) (by decide) (by decide)).trans e20) (Or.inr ⟨by decide, rfl⟩) (Or.inl ⟨by decide, rfl⟩) (fun g5 y2 d1 d2 d3 d4 d5 d6 => ?_) (fun g5 => ?_)
      · rw [e14, sA_A, if_pos rfl] at eA1
        have eA := (A_of2 d1 16).trans eA1
        refine h1 (3, tV c b (tE c b i), tV c b (tE c b (tE c b i)), (cel c b 12 0 0 (tE c b (tE c b (tE c b i)))).1) _ y2 (Or.inr (Or.inr ⟨k3, hlt, hm10, g, gg, g5, rfl, rfl⟩)) (FrB_end d1 d2 fz) d3 d4 d5 d6 ?_ ?_
        · rw [eA]
          refine ⟨?_, fun e => absurd e (by show ¬ (3 : Nat) = 2; decide), fun _ => ⟨?_, ?_, ?_⟩⟩
          · rw [upd_ne (by omega), upd_ne (by omega), upd_ne (by omega), upd_at]; rfl
          · rw [upd_ne (by omega), upd_ne (by omega), upd_at]
          · rw [upd_ne (by omega), upd_at]
          · rw [upd_at]
        · intro j hj
          rw [eA, upd_ne (by omega), upd_ne (by omega), upd_ne (by omega), upd_ne (by omega)]
      · exact h0 _ y (Or.inr (Or.inr (Or.inr (Or.inr (Or.inr (Or.inr ⟨k3, hlt, hm10, g, gg, g5, rfl⟩)))))) (FrB_of fz) k1.1
    · exact h0 _ y (Or.inr (Or.inr (Or.inr (Or.inr (Or.inl ⟨k3, hlt, hm10, g, rfl⟩))))) (FrB_of (f1.trans f14)) k1.1
    · exact h0 _ y (Or.inr (Or.inr (Or.inr (Or.inr (Or.inr (Or.inl ⟨k3, hlt, hm10, g, gg, rfl⟩)))))) (FrB_of (f1.trans f14)) k1.1
    · exact h0 _ y (Or.inr (Or.inr (Or.inr (Or.inr (Or.inr (Or.inr ⟨k3, hlt, hm10, g, gg, by omega, rfl⟩)))))) (FrB_of (f1.trans f14)) k1.1
  have hb := bad (Or.inl ⟨k2, k3, k4⟩)
  have fin : ∀ z0 : Int32, wjX12_readPad_99 Post self KX x1 z0 p := by
    intro z0
    refine ⟨fun _ => hb, fun w1 => ⟨fun _ => hb, fun w2 => ?_⟩⟩
    exfalso
    rw [ex1, fa_lt, nI_toInt (by omega)] at w1
    rw [ex1, fa_lt, nI_toInt (by omega)] at w2
    have z2 : (2 : Int32).toInt = 2 := by decide
    have z4 : (4 : Int32).toInt = 4 := by decide
    omega
  exact ⟨fun _ => fin 0, fun _ => fin 1⟩
