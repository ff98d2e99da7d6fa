/-! items -/
def trI (it : Nat × Nat × Nat × Nat) : Nat := if it.1 = 4 then 1 else 0
def ntI (it : Nat × Nat × Nat × Nat) : Nat := if it.1 = 3 then 1 else 0
def ItOk (c : Nat → Nat) (b n T m i : Nat) (it : Nat × Nat × Nat × Nat) (i' : Nat) : Prop :=
  (tK c b i = 2 ∧ inN c b (tE c b i) 0 (n - 1) ∧ tK c b (tE c b (tE c b i)) = 5 ∧ it = (2, tV c b (tE c b i), 0, 0) ∧ i' = tE c b (tE c b (tE c b i))) ∨
  (tK c b i = 4 ∧ T < n ∧ tK c b (tE c b i) = 5 ∧ it = (4, 0, 0, 0) ∧ i' = tE c b (tE c b i)) ∨
  (tK c b i = 3 ∧ T < n ∧ m < 10 ∧ inN c b (tE c b i) 0 5 ∧ inN c b (tE c b (tE c b i)) 1 9 ∧ tK c b (cel c b 12 0 0 (tE c b (tE c b (tE c b i)))).2 = 5 ∧ it = (3, tV c b (tE c b i), tV c b (tE c b (tE c b i)), (cel c b 12 0 0 (tE c b (tE c b (tE c b i)))).1) ∧ i' = tE c b (cel c b 12 0 0 (tE c b (tE c b (tE c b i)))).2)
def ItBad (c : Nat → Nat) (b n T m i f : Nat) : Prop :=
  (tK c b i ≠ 7 ∧ ((tK c b i ≠ 2 ∧ tK c b i ≠ 3 ∧ tK c b i ≠ 4) ∨ (tK c b i = 4 ∧ T = n) ∨ (tK c b i = 3 ∧ (T = n ∨ m = 10))) ∧ f = tS c b i) ∨
  (tK c b i = 2 ∧ ¬ inN c b (tE c b i) 0 (n - 1) ∧ f = tS c b (tE c b i)) ∨
  (tK c b i = 2 ∧ inN c b (tE c b i) 0 (n - 1) ∧ tK c b (tE c b (tE c b i)) ≠ 5 ∧ f = tS c b (tE c b (tE c b i))) ∨
  (tK c b i = 4 ∧ T < n ∧ tK c b (tE c b i) ≠ 5 ∧ f = tS c b (tE c b i)) ∨
  (tK c b i = 3 ∧ T < n ∧ m < 10 ∧ ¬ inN c b (tE c b i) 0 5 ∧ f = tS c b (tE c b i)) ∨
  (tK c b i = 3 ∧ T < n ∧ m < 10 ∧ inN c b (tE c b i) 0 5 ∧ ¬ inN c b (tE c b (tE c b i)) 1 9 ∧ f = tS c b (tE c b (tE c b i))) ∨
  (tK c b i = 3 ∧ T < n ∧ m < 10 ∧ inN c b (tE c b i) 0 5 ∧ inN c b (tE c b (tE c b i)) 1 9 ∧ tK c b (cel c b 12 0 0 (tE c b (tE c b (tE c b i)))).2 ≠ 5 ∧ f = tS c b (cel c b 12 0 0 (tE c b (tE c b (tE c b i)))).2)
theorem tE_lt {c : Nat → Nat} {b i : Nat} (hi : i ≤ b) (hk : tK c b i ≠ 7) : i < tE c b i := by
  have hs := tS_b (c := c) hi
  have hE := tE_b (c := c) hi
  have : tS c b i ≠ b := fun w => hk (by unfold tK; rw [if_pos w])
  have := hE.2.2 (by omega)
  omega
theorem ItOk_b {c : Nat → Nat} {b n T m i i' : Nat} {it : Nat × Nat × Nat × Nat} (hi : i ≤ b) (h : ItOk c b n T m i it i') : i < i' ∧ i' ≤ b := by
  have h1 := tE_b (c := c) hi
  have h2 := tE_b (c := c) h1.2.1
  have h3 := tE_b (c := c) h2.2.1
  have s1 := tS_b (c := c) h1.2.1
  have s2 := tS_b (c := c) h2.2.1
  have s3 := tS_b (c := c) h3.2.1
  rcases h with ⟨k, -, -, -, e⟩ | ⟨k, -, -, -, e⟩ | ⟨k, -, -, -, -, -, -, e⟩
  · have := tE_lt hi (by omega : tK c b i ≠ 7); omega
  · have := tE_lt hi (by omega : tK c b i ≠ 7); omega
  · have := tE_lt hi (by omega : tK c b i ≠ 7)
    have hc := cel_b (c := c) 12 0 0 (tE c b (tE c b (tE c b i))) h3.2.1 (by omega)
    have h4 := tE_b (c := c) hc.2.1
    have s4 := tS_b (c := c) hc.2.1
    omega
def DStep (q q' : St) (n T m : Nat) (it : Nat × Nat × Nat × Nat) : Prop := (it.1 = 2 ∧ q' = q.sI 4 (q.I 4 ||| ((1 : Int32) <<< (nI it.2.1 &&& 31)))) ∨ (it.1 = 4 ∧ q' = q.sA 0 (upd (q.A 0) 0 (q.A 0 0 + 1))) ∨ (it.1 = 3 ∧ PutN q q' n T m it.2.1 it.2.2.1 it.2.2.2)
theorem k_item {p q : St} {c : Nat → Nat} {b i n T m : Nat} (hT : TX p c b) (hi : i ≤ b) (hk : TkC p c b i) (h7 : tK c b i ≠ 7) (h1n : 1 ≤ n) (hn : n ≤ 6) (hTn : T ≤ n) (hm : m ≤ 10) (eI : q.I 3 = nI n) (eT : q.A 0 0 = nI T) (em : q.A 0 1 = nI m) {Post : Int32 → (St × St) → Prop} (h1 : ∀ it i' p' q', ItOk c b n T m i it i' → p'.2 = p.2 → p'.I 1 = p.I 1 → TkC p' c b i' → DStep q q' n T m it → Post 1 (p', q')) (h0 : ∀ f p' q', ItBad c b n T m i f → p'.2 = p.2 → p'.I 1 = p.I 1 → p'.I 4 = nI f → Post 0 (p', q')) : wpX7_readItem p q Post := by
  have hb := hT.1
  have hE1 := tE_b (c := c) hi
  have hE2 := tE_b (c := c) hE1.2.1
  have hE3 := tE_b (c := c) hE2.2.1
  have hE4 := tE_b (c := c) hE3.2.1
  have hcel := cel_b (c := c) 12 0 0 (tE c b (tE c b (tE c b i))) hE3.2.1 (by omega)
  unfold wpX7_readItem
  refine k_isWord (w := 1) hT hi hk (by omega) (fun w1 => b1e ?_) (fun w1 => b0e ?_)
  · -- carbon
    have w1 : tK c b i = 2 := w1
    unfold wpX7_readCarbon
    refine k_step hT hE1.2.1 hk.2.1 (fun y a1 a2 a3 a4 a5 => ?_)
    rw [eI, show nI n - 1 = nI (n - 1) from pk_sub (b := 1) h1n]
    have hTy := TX_of hT a1 a2
    refine k_isNumber (lo := 0) hE1.2.1 a5 (by omega) (by omega) (fun g => b1n ?_) (fun g => b0n (fun p18 p19 e => ?_))
    · intro p3 e3
      rw [a5.2.2.2 g.1] at e3
      refine k_step hTy hE2.2.1 a5.2.1 (fun y2 b1 b2 b3 b4 b5 => ?_)
      refine k_passStop (TX_of hTy b1 b2) hE2.2.1 b5 (fun g5 y3 c1 c2 c3 => ?_) (fun g5 => ?_)
      · refine ⟨vb1, fun p18 p19 e => ?_⟩
        obtain ⟨rfl, rfl⟩ := Prod.mk.inj e
        exact ⟨vb1, h1 _ _ y3 p3 (Or.inl ⟨w1, g, g5, rfl, rfl⟩) (c1.trans (b1.trans a1)) (c2.trans (b2.trans a2)) c3 (Or.inl ⟨rfl, e3⟩)⟩
      · refine ⟨vb0, fun p18 p19 e => ?_⟩
        obtain ⟨rfl, rfl⟩ := Prod.mk.inj e
        exact ⟨vb0, h0 _ y2 p3 (Or.inr (Or.inr (Or.inl ⟨w1, g, g5, rfl⟩))) (b1.trans a1) (b2.trans a2) b5.1⟩
    · obtain ⟨rfl, rfl⟩ := Prod.mk.inj e
      exact ⟨vb0, h0 _ y q (Or.inr (Or.inl ⟨w1, g, rfl⟩)) a1 a2 a5.1⟩
  · have w1 : tK c b i ≠ 2 := w1
    have bad : ((tK c b i ≠ 2 ∧ tK c b i ≠ 3 ∧ tK c b i ≠ 4) ∨ (tK c b i = 4 ∧ T = n) ∨ (tK c b i = 3 ∧ (T = n ∨ m = 10))) → Post 0 (p, q) := fun g => h0 _ p q (Or.inl ⟨h7, g, rfl⟩) rfl rfl hk.1
    -- what follows the word
    have go : ∀ x3 : Int32, (x3 = 0 → tK c b i = 3 ∧ m < 10) → (x3 ≠ 0 → tK c b i = 4) → wjX7_readItem_56 Post x3 p q := by
      intro x3 g3 g4
      unfold wjX7_readItem_56
      refine k_usedUp eT eI (by omega) hn (fun hlt => b0e ?_) (fun hge => b1e ?_)
      · refine k_step hT hE1.2.1 hk.2.1 (fun y a1 a2 a3 a4 a5 => ?_)
        have hTy := TX_of hT a1 a2
        refine ⟨fun e0 => ?_, fun e0 => ?_⟩
        · obtain ⟨k3, hm10⟩ := g3 e0
          unfold wpX7_readPen
          refine k_isNumber (lo := 0) (hi := 5) hE1.2.1 a5 (by omega) (by omega) (fun g => b1n ?_) (fun g => b0n (b0e ?_))
          · intro p2 e2
            rw [a5.2.2.2 g.1] at e2
            have hT2 : TX p2 c b := TX_of hTy (by rw [e2]; rfl) (by rw [e2]; rfl)
            refine k_step (i := tE c b (tE c b i)) hT2 hE2.2.1 (by rw [e2]; exact a5.2.1) (fun y2 b1 b2 b3 b4 b5 => ?_)
            have hTy2 := TX_of hT2 b1 b2
            refine k_isNumber (lo := 1) (hi := 9) hE2.2.1 b5 (by omega) (by omega) (fun gg => b1n ?_) (fun gg => b0n (b0e ?_))
            · intro p5 e5
              rw [b5.2.2.2 gg.1] at e5
              have hT5 : TX p5 c b := TX_of hTy2 (by rw [e5]; rfl) (by rw [e5]; rfl)
              refine k_step (i := tE c b (tE c b (tE c b i))) hT5 hE3.2.1 (by rw [e5]; exact b5.2.1) (fun y3 c1 c2 c3 c4 c5 => b1e ?_)
              have hTy3 := TX_of hT5 c1 c2
              refine k_readCells hTy3 hE3.2.1 c5 (fun y4 d1 d2 d3 d4 d5 => ?_)
              have e6 : y4.I 6 = nI (tV c b (tE c b i)) := by rw [d3, c3, e5, sI_I, if_neg (by decide), b3, e2, sI_I, if_pos rfl]
              have e7 : y4.I 7 = nI (tV c b (tE c b (tE c b i))) := by rw [d4, c4, e5, sI_I, if_pos rfl]
              rw [e6, e7]
              have f2 : y4.2 = p.2 := by rw [d1, c1, e5]; exact b1.trans (by rw [e2]; exact a1)
              have f1 : y4.I 1 = p.I 1 := by rw [d2, c2, e5, sI_I, if_neg (by decide), b2, e2, sI_I, if_neg (by decide)]; exact a2
              refine k_putNote (n := n) (T := T) (m := m) eI hn eT hlt em hm10 hcel.2.2 (fun q2 hP => ?_)
              unfold wjX7_readItem_115
              refine k_passStop (TX_of hTy3 d1 d2) hcel.2.1 d5 (fun g5 y5 z1 z2 z3 => ⟨vb1, ?_⟩) (fun g5 => ⟨vb0, ?_⟩)
              · exact h1 _ _ y5 q2 (Or.inr (Or.inr ⟨k3, hlt, hm10, g, gg, g5, rfl, rfl⟩)) (z1.trans f2) (z2.trans f1) z3 (Or.inr (Or.inr ⟨rfl, hP⟩))
              · exact h0 _ y4 q2 (Or.inr (Or.inr (Or.inr (Or.inr (Or.inr (Or.inr ⟨k3, hlt, hm10, g, gg, g5, rfl⟩)))))) f2 f1 d5.1
            · have f2 : y2.2 = p.2 := by rw [b1, e2]; exact a1
              have f1 : y2.I 1 = p.I 1 := by rw [b2, e2, sI_I, if_neg (by decide)]; exact a2
              exact h0 _ y2 q (Or.inr (Or.inr (Or.inr (Or.inr (Or.inr (Or.inl ⟨k3, hlt, hm10, g, gg, rfl⟩)))))) f2 f1 b5.1
          · exact h0 _ y q (Or.inr (Or.inr (Or.inr (Or.inr (Or.inl ⟨k3, hlt, hm10, g, rfl⟩))))) a1 a2 a5.1
        · have k4 := g4 e0
          intro q1 eq1
          unfold wjX7_readItem_115
          refine k_passStop hTy hE1.2.1 a5 (fun g5 y5 z1 z2 z3 => ⟨vb1, ?_⟩) (fun g5 => ⟨vb0, ?_⟩)
          · exact h1 _ _ y5 q1 (Or.inr (Or.inl ⟨k4, hlt, g5, rfl, rfl⟩)) (z1.trans a1) (z2.trans a2) z3 (Or.inr (Or.inl ⟨rfl, eq1⟩))
          · exact h0 _ y q1 (Or.inr (Or.inr (Or.inr (Or.inl ⟨k4, hlt, g5, rfl⟩)))) a1 a2 a5.1
      · refine bad ?_
        by_cases e0 : x3 = 0
        · exact Or.inr (Or.inr ⟨(g3 e0).1, Or.inl (by omega)⟩)
        · exact Or.inr (Or.inl ⟨g4 e0, by omega⟩)
    refine k_isWord (w := 2) hT hi hk (by omega) (fun w2 => ?_) (fun w2 => ?_)
    · have w2 : tK c b i = 4 := w2
      have yes : ∀ z0, wjX7_readItem_45 Post 1 z0 p q := fun z0 => ⟨fun _ => go 1 (fun e => absurd e (by decide)) (fun _ => w2), fun e => absurd e (by decide)⟩
      refine k_isWord (w := 3) hT hi hk (by omega) (fun w3 => ?_) (fun w3 => b0e (yes 0))
      have w3 : tK c b i = 3 := w3
      omega
    · have w2 : tK c b i ≠ 4 := w2
      refine k_isWord (w := 3) hT hi hk (by omega) (fun w3 => b1e ?_) (fun w3 => b0e ?_)
      · have w3 : tK c b i = 3 := w3
        refine k_noteCount ?_
        rw [em]
        refine pk_le 10 m (fun hge => ?_) (fun hlt => ?_)
        · exact ⟨fun e => absurd rfl e, fun _ => b0e (bad (Or.inr (Or.inr ⟨w3, Or.inr (by omega)⟩)))⟩
        · exact ⟨fun e => absurd rfl e, fun _ => b1e (go 0 (fun _ => ⟨w3, hlt⟩) (fun e => absurd rfl e))⟩
      · have w3 : tK c b i ≠ 3 := w3
        exact ⟨fun e => absurd rfl e, fun _ => b0e (bad (Or.inl ⟨w1, w3, w2⟩))⟩
