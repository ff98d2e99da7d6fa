/-! replaying items -/
def mkS (ca : Int32) (st : Nat → Int32) : St := (fun _ => ca, fun _ => 0, fun _ => st)
theorem wrS_mk (x : St) (n k pr ce : Nat) : wrS x n k pr ce = wrS (mkS (x.I 1) (x.A 4)) n k pr ce := rfl
def rpI (n : Nat) (s : Int32 × (Nat → Int32)) (it : Nat × Nat × Nat × Nat) : Int32 × (Nat → Int32) := if it.1 = 2 then (s.1 ||| ((1 : Int32) <<< (nI it.2.1 &&& 31)), s.2) else if it.1 = 3 then (s.1, wrS (mkS s.1 s.2) n it.2.1 it.2.2.1 it.2.2.2) else (s.1, upd s.2 125 (s.2 125 + 1))
def rpL (n : Nat) (s : Int32 × (Nat → Int32)) (L : List (Nat × Nat × Nat × Nat)) : Int32 × (Nat → Int32) := L.foldl (rpI n) s
theorem rpL_snoc (n : Nat) (s : Int32 × (Nat → Int32)) (L : List (Nat × Nat × Nat × Nat)) (it : Nat × Nat × Nat × Nat) : rpL n s (L ++ [it]) = rpI n (rpL n s L) it := by
  unfold rpL
  rw [List.foldl_append]; rfl
theorem tear_WF {st : Nat → Int32} {n : Nat} (hW : WF st n) (hT : tN st < n) (hn : n ≤ 6) : WF (upd st 125 (st 125 + 1)) n ∧ tN (upd st 125 (st 125 + 1)) = tN st + 1 ∧ mN (upd st 125 (st 125 + 1)) = mN st := by
  obtain ⟨w1, w2, w3, w4, w5, w6⟩ := hW
  have hstA : ∀ k, k ≠ 125 → upd st 125 (st 125 + 1) k = st k := fun k hk => upd_ne hk
  have hst125 : upd st 125 (st 125 + 1) 125 = nI (tN st + 1) := by rw [upd_at, w1]; exact nI_1 _
  have etN : tN (upd st 125 (st 125 + 1)) = tN st + 1 := by
    have : tN (upd st 125 (st 125 + 1)) = (nI (tN st + 1)).toNatClampNeg := by rw [← hst125]; rfl
    rw [this, ncl (by omega)]
  have emN : mN (upd st 125 (st 125 + 1)) = mN st := by unfold mN; rw [hstA 124 (by decide)]
  refine ⟨⟨by rw [hst125, etN], by omega, by rw [hstA 124 (by decide), emN]; exact w3, by omega, fun k hk => ?_, fun s hs c hc => ?_⟩, etN, emN⟩
  · rw [emN] at hk
    exact GN_c (fun i h1 h2 => hstA i (by omega)) (by rw [etN]; omega) (w5 k hk)
  · rw [hstA _ (by omega), w6 s hs c hc, emN, mx_c _ (fun i h1 h2 => hstA i (by omega))]
theorem PadN_tear0 {p : St} {st ah wo : Nat → Int32} {n w : Nat} (h : PadN p st ah wo n w 0) (hT : tN st < n) : PadN (p.sA 0 (upd (p.A 0) 0 (p.A 0 0 + 1))) (upd st 125 (st 125 + 1)) ah wo n w 0 := by
  have hcur := h.cur
  obtain ⟨g1, g2, g3, g4, g5, g6, g7, g8, g9, g10⟩ := h
  obtain ⟨t1, t2, t3⟩ := tear_WF hcur.2 hT g2
  obtain ⟨r1, r2, r3, r4⟩ := hcur.1
  have hstA : ∀ k, k ≠ 125 → upd st 125 (st 125 + 1) k = st k := fun k hk => upd_ne hk
  refine ⟨g1, g2, g3, g4, g5, g6, g7, g8, fun j hj => ?_, fun i j hij hj => ?_⟩
  · have e : j = 0 := by omega
    subst e
    unfold pgk stk
    rw [if_pos rfl, if_pos rfl]
    refine ⟨⟨?_, ?_, fun s hs => ⟨?_, ?_, fun c hc => ?_⟩, fun k hk => ?_⟩, t1⟩
    · show upd (p.A 0) 0 (p.A 0 0 + 1) 0 = _
      rw [upd_at, upd_at, r1]
    · show upd (p.A 0) 0 (p.A 0 0 + 1) 1 = _
      rw [upd_ne (by decide), hstA 124 (by decide)]; exact r2
    · show upd (p.A 0) 0 (p.A 0 0 + 1) (2 + 14 * s) = _
      rw [upd_ne (by omega), hstA _ (by omega)]; exact (r3 s hs).1
    · show upd (p.A 0) 0 (p.A 0 0 + 1) (3 + 14 * s) = _
      rw [upd_ne (by omega), hstA _ (by omega)]; exact (r3 s hs).2.1
    · show upd (p.A 0) 0 (p.A 0 0 + 1) (4 + 14 * s + c) = _
      rw [upd_ne (by omega), hstA _ (by omega)]; exact (r3 s hs).2.2 c hc
    · rw [t3] at hk
      have := hcur.2.2.2.2.1
      rw [hstA _ (by omega), hstA _ (by omega), hstA _ (by omega), hstA _ (by omega)]
      exact r4 k hk
  · have e : i = j := by omega
    rw [e]; exact Nat.le_refl _
def Dr (q : St) (n : Nat) (s : Int32 × (Nat → Int32)) (T m : Nat) : Prop := PadN q s.2 (fun _ => 0) (fun _ => 0) n 0 0 ∧ q.I 4 = s.1 ∧ tN s.2 = T ∧ mN s.2 = m
theorem Dr_step {q q' : St} {c : Nat → Nat} {b n T m i i' : Nat} {s : Int32 × (Nat → Int32)} {it : Nat × Nat × Nat × Nat} (hi : i ≤ b) (h : Dr q n s T m) (hO : ItOk c b n T m i it i') (hD : DStep q q' n T m it) : Dr q' n (rpI n s it) (T + trI it) (m + ntI it) := by
  obtain ⟨h1, h2, h3, h4⟩ := h
  have hE1 := tE_b (c := c) hi
  have hE2 := tE_b (c := c) hE1.2.1
  have hE3 := tE_b (c := c) hE2.2.1
  rcases hO with ⟨k, g, g5, rfl, -⟩ | ⟨k, hT, g5, rfl, -⟩ | ⟨k, hT, hm, g, gg, g5, rfl, -⟩
  · rcases hD with ⟨-, eq⟩ | ⟨w, -⟩ | ⟨w, -⟩
    · subst eq
      refine ⟨h1, ?_, h3, h4⟩
      show q.I 4 ||| _ = s.1 ||| _
      rw [h2]
    · exact absurd w (by show ¬ (2 : Nat) = 4; decide)
    · exact absurd w (by show ¬ (2 : Nat) = 3; decide)
  · rcases hD with ⟨w, -⟩ | ⟨-, eq⟩ | ⟨w, -⟩
    · exact absurd w (by show ¬ (4 : Nat) = 2; decide)
    · subst eq
      have ht := tear_WF h1.cur.2 (by omega) h1.2.1
      refine ⟨PadN_tear0 h1 (by omega), h2, ?_, ?_⟩
      · show tN (upd s.2 125 (s.2 125 + 1)) = T + 1
        rw [ht.2.1, h3]
      · show mN (upd s.2 125 (s.2 125 + 1)) = m + 0
        rw [ht.2.2, h4]; rfl
    · exact absurd w (by show ¬ (4 : Nat) = 3; decide)
  · rcases hD with ⟨w, -⟩ | ⟨w, -⟩ | ⟨-, hP⟩
    · exact absurd w (by show ¬ (3 : Nat) = 2; decide)
    · exact absurd w (by show ¬ (3 : Nat) = 4; decide)
    · have hP' : PutN q q' n T m (tV c b (tE c b i)) (tV c b (tE c b (tE c b i))) (cel c b 12 0 0 (tE c b (tE c b (tE c b i)))).1 := hP
      rw [← h3, ← h4] at hP'
      have hce := (cel_b (c := c) 12 0 0 (tE c b (tE c b (tE c b i))) hE3.2.1 (by omega)).2.2
      have hcur := h1.cur
      have gk := g.2.2
      have ggl := gg.2.1
      have ggh := gg.2.2
      have hp := PadN_put (x := mkS s.1 s.2) (st := s.2) rfl h1 h2 (by omega) (by omega) (by omega) ggl ggh hce hP'
      have hr := Put_RP (x := mkS s.1 s.2) (st := s.2) rfl hcur.1 hcur.2 h1.2.1 h2 (by omega) (by omega) (by omega) ggl ggh hce hP'
      refine ⟨hp, ?_, ?_, ?_⟩
      · rw [hP.1]; exact h2
      · show tN (wrS (mkS s.1 s.2) n _ _ _) = T + 0
        rw [hr.2.2.2]; exact h3
      · show mN (wrS (mkS s.1 s.2) n _ _ _) = m + 1
        rw [hr.2.2.1, h4]
/-! a run of items -/
def Ch (c : Nat → Nat) (b n : Nat) : Nat → Nat → Nat → List (Nat × Nat × Nat × Nat) → Nat → Nat → Nat → Prop
  | i0, T0, m0, [], i, T, m => i = i0 ∧ T = T0 ∧ m = m0
  | i0, T0, m0, it :: L, i, T, m => ∃ i1, ItOk c b n T0 m0 i0 it i1 ∧ Ch c b n i1 (T0 + trI it) (m0 + ntI it) L i T m
theorem Ch_snoc {c : Nat → Nat} {b n : Nat} {it : Nat × Nat × Nat × Nat} {i T m i' : Nat} (hO : ItOk c b n T m i it i') : ∀ (L : List (Nat × Nat × Nat × Nat)) (i0 T0 m0 : Nat), Ch c b n i0 T0 m0 L i T m → Ch c b n i0 T0 m0 (L ++ [it]) i' (T + trI it) (m + ntI it)
  | [], i0, T0, m0, h => by
    obtain ⟨rfl, rfl, rfl⟩ := h
    exact ⟨i', hO, rfl, rfl, rfl⟩
  | a :: L, i0, T0, m0, h => by
    obtain ⟨i1, h1, h2⟩ := h
    exact ⟨i1, h1, Ch_snoc hO L i1 _ _ h2⟩
def First (c : Nat → Nat) (b n i0 : Nat) : Prop := tK c b 0 = 1 ∧ inN c b (tE c b 0) 1 6 ∧ n = tV c b (tE c b 0) ∧ tK c b (tE c b (tE c b 0)) = 5 ∧ i0 = tE c b (tE c b (tE c b 0))
def FirstBad (c : Nat → Nat) (b f : Nat) : Prop := (tK c b 0 ≠ 1 ∧ f = tS c b 0) ∨ (tK c b 0 = 1 ∧ ¬ inN c b (tE c b 0) 1 6 ∧ f = tS c b (tE c b 0)) ∨ (tK c b 0 = 1 ∧ inN c b (tE c b 0) 1 6 ∧ tK c b (tE c b (tE c b 0)) ≠ 5 ∧ f = tS c b (tE c b (tE c b 0)))
theorem k_readInto {p q : St} {c : Nat → Nat} {b : Nat} (hT : TX p c b) {Post : Int32 → (St × St) → Prop} (hg : ∀ n i0 L i T m p' q', First c b n i0 → Ch c b n i0 0 0 L i T m → tK c b i = 7 → L.length ≤ 150 → (∀ row0 : Nat → Int32, (∀ k, k < 126 → row0 k = 0) → Dr q' n (rpL n (0, row0) L) T m) → p'.2 = p.2 → p'.I 1 = p.I 1 → Post (nI (1 + L.length)) (p', q')) (hb0 : ∀ f p' q', FirstBad c b f → p'.2 = p.2 → p'.I 1 = p.I 1 → p'.I 4 = nI f → Post (-1) (p', q')) (hb1 : ∀ n i0 L i T m f p' q', First c b n i0 → Ch c b n i0 0 0 L i T m → ItBad c b n T m i f → p'.2 = p.2 → p'.I 1 = p.I 1 → p'.I 4 = nI f → Post (-1) (p', q')) : wpX7_readInto p q Post := by
  have hb := hT.1
  have hE0 := tE_b (c := c) (Nat.zero_le b)
  have hE1 := tE_b (c := c) hE0.2.1
  have hE2 := tE_b (c := c) hE1.2.1
  intro p1 e1
  have hT1 : TX p1 c b := TX_of hT (by rw [e1]; rfl) (by rw [e1]; rfl)
  have f1 : p1.2 = p.2 := by rw [e1]; rfl
  have f11 : p1.I 1 = p.I 1 := by rw [e1]; rfl
  refine k_step hT1 (Nat.zero_le b) (by rw [e1]; rfl) (fun y a1 a2 a3 a4 a5 => ?_)
  have hTy := TX_of hT1 a1 a2
  unfold wpX7_readFirst
  refine k_isWord (w := 0) hTy (Nat.zero_le b) a5 (by omega) (fun w1 => b1n ?_) (fun w1 => b0n (fun p4 p5 e => ?_))
  · have w1 : tK c b 0 = 1 := w1
    refine k_step hTy hE0.2.1 a5.2.1 (fun y2 b1 b2 b3 b4 b5 => ?_)
    have hTy2 := TX_of hTy b1 b2
    refine k_isNumber (lo := 1) (hi := 6) hE0.2.1 b5 (by omega) (by omega) (fun g => b1n ?_) (fun g => b0n (fun p4 p5 e => ?_))
    · rw [b5.2.2.2 g.1]
      refine k_beginAnew (fun q1 c1 c2 c3 c4 c5 c6 => ?_)
      refine k_step hTy2 hE1.2.1 b5.2.1 (fun y3 d1 d2 d3 d4 d5 => ?_)
      have hTy3 := TX_of hTy2 d1 d2
      refine k_passStop hTy3 hE1.2.1 d5 (fun g5 y4 z1 z2 z3 => ⟨vb1, fun p4 p5 e => b1n ?_⟩) (fun g5 => ⟨vb0, fun p4 p5 e => b0n ?_⟩)
      · obtain ⟨rfl, rfl⟩ := Prod.mk.inj e
        have hF : First c b (tV c b (tE c b 0)) (tE c b (tE c b (tE c b 0))) := ⟨w1, g, rfl, g5, rfl⟩
        have hn1 := g.2.1
        have hn6 := g.2.2
        have hTy4 := TX_of hTy3 z1 z2
        have g1 : y4.2 = p.2 := z1.trans (d1.trans (b1.trans (a1.trans f1)))
        have g11 : y4.I 1 = p.I 1 := z2.trans (d2.trans (b2.trans (a2.trans f11)))
        refine it_rule (F := fun self z => wlX7_readInto_24 Post _ self z.1 z.2.1 z.2.2.1 z.2.2.2) (fun z => ∃ (L : List (Nat × Nat × Nat × Nat)) (i T m : Nat) (p' q' : St), z = (nI (1 + L.length), nI L.length, p', q') ∧ Ch c b (tV c b (tE c b 0)) (tE c b (tE c b (tE c b 0))) 0 0 L i T m ∧ i ≤ b ∧ L.length ≤ i ∧ p'.2 = p.2 ∧ p'.I 1 = p.I 1 ∧ TkC p' c b i ∧ T ≤ tV c b (tE c b 0) ∧ m ≤ 10 ∧ ∀ row0 : Nat → Int32, (∀ k, k < 126 → row0 k = 0) → Dr q' (tV c b (tE c b 0)) (rpL (tV c b (tE c b 0)) (0, row0) L) T m) (fun z => 151 - z.2.1.toNatClampNeg) ?_ _ ⟨[], tE c b (tE c b (tE c b 0)), 0, 0, y4, q1, rfl, ⟨rfl, rfl, rfl⟩, hE2.2.1, by simp, g1, g11, z3, by omega, by omega, fun row0 hz => ?_⟩
        · rintro self z ⟨L, i, T, m, p', q', rfl, hC, hi, hLi, k1, k2, k3, kT, km, kD⟩ hself
          dsimp only at hself ⊢
          unfold wlX7_readInto_24
          have hTp := TX_of hT k1 k2
          obtain ⟨D1, D2, D3, D4⟩ := kD (fun _ => 0) (fun _ _ => rfl)
          obtain ⟨q0, q1', q2, q3, q4, q5⟩ := D1.nums
          have hKC := tK_C c b i
          refine pk_lt 150 L.length (fun w => by omega) (fun _ => ?_)
          rw [k3.2.2.1]
          refine ⟨fun w => ?_, fun w => ?_⟩
          · have hk7 : tK c b i = 7 := hKC.1.mpr ((nI_eq (b := 0) (by omega) (by decide)).mp w)
            exact hg _ _ L i T m p' q' hF hC hk7 (by omega) kD k1 k2
          · have hk7 : tK c b i ≠ 7 := fun v => w (by rw [hKC.1.mp v]; rfl)
            refine k_item hTp hi k3 hk7 hn1 hn6 kT km D1.2.2.1 (by rw [← D3]; exact q0) (by rw [← D4]; exact q1') (fun it i' p2 q2' o1 o2 o3 o4 o5 p7 p8 e => b1n ?_) (fun f p2 q2' o1 o2 o3 o4 p7 p8 e => b0n ?_)
            · obtain ⟨rfl, rfl⟩ := Prod.mk.inj e
              intro v ev v2 ev2
              have hib := ItOk_b hi o1
              rw [ev, ev2, nI_1, nI_1]
              have hTm : T + trI it ≤ tV c b (tE c b 0) ∧ m + ntI it ≤ 10 := by
                rcases o1 with ⟨-, -, -, rfl, -⟩ | ⟨-, ht, -, rfl, -⟩ | ⟨-, -, hm, -, -, -, rfl, -⟩
                · exact ⟨kT, km⟩
                · exact ⟨ht, km⟩
                · exact ⟨kT, hm⟩
              refine hself _ ⟨L ++ [it], i', _, _, p2, q2', ?_, Ch_snoc o1 L _ _ _ hC, hib.2, ?_, o2.trans k1, o3.trans k2, o4, hTm.1, hTm.2, fun row0 hz => ?_⟩ ?_
              · rw [List.length_append]; rfl
              · rw [List.length_append]
                show L.length + 1 ≤ i'
                omega
              · rw [rpL_snoc]
                exact Dr_step hi (kD row0 hz) o1 o5
              · dsimp only; rw [ncl (by omega), ncl (by omega)]; omega
            · obtain ⟨rfl, rfl⟩ := Prod.mk.inj e
              exact hb1 _ _ L i T m f p2 q2' hF hC o1 (o2.trans k1) (o3.trans k2) o4
        · refine ⟨PadN_new hn1 hn6 c1 c4 c3 c5 hz, c2, ?_, ?_⟩
          · show tN row0 = 0
            unfold tN; rw [hz 125 (by decide)]; decide
          · show mN row0 = 0
            unfold mN; rw [hz 124 (by decide)]; decide
      · obtain ⟨rfl, rfl⟩ := Prod.mk.inj e
        exact hb0 _ y3 q1 (Or.inr (Or.inr ⟨w1, g, g5, rfl⟩)) (d1.trans (b1.trans (a1.trans f1))) (d2.trans (b2.trans (a2.trans f11))) d5.1
    · obtain ⟨rfl, rfl⟩ := Prod.mk.inj e
      refine ⟨fun w => absurd rfl w, fun _ => ?_⟩
      exact hb0 _ y2 q (Or.inr (Or.inl ⟨w1, g, rfl⟩)) (b1.trans (a1.trans f1)) (b2.trans (a2.trans f11)) b5.1
  · obtain ⟨rfl, rfl⟩ := Prod.mk.inj e
    have w1 : tK c b 0 ≠ 1 := w1
    refine ⟨fun w => absurd rfl w, fun _ => ?_⟩
    exact hb0 _ y q (Or.inl ⟨w1, rfl⟩) (a1.trans f1) (a2.trans f11) a5.1
