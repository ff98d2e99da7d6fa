/-! replaying in the model -/
theorem WF_put {x : St} {n k pr ce : Nat} {st : Nat → Int32} (hst : x.A 4 = st) (hW : WF st n) (hn : n ≤ 6) (hT : tN st < n) (hm : mN st < 10) (hk : k < 6) (hp1 : 1 ≤ pr) (hp9 : pr ≤ 9) (hce : ce < 4096) : WF (wrS x n k pr ce) n ∧ mN (wrS x n k pr ce) = mN st + 1 ∧ tN (wrS x n k pr ce) = tN st := by
  obtain ⟨w1, w2, w3, w4, w5, w6⟩ := hW
  have far : ∀ j, 84 ≤ j → rwS 12 12 6 1 (x.I 1) (tN st) k pr ce (inkR k ce (tN st) st) (n - tN st) j = st j := fun j hj => by
    rw [mS_far (by omega) _ (by omega), inkR_far (by omega)]
  have ew : wrS x n k pr ce = upd (upd (upd (upd (upd (rwS 12 12 6 1 (x.I 1) (tN st) k pr ce (inkR k ce (tN st) st) (n - tN st)) (84 + 4 * mN st) (nI k)) (85 + 4 * mN st) (nI pr)) (86 + 4 * mN st) (nI ce)) (87 + 4 * mN st) (nI (tN st))) 124 (nI (mN st + 1)) := by unfold wrS; rw [hst]
  have low : ∀ j, j < 84 → wrS x n k pr ce j = rwS 12 12 6 1 (x.I 1) (tN st) k pr ce (inkR k ce (tN st) st) (n - tN st) j := fun j hj => by
    rw [ew, upd_ne (by omega), upd_ne (by omega), upd_ne (by omega), upd_ne (by omega), upd_ne (by omega)]
  have old : ∀ j, 84 ≤ j → j < 84 + 4 * mN st → wrS x n k pr ce j = st j := fun j h1 h2 => by
    rw [ew, upd_ne (by omega), upd_ne (by omega), upd_ne (by omega), upd_ne (by omega), upd_ne (by omega), far j h1]
  have n0 : wrS x n k pr ce (84 + 4 * mN st) = nI k := by rw [ew, upd_ne (by omega), upd_ne (by omega), upd_ne (by omega), upd_ne (by omega), upd_at]
  have n1 : wrS x n k pr ce (85 + 4 * mN st) = nI pr := by rw [ew, upd_ne (by omega), upd_ne (by omega), upd_ne (by omega), upd_at]
  have n2 : wrS x n k pr ce (86 + 4 * mN st) = nI ce := by rw [ew, upd_ne (by omega), upd_ne (by omega), upd_at]
  have n3 : wrS x n k pr ce (87 + 4 * mN st) = nI (tN st) := by rw [ew, upd_ne (by omega), upd_at]
  have n124 : wrS x n k pr ce 124 = nI (mN st + 1) := by rw [ew, upd_at]
  have n125 : wrS x n k pr ce 125 = nI (tN st) := by rw [ew, upd_ne (by omega), upd_ne (by omega), upd_ne (by omega), upd_ne (by omega), upd_ne (by omega), far 125 (by omega), w1]
  have emN : mN (wrS x n k pr ce) = mN st + 1 := by
    have : mN (wrS x n k pr ce) = (nI (mN st + 1)).toNatClampNeg := by rw [← n124]; rfl
    rw [this, ncl (by omega)]
  have etN : tN (wrS x n k pr ce) = tN st := by
    have : tN (wrS x n k pr ce) = (nI (tN st)).toNatClampNeg := by rw [← n125]; rfl
    rw [this, ncl (by omega)]
  refine ⟨⟨by rw [n125, etN], by omega, by rw [n124, emN], by omega, fun j hj => ?_, fun s hs c hc => ?_⟩, emN, etN⟩
  · rw [emN] at hj
    by_cases hjm : j = mN st
    · subst hjm
      unfold GN kN prN ceN onN
      rw [n0, n1, n2, n3, ncl (by omega), ncl (by omega), ncl (by omega), ncl (by omega), etN]
      exact ⟨rfl, hk, rfl, hp1, hp9, rfl, hce, rfl, hT, Nat.le_refl _⟩
    · exact GN_c (fun i h1 h2 => old i (by omega) (by omega)) (by rw [etN]; exact Nat.le_refl _) (w5 j (by omega))
  · rw [emN, mx_s, mx_c _ (fun i h1 h2 => old i h1 h2), low _ (by omega), mS_dent (by omega) hc _ (by omega), inkR_far (by omega), w6 s hs c hc]
    have hmx : 0 ≤ (mx st s c (mN st)).toInt := by
      have := exN_T (K := 0) (c := c) (show WF st n from ⟨w1, w2, w3, w4, w5, w6⟩) (show s < 6 by omega) (mN st) (Nat.le_refl _)
      omega
    have hfr : frc (wrS x n k pr ce) s c (mN st) = if tN st ≤ s ∧ ce.testBit c = true then ftN k pr (s - tN st) else 0 := by
      unfold frc onN ceN
      rw [n0, n1, n2, n3, ncl (by omega), ncl (by omega)]; rfl
    rw [hfr]
    by_cases hq : tN st ≤ s ∧ ce.testBit c = true
    · rw [if_pos hq]
      by_cases hl : mx st s c (mN st) < ftN k pr (s - tN st)
      · rw [if_pos ⟨hq.1, by omega, hq.2, hl⟩, if_pos hl]
      · rw [if_neg (fun w => hl w.2.2.2), if_neg hl]
    · rw [if_neg hq, if_neg (fun w => hq ⟨w.1, w.2.2.1⟩), if_neg (fun w => by rw [fa_lt, z0I] at w; omega)]
def FrD (y x : St) : Prop := (∀ k, k ≠ 4 → y.A k = x.A k) ∧ (∀ k, y.L k = x.L k) ∧ ∀ k, k ≠ 1 → y.I k = x.I k
theorem FrD_refl (p : St) : FrD p p := ⟨fun _ _ => rfl, fun _ => rfl, fun _ _ => rfl⟩
theorem FrD.trans {z y p : St} (h : FrD z y) (g : FrD y p) : FrD z p := ⟨fun k hk => (h.1 k hk).trans (g.1 k hk), fun k => (h.2.1 k).trans (g.2.1 k), fun k a => (h.2.2 k a).trans (g.2.2 k a)⟩
theorem FrD_sA (x : St) (v : Nat → Int32) : FrD (x.sA 4 v) x := ⟨fun k hk => by rw [sA_A, if_neg hk], fun _ => rfl, fun _ _ => rfl⟩
theorem FrD_sI (x : St) (v : Int32) : FrD (x.sI 1 v) x := ⟨fun _ _ => rfl, fun _ => rfl, fun k hk => by rw [sI_I, if_neg hk]⟩
theorem m_replay {c : Nat → Nat} {b n : Nat} {Post : Int32 → St → Prop} {KX : St → Prop} (hn : n ≤ 6) : ∀ (L : List (Nat × Nat × Nat × Nat)) (i T m k : Nat) (x : St) {i' T' m' : Nat}, Ch c b n i T m L i' T' m' → i ≤ b → k + L.length < 148 → x.I 17 = nI (1 + (k + L.length)) → (∀ j (h : j < L.length), StoI (x.A 16) (k + j) (L[j])) → x.I 0 = nI n → WF (x.A 4) n → tN (x.A 4) = T → mN (x.A 4) = m → (∀ y : St, FrD y x → y.I 1 = (rpL n (x.I 1, x.A 4) L).1 → y.A 4 = (rpL n (x.I 1, x.A 4) L).2 → KX y) → wLX12_read_34 Post KX (L.length + 1) (nI (1 + k), x)
  | [], i, T, m, k, x, i', T', m', hC, hi, hl, e17, hS, e0, hW, hT, hm, hg => by
    show wlX12_read_34 Post KX _ (nI (1 + k)) x
    unfold wlX12_read_34
    have hl' : k + 0 < 148 := hl
    have e17' : x.I 17 = nI (1 + k) := e17
    refine ⟨fun _ => hg x (FrD_refl x) rfl rfl, fun w => absurd ?_ w⟩
    rw [e17']
    exact nI_le (Nat.le_refl _) (by omega)
  | it :: L, i, T, m, k, x, i', T', m', hC, hi, hl, e17, hS, e0, hW, hT, hm, hg => by
    obtain ⟨i1, hO, hC⟩ := hC
    rw [List.length_cons] at hl e17
    have h2 := ItOk_2 hi hO
    have hE1 := tE_b (c := c) hi
    have hE2 := tE_b (c := c) hE1.2.1
    have hE3 := tE_b (c := c) hE2.2.1
    have hcel := cel_b (c := c) 12 0 0 (tE c b (tE c b (tE c b i))) hE3.2.1 (by omega)
    obtain ⟨s0, s2, s3⟩ : StoI (x.A 16) k it := hS 0 (by rw [List.length_cons]; omega)
    show wlX12_read_34 Post KX (wLX12_read_34 Post KX (L.length + 1)) (nI (1 + k)) x
    unfold wlX12_read_34
    refine ⟨fun w => absurd w ?_, fun _ x2 ex2 => ?_⟩
    · rw [e17]
      exact nI_ge (by omega) (by omega)
    have ix : (4 : Int32) * nI (1 + k) = nI (4 * (1 + k)) := pk_mul 4 (1 + k)
    rw [ix] at ex2
    subst ex2
    have next : ∀ (z : Int32) (y : St), z = nI (1 + k) + 1 → FrD y x → WF (y.A 4) n → tN (y.A 4) = T + trI it → mN (y.A 4) = m + ntI it → (y.I 1, y.A 4) = rpI n (x.I 1, x.A 4) it → wLX12_read_34 Post KX (L.length + 1) (z, y) := by
      intro z y ez fy wy ty my ry
      rw [nI_1] at ez
      subst ez
      refine m_replay hn L i1 (T + trI it) (m + ntI it) (k + 1) y hC h2.2 (by omega) ?_ (fun j hj => ?_) ?_ wy ty my (fun u u1 u2 u3 => ?_)
      · rw [fy.2.2 17 (by decide), e17]; congr 1; omega
      · have := hS (j + 1) (by rw [List.length_cons]; omega)
        rw [show k + (j + 1) = k + 1 + j by omega] at this
        rw [fy.1 16 (by decide)]
        exact this
      · rw [fy.2.2 0 (by decide)]; exact e0
      · rw [ry] at u2 u3
        exact hg u (u1.trans fy) u2 u3
    rw [ncl (by omega), show nI (4 * (1 + k)) + 1 = nI (4 * (1 + k) + 1) from nI_1 _, show nI (4 * (1 + k)) + 2 = nI (4 * (1 + k) + 2) from nI_add _ 2, show nI (4 * (1 + k)) + 3 = nI (4 * (1 + k) + 3) from nI_add _ 3, ncl (by omega), ncl (by omega), ncl (by omega), s0]
    refine ⟨vp_in_nI (by omega) (by omega), ?_⟩
    rcases hO with ⟨-, g, -, rfl, -⟩ | ⟨-, hlt, -, rfl, -⟩ | ⟨-, hlt, hm10, g, gg, -, rfl, -⟩
    · refine ⟨fun e => absurd rfl e, fun _ => ⟨vp_in_nI (by omega) (by omega), fun y ey z ez => ?_⟩⟩
      rw [s2 rfl] at ey
      subst ey
      exact next z _ ez (FrD_sI x _) hW hT hm rfl
    · refine ⟨fun _ => ⟨vp_in_nI (by omega) (by omega), fun _ y ey z ez => ?_, fun e => absurd e (by show ¬ (4 : Int32) = 3; decide)⟩, fun e => absurd e (by show ¬ (4 : Int32) = 2; decide)⟩
      subst ey
      have ht := tear_WF hW (by omega) hn
      exact next z _ ez (FrD_sA x _) ht.1 (by show tN (upd (x.A 4) 125 (x.A 4 125 + 1)) = T + 1; rw [ht.2.1, hT]) (by show mN (upd (x.A 4) 125 (x.A 4 125 + 1)) = m + 0; rw [ht.2.2, hm]; rfl) rfl
    · refine ⟨fun _ => ⟨vp_in_nI (by omega) (by omega), fun e => absurd rfl e, fun _ => ⟨vp_in_nI (by omega) (by omega), vp_in_nI (by omega) (by omega), vp_in_nI (by omega) (by omega), ?_⟩⟩, fun e => absurd e (by show ¬ (3 : Int32) = 2; decide)⟩
      obtain ⟨q1, q2, q3⟩ := s3 rfl
      rw [q1, q2, q3]
      have gk := g.2.2
      have ggl := gg.2.1
      have ggh := gg.2.2
      refine m_writeNow e0 hn hW (by omega) (by show tV c b (tE c b i) < 6; omega) hcel.2.2 (fun z ez => ?_)
      have hp := WF_put (x := x) (pr := tV c b (tE c b (tE c b i))) rfl hW hn (by omega) (by omega) (show tV c b (tE c b i) < 6 by omega) ggl ggh hcel.2.2
      generalize tV c b (tE c b i) = v1 at hp next ⊢
      generalize tV c b (tE c b (tE c b i)) = v2 at hp next ⊢
      generalize (cel c b 12 0 0 (tE c b (tE c b (tE c b i)))).1 = v3 at hp next ⊢
      refine next z _ ez (FrD_sA x _) hp.1 (hp.2.2.trans hT) (hp.2.1.trans (by rw [hm]; rfl)) ?_
      show (x.I 1, wrS x n v1 v2 v3) = rpI n (x.I 1, x.A 4) (3, v1, v2, v3)
      rfl
theorem WF_0 {st : Nat → Int32} {n : Nat} (h1 : 1 ≤ n) (h6 : n ≤ 6) (hs : ∀ k, k < 126 → st k = 0) : WF st n ∧ tN st = 0 ∧ mN st = 0 := by
  have et : tN st = 0 := by unfold tN; rw [hs 125 (by decide)]; decide
  have em : mN st = 0 := by unfold mN; rw [hs 124 (by decide)]; decide
  refine ⟨⟨by rw [et, hs 125 (by decide)]; rfl, by omega, by rw [em, hs 124 (by decide)]; rfl, by omega, fun k hk => by rw [em] at hk; omega, fun s hs6 c hc => ?_⟩, et, em⟩
  rw [em, hs _ (by omega)]; rfl
/-- what read leaves of the model's state -/
def FrE (y x : St) : Prop := (∀ k, k ≠ 4 → k ≠ 16 → y.A k = x.A k) ∧ (∀ k, y.L k = x.L k) ∧ ∀ k, k = 11 ∨ 20 < k → y.I k = x.I k
theorem m_readG {x : St} {c : Nat → Nat} {b n i0 i T m : Nat} {L : List (Nat × Nat × Nat × Nat)} (hT : TM x c b) (hF : First c b n i0) (hC : Ch c b n i0 0 0 L i T m) (h7 : tK c b i = 7) {Post : Int32 → St → Prop} (h : ∀ (y : St) (row0 : Nat → Int32), (∀ k, k < 126 → row0 k = 0) → FrE y x → y.I 0 = nI n → y.I 3 = 0 → y.I 6 = 0 → y.I 1 = (rpL n (0, row0) L).1 → y.A 4 = (rpL n (0, row0) L).2 → Post (nI (1 + L.length)) y) : wpX12_read x Post := by
  have hb := hT.1
  have hn1 := hF.2.1.2.1
  have hn6 := hF.2.1.2.2
  rw [← hF.2.2.1] at hn1 hn6
  have hi0 : i0 ≤ b := by
    have hE0 := tE_b (c := c) (Nat.zero_le b)
    have hE1 := tE_b (c := c) hE0.2.1
    have hE2 := tE_b (c := c) hE1.2.1
    rw [hF.2.2.2.2]; exact hE2.2.1
  have hl := Ch_len L hC hi0
  unfold wpX12_read
  refine m_padG hT hF hC h7 (fun y f1 e17 e18 hS => b1n (fun p3 e3 => ?_))
  rw [e18] at e3
  refine m_empty (fun p4 a1 a6 aI aL a4 aA => ?_)
  intro p5 e5
  have hz : ∀ k, k < 126 → p5.A 4 k = 0 := by rw [e5]; exact a4
  have hw := WF_0 hn1 hn6 hz
  have hA : ∀ k, k ≠ 4 → k ≠ 16 → p5.A k = x.A k := fun k k4 k16 => by
    rw [e5, sI_A, aA k k4, e3, sI_A]; exact f1.1 k k16
  have hA16 : p5.A 16 = y.A 16 := by rw [e5, sI_A, aA 16 (by decide), e3, sI_A]
  have hL : ∀ k, p5.L k = x.L k := fun k => by rw [e5, sI_L, aL k, e3, sI_L]; exact f1.2.1 k
  have hI : ∀ k, k ≠ 3 → k ≠ 1 → k ≠ 6 → k ≠ 0 → p5.I k = y.I k := fun k k3 k1 k6 k0 => by
    rw [e5, sI_I, if_neg k3, aI k k1 k6, e3, sI_I, if_neg k0]
  have i0' : p5.I 0 = nI n := by rw [e5, sI_I, if_neg (by decide), aI 0 (by decide) (by decide), e3, sI_I, if_pos rfl]
  have i1 : p5.I 1 = 0 := by rw [e5, sI_I, if_neg (by decide)]; exact a1
  have i3 : p5.I 3 = 0 := by rw [e5, sI_I, if_pos rfl]
  have i6 : p5.I 6 = 0 := by rw [e5, sI_I, if_neg (by decide)]; exact a6
  have i17 : p5.I 17 = nI (1 + (0 + L.length)) := by rw [hI 17 (by decide) (by decide) (by decide) (by decide), e17, Nat.zero_add]
  refine ⟨L.length + 1, ?_⟩
  refine m_replay hn6 L i0 0 0 0 p5 hC hi0 (by omega) i17 (fun j hj => ?_) i0' hw.1 hw.2.1 hw.2.2 (fun z z1 z2 z3 => ?_)
  · rw [Nat.zero_add, hA16]; exact hS j hj
  · rw [i1] at z2 z3
    have hz17 : z.I 17 = nI (1 + L.length) := by rw [z1.2.2 17 (by decide), i17, Nat.zero_add]
    show Post (z.I 17) z
    rw [hz17]
    refine h z (p5.A 4) hz ⟨fun k k4 k16 => (z1.1 k k4).trans (hA k k4 k16), fun k => (z1.2.1 k).trans (hL k), fun k hk => ?_⟩ ((z1.2.2 0 (by decide)).trans i0') ((z1.2.2 3 (by decide)).trans i3) ((z1.2.2 6 (by decide)).trans i6) z2 z3
    rw [z1.2.2 k (by omega), hI k (by omega) (by omega) (by omega) (by omega)]
    exact f1.2.2 k (by omega)
theorem m_readB {x : St} {c : Nat → Nat} {b f : Nat} (hT : TM x c b) (hB : FirstBad c b f ∨ ∃ n i0 L i T m, First c b n i0 ∧ Ch c b n i0 0 0 L i T m ∧ ItBad c b n T m i f) {Post : Int32 → St → Prop} (h : ∀ y : St, FrC y x → Post (((-10) : Int32) - nI f) y) : wpX12_read x Post := by
  unfold wpX12_read
  refine m_padB hT hB (fun y f1 e15 => b0n ?_)
  rw [e15]; exact h y f1
theorem s_read {t : Nat → St} {x : St} (h : Rel t x) : SimI (wpX11_read t) (wpX12_read x) := by
  obtain ⟨hN, hO, hT, hM⟩ := id h
  obtain ⟨b, hb, eb, ebx, hch⟩ := hT
  have hc : ∀ k, k < b → x.A 10 k = nI ((x.A 10 k).toNatClampNeg) ∧ (x.A 10 k).toNatClampNeg < 128 := fun k hk => by
    obtain ⟨-, c, hc, e⟩ := hch k hk
    rw [e, ncl (by omega)]; exact ⟨rfl, hc⟩
  have hTX : TX (t 8) (fun k => (x.A 10 k).toNatClampNeg) b := ⟨hb, eb, fun k hk => ⟨(hch k hk).1.trans (hc k hk).1, (hc k hk).2⟩⟩
  have hTM : TM x (fun k => (x.A 10 k).toNatClampNeg) b := ⟨hb, ebx, hc⟩
  generalize (fun k => (x.A 10 k).toNatClampNeg) = c at hTX hTM
  have bad : ∀ (f : Nat) (p' q' : St), (FirstBad c b f ∨ ∃ n i0 L i T m, First c b n i0 ∧ Ch c b n i0 0 0 L i T m ∧ ItBad c b n T m i f) → p'.2 = (t 8).2 → p'.I 1 = (t 8).I 1 → p'.I 4 = nI f → ∀ (p2 p3 : St), ((p', q') : St × St) = (p2, p3) → ∀ t4 : Nat → St, t4 = upS (upS t 8 p2) 3 p3 → ((0 ≤ (-1 : Int32)) → wpX4_copyFrom (t4 2) (t4 3) (fun (p5 : St) => ∀ t6 : Nat → St, t6 = upS t4 2 p5 → wpX12_read x (fun r' x' => (-1 : Int32) = r' ∧ Rel t6 x'))) ∧ ((¬ 0 ≤ (-1 : Int32)) → wpX7_fault (t4 8) (fun (r7 : Int32) => wpX12_read x (fun r' x' => ((-10) : Int32) - r7 = r' ∧ Rel t4 x'))) := by
    intro f p' q' hB g2 g1 g4 p2 p3 e t4 et4
    obtain ⟨rfl, rfl⟩ := Prod.mk.inj e
    refine ⟨fun w => absurd w (by decide), fun _ => ?_⟩
    have e8 : t4 8 = p' := by rw [et4]; rfl
    show wpX12_read x (fun r' x' => ((-10) : Int32) - (t4 8).I 4 = r' ∧ Rel t4 x')
    rw [e8, g4]
    refine m_readB hTM hB (fun y f1 => ⟨rfl, ?_⟩)
    have e0 : t4 0 = t 0 := by rw [et4]; rfl
    have e2 : t4 2 = t 2 := by rw [et4]; rfl
    have e4 : t4 4 = t 4 := by rw [et4]; rfl
    have e5 : t4 5 = t 5 := by rw [et4]; rfl
    unfold Rel
    rw [e0, e2, e4, e5, e8]
    refine ⟨?_, ?_, ⟨b, hb, g1.trans eb, ?_, fun k hk => ?_⟩, ?_⟩
    · unfold NowR at hN ⊢
      rw [f1.1 4 (by decide), f1.1 5 (by decide), f1.1 2 (by decide), f1.2.2 0 (by omega), f1.2.2 1 (by omega), f1.2.2 3 (by omega), f1.2.2 6 (by omega)]; exact hN
    · unfold ObjR at hO ⊢
      rw [f1.2.1, f1.2.1, f1.1 9 (by decide)]; exact hO
    · rw [f1.2.2 11 (by omega)]; exact ebx
    · rw [f1.1 10 (by decide), A_of2 g2]; exact hch k hk
    · unfold ImsR at hM ⊢
      rw [f1.1 27 (by decide), f1.1 28 (by decide)]; exact hM
  unfold SimI wpX11_read
  refine k_readInto hTX (fun n i0 L i T m p' q' hF hC h7 hLen hD g2 g1 => ?_) (fun f p' q' hB g2 g1 g4 => bad f p' q' (Or.inl hB) g2 g1 g4) (fun n i0 L i T m f p' q' hF hC hI g2 g1 g4 => bad f p' q' (Or.inr ⟨n, i0, L, i, T, m, hF, hC, hI⟩) g2 g1 g4)
  clear bad
  intro p2 p3 e t4 et4
  obtain ⟨rfl, rfl⟩ := Prod.mk.inj e
  refine ⟨fun _ => ?_, fun w => absurd ?_ w⟩
  · have e2 : t4 2 = t 2 := by rw [et4]; rfl
    have e3 : t4 3 = q' := by rw [et4]; rfl
    have e8 : t4 8 = p' := by rw [et4]; rfl
    have D0 := (hD (fun _ => 0) (fun _ _ => rfl)).1
    rw [e2, e3]
    refine k_copyP (u := 0) D0.2.2.2.2.2.2.1 (by omega) (fun p'' cp => ?_)
    intro t6 et6
    refine m_readG hTM hF hC h7 (fun y row0 hz f1 i0' i3 i6 i1 a4 => ⟨rfl, ?_⟩)
    have g2' : t6 2 = p'' := by rw [et6]; rfl
    have g0' : t6 0 = t 0 := by rw [et6, et4]; rfl
    have g4' : t6 4 = t 4 := by rw [et6, et4]; rfl
    have g5' : t6 5 = t 5 := by rw [et6, et4]; rfl
    have g8' : t6 8 = p' := by rw [et6, et4]; rfl
    have D := hD row0 hz
    unfold Rel
    rw [g2', g0', g4', g5', g8']
    refine ⟨⟨?_, n, 0, 0, i0', i3, i6, ?_⟩, ?_, ⟨b, hb, g1.trans eb, ?_, fun k hk => ?_⟩, ?_⟩
    · rw [cp.2.1, D.2.1, i1]
    · rw [a4]
      exact PadN_copy cp (fun _ _ => rfl) (fun k hk => absurd hk (by omega)) (fun k hk => absurd hk (by omega)) D.1
    · unfold ObjR at hO ⊢
      rw [f1.2.1, f1.2.1, f1.1 9 (by decide) (by decide)]; exact hO
    · rw [f1.2.2 11 (by omega)]; exact ebx
    · rw [f1.1 10 (by decide) (by decide), A_of2 g2]; exact hch k hk
    · unfold ImsR at hM ⊢
      rw [f1.1 27 (by decide) (by decide), f1.1 28 (by decide) (by decide)]; exact hM
  · rw [show (0 : Int32) = nI 0 from rfl]
    exact nI_le (by omega) (by omega)
