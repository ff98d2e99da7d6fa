theorem k_pressInto {p : St} {s ce T : Nat} {f : Int32} (hs : s < 6) (hce : ce < 4096) (eT : p.A 0 0 = nI T) (hT : T ≤ 6) {Post : St → Prop} (h1 : T < s → cbit (p.I 4) s = true → ¬ f < 2 → Post (p.sA 0 (upd (dI (p.A 0) (4 + 14 * s) ce f 12) (3 + 14 * s) ((dI (p.A 0) (4 + 14 * s) ce f 12) (3 + 14 * s) ||| nI ce)))) (h0 : ¬ (T < s ∧ cbit (p.I 4) s = true ∧ ¬ f < 2) → Post (p.sA 0 (dI (p.A 0) (4 + 14 * s) ce f 12))) : wpX4_pressInto (nI s) (nI ce) f p Post := by
  unfold wpX4_pressInto
  refine k_place (c := 2) ?_
  rw [show 2 + 14 * s + 2 = 4 + 14 * s by omega]
  refine k_dentInto (by omega) (by omega) (by omega) ?_
  have e0 : ((p.sA 0 (dI (p.A 0) (4 + 14 * s) ce f 12)).A 0) 0 = nI T := by
    show dI (p.A 0) (4 + 14 * s) ce f 12 0 = _
    rw [dI_out (by omega)]; exact eT
  rw [e0]
  unfold wjX4_pressInto_42
  refine ⟨fun q => b0e (h0 (fun w => ?_)), fun q => ⟨fun q2 => b0e (h0 (fun w => ?_)), fun q2 => b1e ⟨fun q3 => h0 (fun w => w.2.2 q3), fun q3 => ?_⟩⟩⟩
  · rw [fa_le, nI_toInt (by omega), nI_toInt (by omega)] at q
    omega
  · have := w.2.1
    unfold cbit at this
    exact (of_decide_eq_true this) q2
  · have hlt : T < s := by
      refine Nat.lt_of_not_le (fun w => q (nI_le w (by omega)))
    refine k_place (c := 1) ?_
    rw [show 2 + 14 * s + 1 = 3 + 14 * s by omega, ncl (by omega)]
    refine ⟨vp_in_nI (by omega) (by omega), vp_in_nI (by omega) (by omega), fun y ey => ?_⟩
    subst ey
    rw [sA_sA]
    exact h1 hlt (decide_eq_true q2) q3
theorem k_forceAt {p : St} {m T k pr i : Nat} (hm : m < 10) (e8 : p.A 8 m = nI T) (e9 : ∀ d, d < 6 → p.A 9 (6 * m + d) = ftN k pr d) (hi : i < 6) (hT : T ≤ 6) {Post : Int32 → Prop} (h : Post (ftN k pr i)) : wpX4_forceOn (nI m) (nI (T + i)) p Post := by
  refine ⟨vp_in_nI (by omega) (by omega), ?_⟩
  rw [ncl (by omega), e8]
  unfold wpX4_forceDown
  rw [pk_sub (by omega), show T + i - T = i by omega]
  have e : (nI m * 6 + nI i) = nI (6 * m + i) := by
    show nI m * nI 6 + _ = _
    rw [pk_mul, nI_add]; congr 1; omega
  refine ⟨fun z => absurd z (nI_pos (by omega)), fun _ => ⟨fun _ => ?_, fun z => absurd (nI_lt (a := i) (b := 6) (by omega) (by decide)) z⟩⟩
  rw [e, ncl (by omega), e9 _ (by omega)]
  exact ⟨vp_in_nI (by omega) (by omega), h⟩
theorem k_noteL {p : St} {n T m k pr ce : Nat} (eI : p.I 3 = nI n) (hn : n ≤ 6) (eT : p.A 0 0 = nI T) (hT : T ≤ n) (hm : m < 10) (hce : ce < 4096) (e8 : p.A 8 m = nI T) (e9 : ∀ d, d < 6 → p.A 9 (6 * m + d) = ftN k pr d) {Post : Int32 → St → Prop} {KX : Int32 → St → Prop} (h : KX (nI m) (p.sA 0 (rwS 4 14 3 14 (p.I 4) T k pr ce (p.A 0) (n - T)))) : ∃ n, wLX4_putNote_143 Post KX n (nI ce, nI m, nI T, p) := by
  have e0 : ((nI ce, nI m, nI T, p) : Int32 × Int32 × Int32 × St) = (fun i => (nI ce, nI m, nI (T + i), p.sA 0 (rwS 4 14 3 14 (p.I 4) T k pr ce (p.A 0) i))) 0 := by
    show _ = (nI ce, nI m, nI T, p.sA 0 (p.A 0))
    rw [sA_same]
  rw [e0]
  refine for_rule (F := fun self z => wlX4_putNote_143 Post KX self z.1 z.2.1 z.2.2.1 z.2.2.2) (n - T) (fun i => (nI ce, nI m, nI (T + i), p.sA 0 (rwS 4 14 3 14 (p.I 4) T k pr ce (p.A 0) i))) ?_ ?_
  · intro self i hi hself
    dsimp only at hself ⊢
    unfold wlX4_putNote_143
    have eI' : (p.sA 0 (rwS 4 14 3 14 (p.I 4) T k pr ce (p.A 0) i)).I 3 = nI n := eI
    rw [eI']
    refine ⟨fun z => absurd z (nI_ge (by omega) (by omega)), fun _ => k_forceAt (p := p.sA 0 (rwS 4 14 3 14 (p.I 4) T k pr ce (p.A 0) i)) (i := i) hm e8 e9 (by omega) (by omega) ?_⟩
    have hs := rwS_s 4 14 3 14 (p.I 4) T k pr ce (p.A 0) i
    have eT' : ((p.sA 0 (rwS 4 14 3 14 (p.I 4) T k pr ce (p.A 0) i)).A 0) 0 = nI T := (kS_far (Or.inl (by omega)) i (by omega)).trans eT
    refine k_pressInto (by omega) hce eT' (by omega) (fun q1 q2 q3 z ez => ?_) (fun q z ez => ?_)
    · subst ez
      have hc : cpc (p.I 4) T k pr i = true := by
        unfold cpc
        rw [decide_eq_true (show 0 < i by omega), show cbit (p.I 4) (T + i) = true from q2, decide_eq_true q3]; rfl
      rw [if_pos hc] at hs
      rw [nI_1, sA_sA]
      rw [hs] at hself
      exact hself
    · subst ez
      have hc : ¬ cpc (p.I 4) T k pr i = true := by
        intro w
        unfold cpc at w
        simp only [Bool.and_eq_true, decide_eq_true_eq] at w
        exact q ⟨by omega, w.2.1, w.2.2⟩
      rw [if_neg hc] at hs
      rw [nI_1, sA_sA]
      rw [hs] at hself
      exact hself
  · intro self
    dsimp only
    unfold wlX4_putNote_143
    have eI' : (p.sA 0 (rwS 4 14 3 14 (p.I 4) T k pr ce (p.A 0) (n - T))).I 3 = nI n := eI
    rw [eI', show T + (n - T) = n by omega]
    exact ⟨fun _ => h, fun z => absurd (nI_le (Nat.le_refl n) (by omega)) z⟩
theorem k_forcesL {p : St} {m k pr : Nat} {a4 a6 : Int32} (hm : m < 10) {Post : Int32 → St → Prop} {KX : Int32 → Int32 → Int32 → Int32 → St → Prop} (h : ∀ p' : St, (∀ k, p'.I k = p.I k) → (∀ k, k ≠ 9 → p'.A k = p.A k) → (∀ d, d < 6 → p'.A 9 (6 * m + d) = ftN k pr d) → (∀ j, j < 6 * m → p'.A 9 j = p.A 9 j) → KX (nI k) a4 (nI m) a6 p') : ∃ n, wLX4_putNote_71 Post KX n (nI k, nI pr, a4, nI m, a6, 0, p) := by
  refine it_rule (F := fun self z => wlX4_putNote_71 Post KX self z.1 z.2.1 z.2.2.1 z.2.2.2.1 z.2.2.2.2.1 z.2.2.2.2.2.1 z.2.2.2.2.2.2) (fun z => ∃ (i : Nat) (y : St), z = (nI k, nI pr, a4, nI m, a6, nI i, y) ∧ i ≤ 6 ∧ (∀ k, y.I k = p.I k) ∧ (∀ k, k ≠ 9 → y.A k = p.A k) ∧ (∀ d, d < i → y.A 9 (6 * m + d) = ftN k pr d) ∧ ∀ j, j < 6 * m → y.A 9 j = p.A 9 j) (fun z => 6 - z.2.2.2.2.2.1.toNatClampNeg) ?_ _ ⟨0, p, rfl, by omega, fun _ => rfl, fun _ _ => rfl, fun d hd => absurd hd (Nat.not_lt_zero d), fun _ _ => rfl⟩
  rintro self z ⟨i, y, rfl, hi, a1, a2, a3, a5⟩ hself
  dsimp only at hself ⊢
  unfold wlX4_putNote_71 wpX5_forceOf
  have e : (nI m * 6 + nI i) = nI (6 * m + i) := by
    show nI m * nI 6 + _ = _
    rw [pk_mul, nI_add]; congr 1; omega
  refine pk_le 6 i (fun hle => ?_) (fun hlt => ?_)
  · have e6 : i = 6 := by omega
    subst e6
    exact h y a1 a2 a3 a5
  · rw [e]
    refine ⟨vp_in_nI (by omega) (by omega), fun y' ey z ez => ?_⟩
    rw [ncl (by omega)] at ey
    subst ey; subst ez
    rw [nI_1]
    refine hself _ ⟨i + 1, _, rfl, by omega, a1, fun k hk => ?_, fun d hd => ?_, fun j hj => ?_⟩ (by dsimp only; rw [ncl (by omega), ncl (by omega)]; omega)
    · rw [sA_A, if_neg hk]; exact a2 k hk
    · show upd (y.A 9) (6 * m + i) (fo (nI k) (nI pr) (nI i)) (6 * m + d) = _
      by_cases hdi : d = i
      · subst hdi; exact upd_at
      · rw [upd_ne (by omega)]; exact a3 d (by omega)
    · show upd (y.A 9) (6 * m + i) (fo (nI k) (nI pr) (nI i)) j = _
      rw [upd_ne (by omega)]; exact a5 j hj
/-- the class's pad after a note -/
def PutN (p p' : St) (n T m k pr ce : Nat) : Prop := (∀ j, p'.I j = p.I j) ∧ p'.A 1 = p.A 1 ∧ p'.A 10 = p.A 10 ∧ p'.A 5 = upd (p.A 5) m (nI k) ∧ p'.A 6 = upd (p.A 6) m (nI pr) ∧ p'.A 7 = upd (p.A 7) m (nI ce) ∧ p'.A 8 = upd (p.A 8) m (nI T) ∧ (∀ d, d < 6 → p'.A 9 (6 * m + d) = ftN k pr d) ∧ (∀ j, j < 6 * m → p'.A 9 j = p.A 9 j) ∧ p'.A 0 = rwS 4 14 3 14 (p.I 4) T k pr ce (inkR k ce (2 + 14 * T) (upd (p.A 0) 1 (nI (m + 1)))) (n - T)
theorem k_putNote {p : St} {n T m k pr ce : Nat} (eI : p.I 3 = nI n) (hn : n ≤ 6) (eT : p.A 0 0 = nI T) (hT : T < n) (em : p.A 0 1 = nI m) (hm : m < 10) (hce : ce < 4096) {Post : Int32 → St → Prop} (h : ∀ p', PutN p p' n T m k pr ce → Post (nI m) p') : wpX4_putNote (nI k) (nI pr) (nI ce) p Post := by
  intro r er r2 er2
  rw [em] at er
  rw [eT] at er2
  subst er; subst er2
  refine ⟨fun q => absurd q (nI_ge (b := 10) hm (by decide)), fun _ => ⟨fun _ => ?_, fun q => absurd (by rw [eI]; exact nI_lt hT (by omega)) q⟩⟩
  rw [ncl (by omega)]
  refine ⟨vp_in_nI (by omega) (by omega), fun p3 e3 => ⟨vp_in_nI (by omega) (by omega), fun p4 e4 => ⟨vp_in_nI (by omega) (by omega), fun p5 e5 => ⟨vp_in_nI (by omega) (by omega), fun p6 e6 => ?_⟩⟩⟩⟩
  refine k_forcesL hm (fun y a1 a2 a3 a4 => ?_)
  intro y1 ey1
  rw [nI_1] at ey1
  have i6 : ∀ j, p6.I j = p.I j := fun j => by rw [e6, e5, e4, e3]; rfl
  have b0 : p6.A 0 = p.A 0 := by rw [e6, e5, e4, e3]; rfl
  have b1 : p6.A 1 = p.A 1 := by rw [e6, e5, e4, e3]; rfl
  have b10 : p6.A 10 = p.A 10 := by rw [e6, e5, e4, e3]; rfl
  have b5 : p6.A 5 = upd (p.A 5) m (nI k) := by rw [e6, e5, e4, e3]; rfl
  have b6 : p6.A 6 = upd (p.A 6) m (nI pr) := by rw [e6, e5, e4, e3]; rfl
  have b7 : p6.A 7 = upd (p.A 7) m (nI ce) := by rw [e6, e5, e4, e3]; rfl
  have b8 : p6.A 8 = upd (p.A 8) m (nI T) := by rw [e6, e5, e4, e3]; rfl
  have b9 : p6.A 9 = p.A 9 := by rw [e6, e5, e4, e3]; rfl
  have c0 : y1.A 0 = upd (p.A 0) 1 (nI (m + 1)) := by rw [ey1, sA_A, if_pos rfl, a2 0 (by decide), b0]
  have cA : ∀ j, j ≠ 0 → y1.A j = y.A j := fun j hj => by rw [ey1, sA_A, if_neg hj]
  have cI : ∀ j, y1.I j = p.I j := fun j => by rw [ey1, sA_I, a1, i6]
  have fin : ∀ z : St, (∀ j, z.I j = y1.I j) → (∀ j, j ≠ 0 → z.A j = y1.A j) → z.A 0 = inkR k ce (2 + 14 * T) (y1.A 0) → ∃ n, wLX4_putNote_143 Post (fun (y20 : Int32) (p21 : St) => Post y20 p21) n (nI ce, nI m, nI T, z) := by
    intro z f1 f2 f3
    refine k_noteL (n := n) (k := k) (pr := pr) (by rw [f1, cI]; exact eI) hn ?_ (by omega) hm hce ?_ ?_ (h _ ⟨fun j => by rw [sA_I, f1, cI], ?_, ?_, ?_, ?_, ?_, ?_, fun d hd => ?_, fun j hj => ?_, ?_⟩)
    · rw [f3, inkR_far (by omega), c0, upd_ne (by decide)]; exact eT
    · rw [f2 8 (by decide), cA 8 (by decide), a2 8 (by decide), b8, upd_at]
    · intro d hd
      rw [f2 9 (by decide), cA 9 (by decide)]; exact a3 d hd
    · rw [sA_A, if_neg (by decide), f2 1 (by decide), cA 1 (by decide), a2 1 (by decide), b1]
    · rw [sA_A, if_neg (by decide), f2 10 (by decide), cA 10 (by decide), a2 10 (by decide), b10]
    · rw [sA_A, if_neg (by decide), f2 5 (by decide), cA 5 (by decide), a2 5 (by decide), b5]
    · rw [sA_A, if_neg (by decide), f2 6 (by decide), cA 6 (by decide), a2 6 (by decide), b6]
    · rw [sA_A, if_neg (by decide), f2 7 (by decide), cA 7 (by decide), a2 7 (by decide), b7]
    · rw [sA_A, if_neg (by decide), f2 8 (by decide), cA 8 (by decide), a2 8 (by decide), b8]
    · rw [sA_A, if_neg (by decide), f2 9 (by decide), cA 9 (by decide)]; exact a3 d hd
    · rw [sA_A, if_neg (by decide), f2 9 (by decide), cA 9 (by decide), a4 j hj, b9]
    · rw [sA_A, if_pos rfl, f1, cI, f3, c0]
  unfold wpX5_hasInk
  refine ⟨fun q => fin y1 (fun _ => rfl) (fun _ _ => rfl) (by unfold inkR; rw [if_pos q]), fun q => k_place (c := 0) ?_⟩
  rw [Nat.add_zero, ncl (by omega)]
  refine ⟨vp_in_nI (by omega) (by omega), vp_in_nI (by omega) (by omega), fun z ez => ?_⟩
  subst ez
  exact fin _ (fun _ => rfl) (fun j hj => by rw [sA_A, if_neg hj]) (by unfold inkR; rw [if_neg q]; rfl)
/-- both, after a note -/
theorem Put_RP {p p' x : St} {n k pr ce : Nat} {st : Nat → Int32} (hst : x.A 4 = st) (hR : RP (p.A 0) p st) (hW : WF st n) (hn : n ≤ 6) (hc : p.I 4 = x.I 1) (hT : tN st < n) (hm : mN st < 10) (hk : k < 6) (hp1 : 1 ≤ pr) (hp9 : pr ≤ 9) (hce : ce < 4096) (hP : PutN p p' n (tN st) (mN st) k pr ce) : RP (p'.A 0) p' (wrS x n k pr ce) ∧ WF (wrS x n k pr ce) n ∧ mN (wrS x n k pr ce) = mN st + 1 ∧ tN (wrS x n k pr ce) = tN st := by
  obtain ⟨f1, f2, f3, f4, f5, f6, f7, f8, f9, f10⟩ := hP
  obtain ⟨r1, r2, r3, r4⟩ := hR
  obtain ⟨w1, w2, w3, w4, w5, w6⟩ := hW
  have far : ∀ j, 84 ≤ j → rwS 12 12 6 1 (x.I 1) (tN st) k pr ce (inkR k ce (tN st) st) (n - tN st) j = st j := fun j hj => by
    rw [mS_far (by omega) _ (by omega), inkR_far (by omega)]
  have ew : wrS x n k pr ce = upd (upd (upd (upd (upd (rwS 12 12 6 1 (x.I 1) (tN st) k pr ce (inkR k ce (tN st) st) (n - tN st)) (84 + 4 * mN st) (nI k)) (85 + 4 * mN st) (nI pr)) (86 + 4 * mN st) (nI ce)) (87 + 4 * mN st) (nI (tN st))) 124 (nI (mN st + 1)) := by unfold wrS; rw [hst]
  have low : ∀ j, j < 84 → wrS x n k pr ce j = rwS 12 12 6 1 (x.I 1) (tN st) k pr ce (inkR k ce (tN st) st) (n - tN st) j := fun j hj => by
    rw [ew, upd_ne (by omega), upd_ne (by omega), upd_ne (by omega), upd_ne (by omega), upd_ne (by omega)]
  have old : ∀ j, 84 ≤ j → j < 84 + 4 * mN st → wrS x n k pr ce j = st j := fun j h1 h2 => by
    rw [ew, upd_ne (by omega), upd_ne (by omega), upd_ne (by omega), upd_ne (by omega), upd_ne (by omega), far j h1]
  have n0 : wrS x n k pr ce (84 + 4 * mN st) = nI k := by rw [ew, upd_ne (by omega), upd_ne (by omega), upd_ne (by omega), upd_ne (by omega), upd_at]
  have n1 : wrS x n k pr ce (85 + 4 * mN st) = nI pr := by rw [ew, upd_ne (by omega), upd_ne (by omega), upd_ne (by omega), upd_at]
  have n2 : wrS x n k pr ce (86 + 4 * mN st) = nI ce := by rw [ew, upd_ne (by omega), upd_ne (by omega), upd_at]
  have n3 : wrS x n k pr ce (87 + 4 * mN st) = nI (tN st) := by rw [ew, upd_ne (by omega), upd_at]
  have n124 : wrS x n k pr ce 124 = nI (mN st + 1) := by rw [ew, upd_at]
  have n125 : wrS x n k pr ce 125 = nI (tN st) := by rw [ew, upd_ne (by omega), upd_ne (by omega), upd_ne (by omega), upd_ne (by omega), upd_ne (by omega), far 125 (by omega), w1]
  have emN : mN (wrS x n k pr ce) = mN st + 1 := by
    have : mN (wrS x n k pr ce) = (nI (mN st + 1)).toNatClampNeg := by rw [← n124]; rfl
    rw [this, ncl (by omega)]
  have etN : tN (wrS x n k pr ce) = tN st := by
    have : tN (wrS x n k pr ce) = (nI (tN st)).toNatClampNeg := by rw [← n125]; rfl
    rw [this, ncl (by omega)]
  have hpg : PgR (p.A 0) st := r3
  have hpg1 : PgR (inkR k ce (2 + 14 * tN st) (upd (p.A 0) 1 (nI (mN st + 1)))) (inkR k ce (tN st) st) := by
    intro s hs
    obtain ⟨a1, a2, a3⟩ := hpg s hs
    refine ⟨?_, by rw [inkR_far (by omega), inkR_far (by omega), upd_ne (by omega)]; exact a2, fun c hc => by rw [inkR_far (by omega), inkR_far (by omega), upd_ne (by omega)]; exact a3 c hc⟩
    by_cases hsT : s = tN st
    · subst hsT
      unfold inkR
      by_cases q : hink (nI k) = 0
      · rw [if_pos q, if_pos q, upd_ne (by omega)]; exact a1
      · rw [if_neg q, if_neg q, upd_at, upd_at, upd_ne (by omega), a1]
    · rw [inkR_far (by omega), inkR_far (by omega), upd_ne (by omega)]; exact a1
  have hpg2 := PgR_rw (ca := x.I 1) (T := tN st) (k := k) (pr := pr) (ce := ce) hpg1 (n - tN st) (by omega)
  rw [hc] at f10
  refine ⟨⟨?_, ?_, fun s hs => ?_, fun j hj => ?_⟩, ⟨by rw [n125, etN], by omega, by rw [n124, emN], by omega, fun j hj => ?_, fun s hs c hc => ?_⟩, emN, etN⟩
  · rw [f10, kS_far (Or.inl (by omega)) _ (by omega), inkR_far (by omega), upd_ne (by omega), n125, r1, w1]
  · rw [f10, kS_far (Or.inl (by omega)) _ (by omega), inkR_far (by omega), upd_at, n124]
  · obtain ⟨a1, a2, a3⟩ := hpg2 s hs
    rw [← f10] at a1 a2 a3
    exact ⟨by rw [low _ (by omega)]; exact a1, by rw [low _ (by omega)]; exact a2, fun c hc => by rw [low _ (by omega)]; exact a3 c hc⟩
  · rw [emN] at hj
    by_cases hjm : j = mN st
    · subst hjm
      rw [n0, n1, n2, n3, f4, f5, f6, f7, upd_at, upd_at, upd_at, upd_at]
      exact ⟨rfl, rfl, rfl, rfl, f8⟩
    · obtain ⟨b1, b2, b3, b4, b5⟩ := r4 j (by omega)
      rw [old _ (by omega) (by omega), old _ (by omega) (by omega), old _ (by omega) (by omega), old _ (by omega) (by omega), f4, f5, f6, f7, upd_ne hjm, upd_ne hjm, upd_ne hjm, upd_ne hjm]
      exact ⟨b1, b2, b3, b4, fun d hd => by rw [f9 _ (by omega)]; exact b5 d hd⟩
  · rw [emN] at hj
    by_cases hjm : j = mN st
    · subst hjm
      unfold GN kN prN ceN onN
      rw [n0, n1, n2, n3, ncl (by omega), ncl (by omega), ncl (by omega), ncl (by omega), etN]
      exact ⟨rfl, hk, rfl, hp1, hp9, rfl, hce, rfl, hT, Nat.le_refl _⟩
    · exact GN_c (fun i h1 h2 => old i (by omega) (by omega)) (by rw [etN]; exact Nat.le_refl _) (w5 j (by omega))
  · rw [emN, mx_s, mx_c _ (fun i h1 h2 => old i h1 h2), low _ (by omega), mS_dent (by omega) hc _ (by omega), inkR_far (by omega), w6 s hs c hc]
    have hmx : 0 ≤ (mx st s c (mN st)).toInt := by
      have := exN_T (K := 0) (c := c) (show WF st n from ⟨w1, w2, w3, w4, w5, w6⟩) (show s < 6 by omega) (mN st) (Nat.le_refl _)
      omega
    have hfr : frc (wrS x n k pr ce) s c (mN st) = if tN st ≤ s ∧ ce.testBit c = true then ftN k pr (s - tN st) else 0 := by
      unfold frc onN ceN
      rw [n0, n1, n2, n3, ncl (by omega), ncl (by omega)]; rfl
    rw [hfr]
    by_cases hq : tN st ≤ s ∧ ce.testBit c = true
    · rw [if_pos hq]
      by_cases hl : mx st s c (mN st) < ftN k pr (s - tN st)
      · rw [if_pos ⟨hq.1, by omega, hq.2, hl⟩, if_pos hl]
      · rw [if_neg (fun w => hl w.2.2.2), if_neg hl]
    · rw [if_neg hq, if_neg (fun w => hq ⟨w.1, w.2.2.1⟩), if_neg (fun w => by rw [fa_lt, z0I] at w; omega)]
theorem PadN_put {p p' x : St} {st ah wo : Nat → Int32} {n w u k pr ce : Nat} (hst : x.A 4 = st) (h : PadN p st ah wo n w u) (hc : p.I 4 = x.I 1) (hT : tN st < n) (hm : mN st < 10) (hk : k < 6) (hp1 : 1 ≤ pr) (hp9 : pr ≤ 9) (hce : ce < 4096) (hP : PutN p p' n (tN st) (mN st) k pr ce) : PadN p' (wrS x n k pr ce) ah wo n w u := by
  have hcur := h.cur
  obtain ⟨g1, g2, g3, g4, g5, g6, g7, g8, g9, g10⟩ := h
  obtain ⟨a1, a2, a3, a4⟩ := Put_RP hst hcur.1 hcur.2 g2 hc hT hm hk hp1 hp9 hce hP
  obtain ⟨f1, f2, f3, f4, f5, f6, f7, f8, f9, f10⟩ := hP
  have hstk : ∀ j, j ≠ u → stk (wrS x n k pr ce) ah u j = stk st ah u j := fun j hj => by unfold stk; rw [if_neg hj, if_neg hj]
  have hpgk : ∀ j, j ≠ u → pgk p' u j = pgk p u j := fun j hj => by unfold pgk; rw [if_neg hj, if_neg hj, f2]
  have hst0 : stk st ah u u = st := by unfold stk; rw [if_pos rfl]
  have hst1 : stk (wrS x n k pr ce) ah u u = wrS x n k pr ce := by unfold stk; rw [if_pos rfl]
  refine ⟨g1, g2, by rw [f1]; exact g3, g4, by rw [f1]; exact g5, g6, by rw [f1]; exact g7, fun i hi => by rw [f3]; exact g8 i hi, fun j hj => ?_, fun i j hij hj => ?_⟩
  · by_cases hju : j = u
    · subst hju
      unfold pgk stk
      rw [if_pos rfl, if_pos rfl]
      exact ⟨a1, a2⟩
    · rw [hstk j hju, hpgk j hju]
      obtain ⟨r, wf⟩ := g9 j hj
      have hle := g10 j u hj (Nat.le_refl _)
      rw [hst0] at hle
      refine ⟨RP_c (fun _ _ => rfl) (fun _ _ => rfl) wf.2.2.2.1 (fun i hi => ?_) r, wf⟩
      rw [f4, f5, f6, f7, upd_ne (by omega), upd_ne (by omega), upd_ne (by omega), upd_ne (by omega)]
      exact ⟨rfl, rfl, rfl, rfl, fun d hd => f9 _ (by omega)⟩
  · have hle := g10 i j hij hj
    by_cases hju : j = u
    · subst hju
      rw [hst1, a3]
      rw [hst0] at hle
      by_cases hiu : i = j
      · subst hiu; rw [hst1, a3]; exact Nat.le_refl _
      · rw [hstk i hiu]; omega
    · rw [hstk i (by omega), hstk j hju]; exact hle
theorem s_write {t : Nat → St} {x : St} (h : Rel t x) (x1 x2 x3 : Int32) : SimI (wpX11_write x1 x2 x3 t) (wpX12_write x1 x2 x3 x) := by
  obtain ⟨n, w, u, e1, e2, e3, hc, g⟩ := h.1.got
  obtain ⟨q0, q1, q2, q3, q4, q5⟩ := g.nums
  have hn6 := g.2.1
  unfold SimI wpX11_write wjX11_write_15
  have MB : ¬ ((0 ≤ x1.toInt ∧ x1.toInt ≤ 5 ∧ 1 ≤ x2.toInt ∧ x2.toInt ≤ 9) ∧ 0 ≤ x3.toInt ∧ x3.toInt ≤ 4095) → ∀ {P : Int32 → St → Prop}, P (-2) (refX x 0) → wpX12_write x1 x2 x3 x P := by
    intro hb P hP
    unfold wpX12_write wjX12_write_20 wpX12_bad
    exact m_isPen (fun a b c d => b1e (in_rule 0 4095 (by decide) (by decide) (fun z1 z2 => absurd ⟨⟨a, b, c, d⟩, z1, z2⟩ hb) (fun _ => b0n (m_ref0 hP)))) (fun _ => b0e (m_ref0 hP))
  refine k_isPen (fun a b c d => b1e ?_) (fun hb => b0e (k_bad (MB (fun z => hb z.1) ⟨rfl, R_bad h⟩)))
  refine k_isCells (fun a3 b3 => b1n ?_) (fun hb => b0n (k_bad (MB (fun z => by omega) ⟨rfl, R_bad h⟩)))
  clear MB
  obtain ⟨k, rfl, hk, _⟩ := toNI a
  obtain ⟨pr, rfl, hpr, _⟩ := toNI (show 0 ≤ x2.toInt by omega)
  obtain ⟨ce, rfl, hce, _⟩ := toNI a3
  have MM : ∀ {P : Int32 → St → Prop}, (((¬ (x.A 4) 125 = x.I 0) → ((¬ (x.A 4) 124 = 10) → wpX12_note x (fun p5 => wpX12_writeNow (nI k) (nI pr) (nI ce) p5 (fun p6 => P (((p6.A 4) 124) - 1) p6))) ∧ (((x.A 4) 124 = 10) → wpX12_refuse 2 (-4) x P)) ∧ (((x.A 4) 125 = x.I 0) → wpX12_refuse 1 (-3) x P)) → wpX12_write (nI k) (nI pr) (nI ce) x P := by
    intro P hP
    unfold wpX12_write wjX12_write_20 wpX12_bad
    exact m_isPen (fun _ _ _ _ => b1e (in_rule 0 4095 (by decide) (by decide) (fun _ _ => b1n hP) (fun z => absurd z (by omega)))) (fun z => absurd ⟨a, b, c, d⟩ z)
  refine k_usedUp q0 g.2.2.1 (by omega) hn6 (fun hlt => b0e ?_) (fun hge => b1e (k_no (MM ⟨fun hne => absurd (by rw [q2, e1, show tN (x.A 4) = n by omega]) hne, fun _ => m_ref1 ⟨rfl, R_no h⟩⟩)))
  refine k_noteCount ?_
  rw [q1]
  refine pk_lt (mN (x.A 4)) 10 (fun hm => ?_) (fun hm => k_full (MM ⟨fun _ => ⟨fun z => absurd (by rw [q3, show mN (x.A 4) = 10 by omega]; rfl) z, fun _ => m_ref2 ⟨rfl, R_full h⟩⟩, fun z => ?_⟩))
  · refine k_keep g.2.2.2.2.2.2.1 g.2.2.2.2.2.1 (fun p' f1 f2 f3 f4 => ?_)
    intro t3 et3
    subst et3
    have ep : (upS t 2 p') 2 = p' := rfl
    rw [ep]
    refine k_putNote (n := n) (T := tN (x.A 4)) (m := mN (x.A 4)) (by rw [f1 3 (by decide)]; exact g.2.2.1) hn6 (by rw [f3 0 (by decide)]; exact q0) hlt (by rw [f3 0 (by decide)]; exact q1) hm (by omega) (fun p2 hP => ?_)
    intro t4 et4
    refine MM ⟨fun _ => ⟨fun _ => ?_, fun z => absurd ((nI_eq (b := 10) (by omega) (by decide)).mp (q3.symm.trans z)) (by omega)⟩, fun z => absurd ((nI_eq (by omega) (by omega)).mp (q2.symm.trans (z.trans e1))) (by omega)⟩
    refine m_note e3 g.2.2.2.2.2.1 (fun x' g1 g2 g3 g4 g5 => ?_)
    have hpush := PadN_push f1 f2 f3 f4 g5 g
    have e4 : x'.A 4 = x.A 4 := g4 4 (by decide)
    have hcur := hpush.cur
    refine m_writeNow (n := n) (by rw [g1 0 (by decide)]; exact e1) hn6 (by rw [e4]; exact hcur.2) (by rw [e4]; exact hm) (by omega) (by omega) ?_
    have hput := PadN_put e4 hpush (by rw [f1 4 (by decide), g1 1 (by decide)]; exact hc) hlt hm (by omega) (by omega) (by omega) (by omega) hP
    have hnum := hput.nums
    have hPR := Put_RP e4 hcur.1 hcur.2 hn6 (by rw [f1 4 (by decide), g1 1 (by decide)]; exact hc) hlt hm (by omega) (by omega) (by omega) (by omega) hP
    subst et4
    refine ⟨?_, R_rest h rfl rfl rfl rfl g3 (g1 11 (by decide)) (g4 9 (by decide)) (g4 10 (by decide)) (g4 27 (by decide)) (g4 28 (by decide)) ?_⟩
    · show nI (mN (x.A 4)) = wrS x' n k pr ce 124 - 1
      rw [hnum.2.2.2.1, hPR.2.2.1, nI_pred]
    · show NowR p2 (x'.sA 4 (wrS x' n k pr ce))
      refine ⟨?_, n, w, upU u, ?_, ?_, g2, ?_⟩
      · show p2.I 4 = x'.I 1
        rw [hP.1, f1 4 (by decide), g1 1 (by decide)]; exact hc
      · show x'.I 0 = _
        rw [g1 0 (by decide)]; exact e1
      · show x'.I 3 = _
        rw [g1 3 (by decide)]; exact e2
      · show PadN p2 (wrS x' n k pr ce) (x'.A 5) (x'.A 2) n w (upU u)
        rw [g4 2 (by decide)]; exact hput
  · exact absurd ((nI_eq (by omega) (by omega)).mp (q2.symm.trans (z.trans e1))) (by omega)
