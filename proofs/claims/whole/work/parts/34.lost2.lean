def okR (se ex : Nat → Int32) (f : Int32) : Nat → Bool
  | 0 => decide (0 < f)
  | c + 1 => okR se ex f c && (decide (se c = ex c) || decide (se c = f))
theorem okR_s (se ex : Nat → Int32) (f : Int32) (c : Nat) : okR se ex f (c + 1) = (okR se ex f c && (decide (se c = ex c) || decide (se c = f))) := rfl
theorem okR_mono {se ex : Nat → Int32} {f : Int32} {i : Nat} (h : okR se ex f i = false) : ∀ j, i ≤ j → okR se ex f j = false := by
  intro j hj
  induction j with
  | zero => rw [show i = 0 by omega] at h; exact h
  | succ j ih =>
    by_cases hij : i = j + 1
    · rw [hij] at h; exact h
    · rw [okR_s, ih (by omega)]; rfl
theorem okR_cong {se ex se' ex' : Nat → Int32} {f : Int32} : ∀ n, (∀ c, c < n → se c = se' c ∧ ex c = ex' c) → okR se ex f n = okR se' ex' f n
  | 0, _ => rfl
  | n + 1, h => by
    rw [okR_s, okR_s, okR_cong n (fun c hc => h c (by omega)), (h n (by omega)).1, (h n (by omega)).2]
def muB (se ex : Nat → Int32) (c : Nat) : Bool := decide (¬ se c = ex c)
def maB (se ex : Nat → Int32) (f : Int32) (c : Nat) : Bool := decide (¬ se c = ex c) || decide (¬ ex c < f)
theorem k_guess {x : St} {se ex : Nat → Int32} {f : Int32} (h0 : ∀ c, c < 12 → x.A 0 c = se c) (h1 : ∀ c, c < 12 → x.A 1 c = ex c) {Post : Int32 → St → Prop} (hy : okR se ex f 12 = true → ∀ x' : St, x'.2 = x.2 → x'.I 2 = bitsN (muB se ex) 12 → x'.I 3 = bitsN (maB se ex f) 12 → Post 1 x') (hn : okR se ex f 12 = false → ∀ x' : St, x'.2 = x.2 → Post 0 x') : wpX2_guess f x Post := by
  intro y1 e1 y2 e2
  subst e1; subst e2
  refine ⟨fun hf => ?_, fun hf => ?_⟩
  · refine it_rule (F := fun self z => wlX2_guess_18 Post _ self z.1 z.2.1 z.2.2) (fun z => ∃ (i : Nat) (y : St), z = (f, nI i, y) ∧ i ≤ 12 ∧ okR se ex f i = true ∧ y.2 = x.2 ∧ y.I 2 = bitsN (muB se ex) i ∧ y.I 3 = bitsN (maB se ex f) i) (fun z => 12 - z.2.1.toNatClampNeg) ?_ _ ⟨0, _, rfl, by omega, by show decide _ = true; simpa using hf, rfl, rfl, rfl⟩
    rintro self z ⟨i, y, rfl, hi, ho, ey, e2, e3⟩ hself
    dsimp only at hself ⊢
    unfold wlX2_guess_18
    refine pk_le 12 i (fun hle => ?_) (fun hlt => ?_)
    · have e12 : i = 12 := by omega
      subst e12
      exact hy ho y ey e2 e3
    · have a0 : y.A 0 i = se i := by rw [← h0 i hlt]; show y.2.2 0 i = x.2.2 0 i; rw [ey]
      have a1 : y.A 1 i = ex i := by rw [← h1 i hlt]; show y.2.2 1 i = x.2.2 1 i; rw [ey]
      have hv : vp_in (nI i) 12 := vp_in_nI (by omega) (by omega)
      rw [ncl (by omega), a0, a1]
      have hmu := bitsN_s (muB se ex) i
      have hma := bitsN_s (maB se ex f) i
      have fin : ∀ y' : St, y'.2 = x.2 → y'.I 2 = bitsN (muB se ex) (i + 1) → y'.I 3 = bitsN (maB se ex f) (i + 1) → okR se ex f (i + 1) = true → self (f, nI (i + 1), y') := fun y' g1 g2 g3 g4 => hself _ ⟨i + 1, y', rfl, by omega, g4, g1, g2, g3⟩ (by dsimp only; rw [ncl (by omega), ncl (by omega)]; omega)
      refine ⟨hv, hv, fun he => ?_, fun he => ?_⟩
      · have m1 : muB se ex i = false := by unfold muB; simpa using he
        have o1 : okR se ex f (i + 1) = true := by rw [okR_s, ho, decide_eq_true he]; rfl
        rw [m1] at hmu
        unfold wjX2_guess_44
        refine b0e ?_
        unfold wjX2_guess_61
        refine b0e ?_
        unfold wjX2_guess_77
        rw [ncl (by omega), a1]
        refine b0n ⟨hv, fun hl z ez => ?_, fun hl => ?_⟩
        · have m2 : maB se ex f i = false := by unfold maB; simp [he, hl]
          rw [m2] at hma
          subst ez
          rw [nI_1]
          exact fin y ey (e2.trans hmu.symm) (e3.trans hma.symm) o1
        · have m2 : maB se ex f i = true := by unfold maB; simp [hl]
          rw [m2] at hma
          unfold wjX2_guess_91
          intro y' ey' z ez
          subst ey'; subst ez
          rw [nI_1]
          refine fin _ ey (e2.trans hmu.symm) ?_ o1
          show y.I 3 ||| _ = _
          rw [e3]; exact hma.symm
      · have m1 : muB se ex i = true := by unfold muB; simpa using he
        have m2 : maB se ex f i = true := by unfold maB; simp [he]
        rw [m1] at hmu
        rw [m2] at hma
        unfold wjX2_guess_44
        rw [ncl (by omega), a0]
        refine b1e ⟨hv, fun hl => ?_, fun hl => ?_⟩
        · have o1 : okR se ex f (i + 1) = true := by rw [okR_s, ho, decide_eq_true hl]; simp
          unfold wjX2_guess_61
          refine b1e ?_
          intro y' ey'
          subst ey'
          unfold wjX2_guess_77
          refine b1n ?_
          unfold wjX2_guess_91
          intro y' ey' z ez
          subst ey'; subst ez
          rw [nI_1]
          refine fin _ ey ?_ ?_ o1
          · show y.I 2 ||| _ = _
            rw [e2]; exact hmu.symm
          · show y.I 3 ||| _ = _
            rw [e3]; exact hma.symm
        · refine hn (okR_mono (i := i + 1) ?_ 12 (by omega)) y ey
          rw [okR_s, decide_eq_false he, decide_eq_false hl, ho]; rfl
  · refine hn (okR_mono (i := 0) ?_ 12 (by omega)) _ rfl
    show decide _ = false
    simpa using hf
theorem m_isLost {x : St} {n s K : Nat} {f : Int32} (hW : WF (x.A 4) n) (hn : n ≤ 6) (hs : s < n) (hK : K < 2 ^ 31) {se ex : Nat → Int32} (hse : ∀ c, c < 12 → x.A 4 (12 + 12 * s + c) = se c) (hex : ∀ c, c < 12 → exN (x.A 4) s K c (mN (x.A 4)) = ex c) {Post : Int32 → St → Prop} (h : ∀ x' : St, x'.2 = x.2 → (∀ k, k ≠ 21 → k ≠ 22 → x'.I k = x.I k) → x'.I 21 = bitsN (muB se ex) 12 → x'.I 22 = bitsN (maB se ex f) 12 → Post (if okR se ex f 12 then 1 else 0) x') : wpX12_isLost (nI s) (nI K) f x Post := by
  have hle : ∀ c, c < 12 → (ex c).toInt ≤ (se c).toInt := fun c hc => by
    rw [← hse c hc, ← hex c hc, hW.2.2.2.2.2 s hs c hc]
    exact (exN_T (K := K) (c := c) hW (by omega) (mN (x.A 4)) (Nat.le_refl _)).2.1
  have loop : ∀ (b : Int32) (y0 : St), b = (if okR se ex f 0 then 1 else 0) → y0.2 = x.2 → (∀ k, k ≠ 21 → k ≠ 22 → y0.I k = x.I k) → y0.I 21 = 0 → y0.I 22 = 0 → ∃ n, wLX12_isLost_24 Post (fun (y8 : Int32) (p9 : St) => vb y8 ∧ Post y8 p9) n (nI s, nI K, f, b, 0, y0) := by
    intro b y0 eb e1 e2 e3 e4
    refine it_rule (F := fun self z => wlX12_isLost_24 Post (fun (y8 : Int32) (p9 : St) => vb y8 ∧ Post y8 p9) self z.1 z.2.1 z.2.2.1 z.2.2.2.1 z.2.2.2.2.1 z.2.2.2.2.2) (fun z => ∃ (i : Nat) (y : St), z = (nI s, nI K, f, if okR se ex f i then 1 else 0, nI i, y) ∧ i ≤ 12 ∧ y.2 = x.2 ∧ (∀ k, k ≠ 21 → k ≠ 22 → y.I k = x.I k) ∧ y.I 21 = bitsN (muB se ex) i ∧ y.I 22 = bitsN (maB se ex f) i) (fun z => 12 - z.2.2.2.2.1.toNatClampNeg) ?_ _ ⟨0, y0, by rw [eb]; rfl, by omega, e1, e2, e3, e4⟩
    rintro self z ⟨i, y, rfl, hi, g1, g2, g3, g4⟩ hself
    dsimp only at hself ⊢
    unfold wlX12_isLost_24
    refine pk_le 12 i (fun hle12 => ?_) (fun hlt => ?_)
    · have e12 : i = 12 := by omega
      subst e12
      refine ⟨?_, h y g1 g2 g3 g4⟩
      cases okR se ex f 12
      · exact vb0
      · exact vb1
    · have hA : y.A 4 = x.A 4 := by show y.2.2 4 = x.2.2 4; rw [g1]
      refine m_dentOf (by omega) hlt ?_
      rw [hA, hse i hlt]
      refine m_explained (n := n) (by rw [hA]; exact hW) hn (by omega) hlt hK ?_
      rw [hA, hex i hlt]
      have hmu := bitsN_s (muB se ex) i
      have hma := bitsN_s (maB se ex f) i
      have hles := hle i hlt
      have fin : ∀ y' : St, y'.2 = x.2 → (∀ k, k ≠ 21 → k ≠ 22 → y'.I k = x.I k) → y'.I 21 = bitsN (muB se ex) (i + 1) → y'.I 22 = bitsN (maB se ex f) (i + 1) → self (nI s, nI K, f, if okR se ex f (i + 1) then 1 else 0, nI (i + 1), y') := fun y' f1 f2 f3 f4 => hself _ ⟨i + 1, y', rfl, by omega, f1, f2, f3, f4⟩ (by dsimp only; rw [ncl (by omega), ncl (by omega)]; omega)
      have core : ∀ b : Int32, b = (if okR se ex f (i + 1) then 1 else 0) → wjX12_isLost_73 Post self (fun (y8 : Int32) (p9 : St) => vb y8 ∧ Post y8 p9) (nI s) (nI K) f (nI i) (se i) (ex i) b y := by
        intro b eb
        unfold wjX12_isLost_73
        have tail : ∀ a : Int32, y.I 21 ||| a = bitsN (muB se ex) (i + 1) → wjX12_isLost_95 Post self (fun (y8 : Int32) (p9 : St) => vb y8 ∧ Post y8 p9) (nI s) (nI K) f b (nI i) (se i) (ex i) a (y.I 21) y := by
          intro a ea
          unfold wjX12_isLost_95
          intro y1 ey1
          have t1 : y1.2 = x.2 := by rw [ey1]; exact g1
          have t2 : ∀ k, k ≠ 21 → k ≠ 22 → y1.I k = x.I k := fun k k1 k2 => by
            rw [ey1, sI_I, if_neg k1]; exact g2 k k1 k2
          have t3 : y1.I 21 = bitsN (muB se ex) (i + 1) := by rw [ey1, sI_I, if_pos rfl]; exact ea
          have t4 : y1.I 22 = bitsN (maB se ex f) i := by rw [ey1, sI_I, if_neg (by decide)]; exact g4
          have last : ∀ c : Int32, bitsN (maB se ex f) i ||| c = bitsN (maB se ex f) (i + 1) → wjX12_isLost_125 Post self (fun (y8 : Int32) (p9 : St) => vb y8 ∧ Post y8 p9) (nI s) (nI K) f b (nI i) c (y1.I 22) y1 := by
            intro c ec
            unfold wjX12_isLost_125
            intro y2 ey2 z ez
            subst ez
            rw [nI_1, eb]
            refine fin y2 (by rw [ey2]; exact t1) (fun k k1 k2 => ?_) ?_ ?_
            · rw [ey2, sI_I, if_neg k2]; exact t2 k k1 k2
            · rw [ey2, sI_I, if_neg (by decide)]; exact t3
            · rw [ey2, sI_I, if_pos rfl, t4]; exact ec
          unfold wjX12_isLost_117
          refine ⟨fun q => last _ ?_, fun q => ⟨fun q2 => last _ ?_, fun q2 => last _ ?_⟩⟩
          · have : maB se ex f i = true := by
              have hne : ¬ se i = ex i := fun w => by rw [w] at q; rw [fa_lt] at q; omega
              unfold maB
              simp [hne]
            rw [this] at hma; exact hma.symm
          · have : maB se ex f i = false := by
              unfold maB
              have e : se i = ex i := by rw [fa_eq]; rw [fa_lt] at q; omega
              simp [e, q2]
            rw [this] at hma; rw [or_0]; exact hma.symm
          · have : maB se ex f i = true := by unfold maB; simp [q2]
            rw [this] at hma; exact hma.symm
        refine ⟨fun q => tail _ ?_, fun q => tail _ ?_⟩
        · have : muB se ex i = false := by
            unfold muB
            have e : se i = ex i := by rw [fa_eq]; rw [fa_le] at q; omega
            simp [e]
          rw [this] at hmu
          rw [or_0, g3]; exact hmu.symm
        · have : muB se ex i = true := by
            have hne : ¬ se i = ex i := fun w => by rw [w] at q; rw [fa_le] at q; omega
            unfold muB
            simp [hne]
          rw [this] at hmu
          rw [g3]; exact hmu.symm
      cases ho : okR se ex f i with
      | false => exact b0e (core 0 (by rw [okR_s, ho]; rfl))
      | true =>
        refine b1e ⟨fun q => core 1 (by rw [okR_s, ho, decide_eq_true q]; rfl), fun q => ⟨fun q2 => core 0 (by rw [okR_s, ho, decide_eq_false q, decide_eq_false q2]; rfl), fun q2 => core 1 (by rw [okR_s, ho, decide_eq_true q2]; simp)⟩⟩
  intro y1 ey1 y2 ey2
  subst ey1; subst ey2
  refine ⟨fun hf => loop 0 _ ?_ rfl (fun k k1 k2 => ?_) rfl rfl, fun hf => loop 1 _ ?_ rfl (fun k k1 k2 => ?_) rfl rfl⟩
  · have : okR se ex f 0 = false := by
      show decide _ = false
      rw [decide_eq_false]; rw [fa_lt]; rw [fa_le] at hf; omega
    rw [this]; rfl
  · rw [sI_I, if_neg k2, sI_I, if_neg k1]
  · have : okR se ex f 0 = true := by
      show decide _ = true
      rw [decide_eq_true]; rw [fa_lt]; rw [fa_le] at hf; omega
    rw [this]; rfl
  · rw [sI_I, if_neg k2, sI_I, if_neg k1]
/-! which words fit -/
def fitB (mu ma c : Int32) : Bool := decide (c &&& mu = mu) && decide (c &&& (ma ^^^ (-1)) = 0)
theorem fit_iff (m c : Int32) : (m &&& (c ^^^ (-1))) = 0 ↔ c &&& m = m := by
  constructor
  · intro h
    apply b_ext
    intro i hi
    have := congrArg (fun z => bt z i) h
    simp only [b_and, b_xor, b_m1 i hi, b_0] at this
    rw [b_and]
    cases hc : bt c i <;> cases hm : bt m i <;> simp_all
  · intro h
    apply b_ext
    intro i hi
    have := congrArg (fun z => bt z i) h
    simp only [b_and] at this
    rw [b_and, b_xor, b_m1 i hi, b_0]
    cases hc : bt c i <;> cases hm : bt m i <;> simp_all
theorem k_isFit {x : St} {c : Int32} {Post : Int32 → Prop} (h : Post (if fitB (x.I 2) (x.I 3) c then 1 else 0)) : wpX2_isFit c x Post := by
  unfold fitB at h
  refine ⟨fun q => ?_, fun q => ⟨fun q2 => ?_, fun q2 => ?_⟩⟩
  · rw [decide_eq_false q] at h; exact h
  · rw [decide_eq_true q, decide_eq_false q2] at h; exact h
  · rw [decide_eq_true q, decide_eq_true q2] at h; exact h
theorem m_fits {x : St} {c : Int32} {Post : Int32 → Prop} (h : Post (if fitB (x.I 21) (x.I 22) c then 1 else 0)) : wpX12_fits c x Post := by
  unfold wpX12_fits
  rw [fit_iff]
  unfold fitB at h
  refine ⟨fun q => ?_, fun q => ⟨fun q2 => ?_, fun q2 => ?_⟩⟩
  · rw [decide_eq_false q] at h; exact h
  · rw [decide_eq_true q, decide_eq_false q2] at h; exact h
  · rw [decide_eq_true q, decide_eq_true q2] at h; exact h
