/-! the text, token by token -/
def fs (P : Nat → Bool) (i b : Nat) : Nat := i + fa_first (fun j => P (i + j)) (b - i)
theorem fs_ge (P : Nat → Bool) (i b : Nat) : i ≤ fs P i b := by unfold fs; omega
theorem fs_le {P : Nat → Bool} {i b : Nat} (h : i ≤ b) : fs P i b ≤ b := by
  have := fa_first_le (fun j => P (i + j)) (b - i)
  unfold fs; omega
theorem fs_no {P : Nat → Bool} {i b j : Nat} (h1 : i ≤ j) (h2 : j < fs P i b) : P j = false := by
  unfold fs at h2
  have := fa_first_no (fun j => P (i + j)) (b - i) (j - i) (by omega)
  rw [show i + (j - i) = j by omega] at this
  exact this
theorem fs_yes {P : Nat → Bool} {i b : Nat} (h : fs P i b < b) : P (fs P i b) = true := by
  unfold fs at h ⊢
  exact fa_first_yes (fun j => P (i + j)) (b - i) (by omega)
/-- walking to it -/
theorem fs_step {P : Nat → Bool} {i b j : Nat} (hj : j ≤ fs P i b) (hb : i ≤ b) (h1 : i ≤ j) : (b ≤ j → j = fs P i b) ∧ (P j = true → j = fs P i b) ∧ (j < b → P j = false → j + 1 ≤ fs P i b) := by
  have hle := fs_le (P := P) hb
  refine ⟨fun h => by omega, fun h => ?_, fun h2 h => ?_⟩
  · rcases Nat.lt_or_ge j (fs P i b) with w | w
    · rw [fs_no h1 w] at h; exact absurd h (by decide)
    · omega
  · rcases Nat.lt_or_ge j (fs P i b) with w | w
    · omega
    · have e : j = fs P i b := by omega
      rw [e] at h h2
      rw [fs_yes h2] at h; exact absurd h (by decide)
def nSp (c : Nat → Nat) (j : Nat) : Bool := decide (c j ≠ 32)
def isL (c : Nat → Nat) (j : Nat) : Bool := decide (97 ≤ c j ∧ c j ≤ 122)
def isD (c : Nat → Nat) (j : Nat) : Bool := decide (48 ≤ c j ∧ c j ≤ 57)
def tS (c : Nat → Nat) (b i : Nat) : Nat := fs (nSp c) i b
def tE (c : Nat → Nat) (b i : Nat) : Nat := if tS c b i = b then b else if isL c (tS c b i) = true then fs (fun j => !isL c j) (tS c b i) b else if isD c (tS c b i) = true then fs (fun j => !isD c j) (tS c b i) b else tS c b i + 1
def wdK (c : Nat → Nat) (s l : Nat) : Nat :=
  if l = 3 ∧ c s = 112 ∧ c (s + 1) = 97 ∧ c (s + 2) = 100 then 1
  else if l = 6 ∧ c s = 99 ∧ c (s + 1) = 97 ∧ c (s + 2) = 114 ∧ c (s + 3) = 98 ∧ c (s + 4) = 111 ∧ c (s + 5) = 110 then 2
  else if l = 4 ∧ c s = 110 ∧ c (s + 1) = 111 ∧ c (s + 2) = 116 ∧ c (s + 3) = 101 then 3
  else if l = 4 ∧ c s = 116 ∧ c (s + 1) = 101 ∧ c (s + 2) = 97 ∧ c (s + 3) = 114 then 4
  else 0
def tK (c : Nat → Nat) (b i : Nat) : Nat := if tS c b i = b then 7 else if isL c (tS c b i) = true then wdK c (tS c b i) (tE c b i - tS c b i) else if isD c (tS c b i) = true then (if tE c b i - tS c b i ≤ 2 then 6 else 0) else if c (tS c b i) = 59 then 5 else 0
/-- the class's name for the token -/
def tC (c : Nat → Nat) (b i : Nat) : Nat := if tS c b i = b then 0 else if isL c (tS c b i) = true then 1 else if isD c (tS c b i) = true then (if tE c b i - tS c b i ≤ 2 then 2 else 4) else if c (tS c b i) = 59 then 3 else 4
def vv (c : Nat → Nat) (s : Nat) : Nat → Nat
  | 0 => 0
  | j + 1 => 10 * vv c s j + c (s + j) - 48
def tV (c : Nat → Nat) (b i : Nat) : Nat := vv c (tS c b i) (tE c b i - tS c b i)
theorem tS_b {c : Nat → Nat} {b i : Nat} (h : i ≤ b) : i ≤ tS c b i ∧ tS c b i ≤ b := ⟨fs_ge _ _ _, fs_le h⟩
theorem isL_iff (c : Nat → Nat) (j : Nat) : isL c j = true ↔ 97 ≤ c j ∧ c j ≤ 122 := by unfold isL; exact decide_eq_true_iff
theorem isD_iff (c : Nat → Nat) (j : Nat) : isD c j = true ↔ 48 ≤ c j ∧ c j ≤ 57 := by unfold isD; exact decide_eq_true_iff
theorem tE_b {c : Nat → Nat} {b i : Nat} (h : i ≤ b) : tS c b i ≤ tE c b i ∧ tE c b i ≤ b ∧ (tS c b i < b → tS c b i < tE c b i) := by
  have hs := tS_b (c := c) h
  unfold tE
  by_cases h0 : tS c b i = b
  · rw [if_pos h0]; omega
  · rw [if_neg h0]
    by_cases h1 : isL c (tS c b i) = true
    · rw [if_pos h1]
      have e := fs_step (P := fun j => !isL c j) (fs_ge _ (tS c b i) b) hs.2 (Nat.le_refl _)
      have e2 := fs_le (P := fun j => !isL c j) hs.2
      have := e.2.2 (by omega) (by rw [h1]; rfl)
      omega
    · rw [if_neg h1]
      by_cases h2 : isD c (tS c b i) = true
      · rw [if_pos h2]
        have e := fs_step (P := fun j => !isD c j) (fs_ge _ (tS c b i) b) hs.2 (Nat.le_refl _)
        have e2 := fs_le (P := fun j => !isD c j) hs.2
        have := e.2.2 (by omega) (by rw [h2]; rfl)
        omega
      · rw [if_neg h2]; omega
theorem tK_C (c : Nat → Nat) (b i : Nat) : (tK c b i = 7 ↔ tC c b i = 0) ∧ (tK c b i = 5 ↔ tC c b i = 3) ∧ (tK c b i = 6 ↔ tC c b i = 2) ∧ tC c b i ≤ 4 ∧ tK c b i ≤ 7 := by
  have hw : wdK c (tS c b i) (tE c b i - tS c b i) ≤ 4 := by
    unfold wdK
    split
    · omega
    · split
      · omega
      · split
        · omega
        · split <;> omega
  unfold tK tC
  by_cases h0 : tS c b i = b
  · rw [if_pos h0, if_pos h0]; omega
  · rw [if_neg h0, if_neg h0]
    by_cases h1 : isL c (tS c b i) = true
    · rw [if_pos h1, if_pos h1]; omega
    · rw [if_neg h1, if_neg h1]
      by_cases h2 : isD c (tS c b i) = true
      · rw [if_pos h2, if_pos h2]
        split <;> omega
      · rw [if_neg h2, if_neg h2]
        split <;> omega
theorem tV_b {c : Nat → Nat} {b i : Nat} (hi : i ≤ b) (h : tK c b i = 6) : tV c b i ≤ 99 := by
  have hE := tE_b (c := c) hi
  have hs := tS_b (c := c) hi
  unfold tK at h
  by_cases h0 : tS c b i = b
  · rw [if_pos h0] at h; omega
  · rw [if_neg h0] at h
    by_cases h1 : isL c (tS c b i) = true
    · rw [if_pos h1] at h
      have hw : wdK c (tS c b i) (tE c b i - tS c b i) ≤ 4 := by
        unfold wdK
        split
        · omega
        · split
          · omega
          · split
            · omega
            · split <;> omega
      omega
    · rw [if_neg h1] at h
      by_cases h2 : isD c (tS c b i) = true
      · rw [if_pos h2] at h
        by_cases h3 : tE c b i - tS c b i ≤ 2
        · have eE : tE c b i = fs (fun j => !isD c j) (tS c b i) b := by
            unfold tE; rw [if_neg h0, if_neg h1, if_pos h2]
          have hd : ∀ j, tS c b i ≤ j → j < tE c b i → 48 ≤ c j ∧ c j ≤ 57 := fun j g1 g2 => by
            have := fs_no (P := fun j => !isD c j) g1 (by rw [← eE]; exact g2)
            exact (isD_iff c j).mp (by simpa using this)
          have hd0 := hd (tS c b i) (by omega) (by omega)
          unfold tV
          rcases (show tE c b i - tS c b i = 1 ∨ tE c b i - tS c b i = 2 by omega) with q | q
          · rw [q]
            show 10 * 0 + c (tS c b i + 0) - 48 ≤ 99
            rw [Nat.add_zero]; omega
          · rw [q]
            have hd1 := hd (tS c b i + 1) (by omega) (by omega)
            show 10 * (10 * 0 + c (tS c b i + 0) - 48) + c (tS c b i + 1) - 48 ≤ 99
            rw [Nat.add_zero]; omega
        · rw [if_neg h3] at h; omega
      · rw [if_neg h2] at h
        split at h <;> omega
/-! the class steps -/
def TX (p : St) (c : Nat → Nat) (b : Nat) : Prop := b ≤ 150 ∧ p.I 1 = nI b ∧ ∀ k, k < b → p.A 0 k = nI (c k) ∧ c k < 128
def TkC (p : St) (c : Nat → Nat) (b i : Nat) : Prop := p.I 4 = nI (tS c b i) ∧ p.I 2 = nI (tE c b i) ∧ p.I 3 = nI (tC c b i) ∧ (tK c b i = 6 → p.I 5 = nI (tV c b i))
theorem A_of2 {y p : St} (h : y.2 = p.2) (k : Nat) : y.A k = p.A k := by unfold St.A; rw [h]
theorem L_of2 {y p : St} (h : y.2 = p.2) (k : Nat) : y.L k = p.L k := by unfold St.L; rw [h]
theorem k_within {p : St} {c : Nat → Nat} {b j lo hi : Nat} (hT : TX p c b) (hj : j < b) (hlo : lo < 1000) (hhi : hi < 1000) {Post : Int32 → Prop} (h1 : lo ≤ c j ∧ c j ≤ hi → Post 1) (h0 : ¬ (lo ≤ c j ∧ c j ≤ hi) → Post 0) : wpX7_isWithin (nI j) (nI lo) (nI hi) p Post := by
  obtain ⟨hb, e1, e2⟩ := hT
  obtain ⟨e3, h128⟩ := e2 j hj
  unfold wpX7_isWithin
  rw [e1, ncl (by omega), e3]
  refine ⟨fun q => absurd q (nI_pos (by omega)), fun _ => ⟨fun q => absurd q (nI_ge hj (by omega)), fun _ => ⟨vp_in_nI (by omega) (by omega), fun q => h0 ?_, fun q => ⟨vp_in_nI (by omega) (by omega), fun q2 => h0 ?_, fun q2 => h1 ?_⟩⟩⟩⟩
  · rw [nI_ltI (by omega) (by omega)] at q; omega
  · rw [nI_ltI (by omega) (by omega)] at q2; omega
  · rw [nI_ltI (by omega) (by omega)] at q q2; omega
theorem TX_of {p y : St} {c : Nat → Nat} {b : Nat} (h : TX p c b) (e : y.2 = p.2) (e1 : y.I 1 = p.I 1) : TX y c b := ⟨h.1, e1.trans h.2.1, fun k hk => by rw [A_of2 e]; exact h.2.2 k hk⟩
theorem k_skip {p : St} {c : Nat → Nat} {b i : Nat} (hT : TX p c b) (hi : i ≤ b) (e2 : p.I 2 = nI i) {Post : St → Prop} {KX : St → Prop} (h : ∀ y : St, y.2 = p.2 → (∀ k, k ≠ 2 → y.I k = p.I k) → y.I 2 = nI (tS c b i) → KX y) : ∃ n, wLX7_step_0 Post KX n p := by
  have hb := hT.1
  refine it_rule (F := fun self z => wlX7_step_0 Post KX self z) (fun y => ∃ j, i ≤ j ∧ j ≤ tS c b i ∧ y.2 = p.2 ∧ (∀ k, k ≠ 2 → y.I k = p.I k) ∧ y.I 2 = nI j) (fun y => 150 - (y.I 2).toNatClampNeg) ?_ _ ⟨i, Nat.le_refl _, (tS_b hi).1, rfl, fun _ _ => rfl, e2⟩
  rintro self y ⟨j, h1, hj, a1, a2, a3⟩ hself
  have hs := tS_b (c := c) hi
  obtain ⟨s1, s2, s3⟩ := fs_step (P := nSp c) (b := b) hj hi h1
  have fin : j = tS c b i → KX y := fun q => h y a1 a2 (by rw [a3, q])
  unfold wlX7_step_0
  rw [a2 1 (by decide), hT.2.1, a3, ncl (by omega), A_of2 a1]
  refine pk_le b j (fun hle => fin (s1 hle)) (fun hlt => ?_)
  obtain ⟨g1, g2⟩ := hT.2.2 j hlt
  rw [g1]
  refine ⟨vp_in_nI (by omega) (by omega), fun q => fin (s2 ?_), fun q y' ey => ?_⟩
  · unfold nSp
    refine decide_eq_true (fun w => q (by rw [w]; rfl))
  · have e32 : c j = 32 := (nI_eq (b := 32) (by omega) (by decide)).mp q
    rw [nI_1] at ey
    have hn := s3 hlt (by unfold nSp; exact decide_eq_false (fun w => w e32))
    refine hself y' ⟨j + 1, by omega, hn, by rw [ey]; exact a1, fun k hk => by rw [ey, sI_I, if_neg hk]; exact a2 k hk, by rw [ey]; rfl⟩ ?_
    have : y'.I 2 = nI (j + 1) := by rw [ey]; rfl
    rw [this, a3, ncl (by omega), ncl (by omega)]; omega
theorem k_letters {p : St} {c : Nat → Nat} {b s : Nat} (hT : TX p c b) (hs : s ≤ b) (e2 : p.I 2 = nI s) {Post : St → Prop} {KX : St → Prop} (h : ∀ y : St, y.2 = p.2 → (∀ k, k ≠ 2 → y.I k = p.I k) → y.I 2 = nI (fs (fun j => !isL c j) s b) → KX y) : ∃ n, wLX7_passWord_5 Post KX n p := by
  have hb := hT.1
  refine it_rule (F := fun self z => wlX7_passWord_5 Post KX self z) (fun y => ∃ j, s ≤ j ∧ j ≤ fs (fun j => !isL c j) s b ∧ y.2 = p.2 ∧ (∀ k, k ≠ 2 → y.I k = p.I k) ∧ y.I 2 = nI j) (fun y => 150 - (y.I 2).toNatClampNeg) ?_ _ ⟨s, Nat.le_refl _, fs_ge _ _ _, rfl, fun _ _ => rfl, e2⟩
  rintro self y ⟨j, h1, hj, a1, a2, a3⟩ hself
  obtain ⟨s1, s2, s3⟩ := fs_step (P := fun j => !isL c j) (b := b) hj hs h1
  have hle := fs_le (P := fun j => !isL c j) hs
  have fin : j = fs (fun j => !isL c j) s b → KX y := fun q => h y a1 a2 (by rw [a3, q])
  unfold wlX7_passWord_5
  rw [a2 1 (by decide), hT.2.1, a3]
  refine pk_le b j (fun hle => fin (s1 hle)) (fun hlt => ?_)
  refine k_within (lo := 97) (hi := 122) (TX_of hT a1 (a2 1 (by decide))) hlt (by omega) (by omega) (fun q => b1e (fun y' ey => ?_)) (fun q => b0e (fin (s2 ?_)))
  · rw [nI_1] at ey
    have hn := s3 hlt (by rw [(isL_iff c j).mpr q]; rfl)
    refine hself y' ⟨j + 1, by omega, hn, by rw [ey]; exact a1, fun k hk => by rw [ey, sI_I, if_neg hk]; exact a2 k hk, by rw [ey]; rfl⟩ ?_
    have : y'.I 2 = nI (j + 1) := by rw [ey]; rfl
    rw [this, a3, ncl (by omega), ncl (by omega)]; omega
  · have : isL c j = false := Bool.eq_false_iff.mpr (fun w => q ((isL_iff c j).mp w))
    rw [this]; rfl
theorem vv_s (c : Nat → Nat) (s j : Nat) : vv c s (j + 1) = 10 * vv c s j + c (s + j) - 48 := rfl
theorem dig_eq {v d : Nat} (h : 48 ≤ d) : ((10 : Int32) * nI v + nI d) - 48 = nI (10 * v + d - 48) := by
  show (nI 10 * nI v + nI d) - nI 48 = _
  rw [pk_mul, nI_add, pk_sub (by omega)]
theorem k_figures {p : St} {c : Nat → Nat} {b s : Nat} (hT : TX p c b) (hs : s ≤ b) (e2 : p.I 2 = nI s) (e4 : p.I 4 = nI s) (e5 : p.I 5 = 0) {Post : St → Prop} {KX : St → Prop} (h : ∀ y : St, y.2 = p.2 → (∀ k, k ≠ 2 → k ≠ 5 → y.I k = p.I k) → y.I 2 = nI (fs (fun j => !isD c j) s b) → (fs (fun j => !isD c j) s b - s ≤ 2 → y.I 5 = nI (vv c s (fs (fun j => !isD c j) s b - s))) → KX y) : ∃ n, wLX7_passFigures_5 Post KX n p := by
  have hb := hT.1
  refine it_rule (F := fun self z => wlX7_passFigures_5 Post KX self z) (fun y => ∃ j, s ≤ j ∧ j ≤ fs (fun j => !isD c j) s b ∧ y.2 = p.2 ∧ (∀ k, k ≠ 2 → k ≠ 5 → y.I k = p.I k) ∧ y.I 2 = nI j ∧ (j - s ≤ 2 → y.I 5 = nI (vv c s (j - s)))) (fun y => 150 - (y.I 2).toNatClampNeg) ?_ _ ⟨s, Nat.le_refl _, fs_ge _ _ _, rfl, fun _ _ _ => rfl, e2, fun _ => by rw [show s - s = 0 by omega]; exact e5⟩
  rintro self y ⟨j, h1, hj, a1, a2, a3, a4⟩ hself
  obtain ⟨s1, s2, s3⟩ := fs_step (P := fun j => !isD c j) (b := b) hj hs h1
  have hle := fs_le (P := fun j => !isD c j) hs
  have fin : j = fs (fun j => !isD c j) s b → KX y := fun q => h y a1 a2 (by rw [a3, q]) (by rw [← q]; exact a4)
  unfold wlX7_passFigures_5 wjX7_passFigures_72
  rw [a2 1 (by decide) (by decide), hT.2.1, a3]
  refine pk_le b j (fun hle => fin (s1 hle)) (fun hlt => ?_)
  obtain ⟨g1, g2⟩ := hT.2.2 j hlt
  refine k_within (lo := 48) (hi := 57) (TX_of hT a1 (a2 1 (by decide) (by decide))) hlt (by omega) (by omega) (fun q => b1e ?_) (fun q => b0e (fin (s2 ?_)))
  · have hn := s3 hlt (by rw [(isD_iff c j).mpr q]; rfl)
    have next : ∀ (v : Int32) (y3 y4 : St), y3 = y.sI 5 v → y4 = y3.sI 2 (y3.I 2 + 1) → (j + 1 - s ≤ 2 → v = nI (vv c s (j + 1 - s))) → self y4 := by
      intro v y3 y4 ey3 ey4 hv
      have e32 : y3.I 2 + 1 = nI (j + 1) := by rw [ey3, sI_I, if_neg (by decide), a3]; exact nI_1 j
      rw [e32] at ey4
      refine hself y4 ⟨j + 1, by omega, hn, by rw [ey4, ey3]; exact a1, fun k k2 k5 => by rw [ey4, sI_I, if_neg k2, ey3, sI_I, if_neg k5]; exact a2 k k2 k5, by rw [ey4]; rfl, fun hq => ?_⟩ ?_
      · rw [ey4, sI_I, if_neg (by decide), ey3, sI_I, if_pos rfl]; exact hv hq
      · have : y4.I 2 = nI (j + 1) := by rw [ey4]; rfl
        rw [this, a3, ncl (by omega), ncl (by omega)]; omega
    have e4' : y.I 4 = nI s := (a2 4 (by decide) (by decide)).trans e4
    rw [e4', pk_sub h1, ncl (by omega), A_of2 a1, g1]
    refine pk_le 2 (j - s) (fun h2 y3 ey3 y4 ey4 => next _ y3 y4 ey3 ey4 (fun w => by omega)) (fun h2 => ⟨vp_in_nI (by omega) (by omega), fun y3 ey3 y4 ey4 => next _ y3 y4 ey3 ey4 (fun w => ?_)⟩)
    rw [a4 (by omega), dig_eq q.1, show j + 1 - s = (j - s) + 1 by omega, vv_s, show s + (j - s) = j by omega]
  · have : isD c j = false := Bool.eq_false_iff.mpr (fun w => q ((isD_iff c j).mp w))
    rw [this]; rfl
theorem k_step {p : St} {c : Nat → Nat} {b i : Nat} (hT : TX p c b) (hi : i ≤ b) (e2 : p.I 2 = nI i) {Post : St → Prop} (h : ∀ y : St, y.2 = p.2 → y.I 1 = p.I 1 → y.I 6 = p.I 6 → y.I 7 = p.I 7 → TkC y c b i → Post y) : wpX7_step p Post := by
  have hb := hT.1
  have hs := tS_b (c := c) hi
  unfold wpX7_step
  refine k_skip hT hi e2 (fun y a1 a2 a3 => ?_)
  unfold wjX7_step_38
  intro p3 e3
  have f2 : p3.2 = p.2 := by rw [e3]; exact a1
  have f3 : ∀ k, k ≠ 2 → k ≠ 4 → p3.I k = p.I k := fun k k2 k4 => by rw [e3, sI_I, if_neg k4]; exact a2 k k2
  have f4 : p3.I 4 = nI (tS c b i) := by rw [e3, sI_I, if_pos rfl]; exact a3
  have f5 : p3.I 2 = nI (tS c b i) := by rw [e3, sI_I, if_neg (by decide)]; exact a3
  have hT3 := TX_of hT f2 (f3 1 (by decide) (by decide))
  rw [f5, hT3.2.1]
  refine pk_lt (tS c b i) b (fun hlt => ?_) (fun hge p10 e10 => ?_)
  · have h0 : tS c b i ≠ b := by omega
    refine k_within (lo := 97) (hi := 122) hT3 hlt (by omega) (by omega) (fun q => b1e ?_) (fun q => b0e ?_)
    · have hL := (isL_iff c (tS c b i)).mpr q
      intro p1 e1
      refine k_letters (s := tS c b i) (TX_of hT3 (by rw [e1]; rfl) (by rw [e1]; rfl)) hs.2 (by rw [e1]; exact f5) (fun z b1 b2 b3 => ?_)
      have e3E : tE c b i = fs (fun j => !isL c j) (tS c b i) b := by unfold tE; rw [if_neg h0, if_pos hL]
      refine h z (by rw [b1, e1]; exact f2) ?_ ?_ ?_ ⟨?_, by rw [b3, e3E], ?_, fun w => ?_⟩
      · rw [b2 1 (by decide), e1]; exact f3 1 (by decide) (by decide)
      · rw [b2 6 (by decide), e1]; exact f3 6 (by decide) (by decide)
      · rw [b2 7 (by decide), e1]; exact f3 7 (by decide) (by decide)
      · rw [b2 4 (by decide), e1]; exact f4
      · rw [b2 3 (by decide), e1]
        show (1 : Int32) = nI (tC c b i)
        unfold tC; rw [if_neg h0, if_pos hL]; rfl
      · have := (tK_C c b i).2.2.1.mp w
        unfold tC at this
        rw [if_neg h0, if_pos hL] at this; omega
    · have hL : ¬ isL c (tS c b i) = true := fun w => q ((isL_iff c (tS c b i)).mp w)
      refine k_within (lo := 48) (hi := 57) hT3 hlt (by omega) (by omega) (fun q2 => b1e ?_) (fun q2 => b0e ?_)
      · have hD := (isD_iff c (tS c b i)).mpr q2
        intro p1 e1
        have e3E : tE c b i = fs (fun j => !isD c j) (tS c b i) b := by unfold tE; rw [if_neg h0, if_neg hL, if_pos hD]
        refine k_figures (s := tS c b i) (TX_of hT3 (by rw [e1]; rfl) (by rw [e1]; rfl)) hs.2 (by rw [e1]; exact f5) (by rw [e1]; exact f4) (by rw [e1]; rfl) (fun z b1 b2 b3 b4 => ?_)
        have z4 : z.I 4 = nI (tS c b i) := by rw [b2 4 (by decide) (by decide), e1]; exact f4
        have hge := fs_ge (fun j => !isD c j) (tS c b i) b
        have hle := fs_le (P := fun j => !isD c j) hs.2
        unfold wjX7_passFigures_88 wjX7_passFigures_107
        rw [b3, z4, pk_sub hge]
        have fin : ∀ (v : Nat) (p6 : St), p6 = z.sI 3 (nI v) → v = tC c b i → Post p6 := by
          intro v p6 e6 ev
          refine h p6 (by rw [e6]; exact b1.trans (by rw [e1]; exact f2)) ?_ ?_ ?_ ⟨?_, ?_, ?_, fun w => ?_⟩
          · rw [e6, sI_I, if_neg (by decide), b2 1 (by decide) (by decide), e1]; exact f3 1 (by decide) (by decide)
          · rw [e6, sI_I, if_neg (by decide), b2 6 (by decide) (by decide), e1]; exact f3 6 (by decide) (by decide)
          · rw [e6, sI_I, if_neg (by decide), b2 7 (by decide) (by decide), e1]; exact f3 7 (by decide) (by decide)
          · rw [e6, sI_I, if_neg (by decide)]; exact z4
          · rw [e6, sI_I, if_neg (by decide), b3, e3E]
          · rw [e6, sI_I, if_pos rfl, ev]
          · rw [e6, sI_I, if_neg (by decide)]
            unfold tV
            rw [e3E]
            refine b4 ?_
            have := (tK_C c b i).2.2.1.mp w
            unfold tC at this
            rw [if_neg h0, if_neg hL, if_pos hD, e3E] at this
            by_cases w2 : fs (fun j => !isD c j) (tS c b i) b - tS c b i ≤ 2
            · exact w2
            · rw [if_neg w2] at this; omega
        refine pk_le (fs (fun j => !isD c j) (tS c b i) b - tS c b i) 2 (fun w p6 e6 => fin 2 p6 e6 ?_) (fun w p6 e6 => fin 4 p6 e6 ?_)
        · unfold tC; rw [if_neg h0, if_neg hL, if_pos hD, e3E, if_pos w]
        · unfold tC; rw [if_neg h0, if_neg hL, if_pos hD, e3E, if_neg (by omega)]
      · have hD : ¬ isD c (tS c b i) = true := fun w => q2 ((isD_iff c (tS c b i)).mp w)
        obtain ⟨g1, g2⟩ := hT.2.2 (tS c b i) hlt
        rw [ncl (by omega), A_of2 f2, g1]
        have eE : tE c b i = tS c b i + 1 := by unfold tE; rw [if_neg h0, if_neg hL, if_neg hD]
        unfold wjX7_step_129
        have fin : ∀ (v : Nat) (p6 p7 : St), p6 = p3.sI 3 (nI v) → p7 = p6.sI 2 (p6.I 2 + 1) → v = tC c b i → tK c b i ≠ 6 → Post p7 := by
          intro v p6 p7 e6 e7 ev hk
          have : p6.I 2 + 1 = nI (tS c b i + 1) := by rw [e6, sI_I, if_neg (by decide), f5]; exact nI_1 _
          rw [this] at e7
          refine h p7 (by rw [e7, e6]; exact f2) ?_ ?_ ?_ ⟨?_, ?_, ?_, fun w => absurd w hk⟩
          · rw [e7, sI_I, if_neg (by decide), e6, sI_I, if_neg (by decide)]; exact f3 1 (by decide) (by decide)
          · rw [e7, sI_I, if_neg (by decide), e6, sI_I, if_neg (by decide)]; exact f3 6 (by decide) (by decide)
          · rw [e7, sI_I, if_neg (by decide), e6, sI_I, if_neg (by decide)]; exact f3 7 (by decide) (by decide)
          · rw [e7, sI_I, if_neg (by decide), e6, sI_I, if_neg (by decide)]; exact f4
          · rw [e7, sI_I, if_pos rfl, eE]
          · rw [e7, sI_I, if_neg (by decide), e6, sI_I, if_pos rfl, ev]
        have hk : tK c b i ≠ 6 := fun w => by
          have := (tK_C c b i).2.2.1.mp w
          unfold tC at this
          rw [if_neg h0, if_neg hL, if_neg hD] at this
          split at this <;> omega
        refine ⟨vp_in_nI (by omega) (by omega), fun w p6 e6 p7 e7 => fin 4 p6 p7 e6 e7 ?_ hk, fun w p6 e6 p7 e7 => fin 3 p6 p7 e6 e7 ?_ hk⟩
        · have hne : c (tS c b i) ≠ 59 := fun u => w (by rw [u]; rfl)
          unfold tC; rw [if_neg h0, if_neg hL, if_neg hD, if_neg hne]
        · have he : c (tS c b i) = 59 := (nI_eq (b := 59) (by omega) (by decide)).mp w
          unfold tC; rw [if_neg h0, if_neg hL, if_neg hD, if_pos he]
  · have h0 : tS c b i = b := by omega
    refine h p10 (by rw [e10]; exact f2) ?_ ?_ ?_ ⟨?_, ?_, ?_, fun w => ?_⟩
    · rw [e10, sI_I, if_neg (by decide)]; exact f3 1 (by decide) (by decide)
    · rw [e10, sI_I, if_neg (by decide)]; exact f3 6 (by decide) (by decide)
    · rw [e10, sI_I, if_neg (by decide)]; exact f3 7 (by decide) (by decide)
    · rw [e10, sI_I, if_neg (by decide)]; exact f4
    · rw [e10, sI_I, if_neg (by decide), f5]
      unfold tE; rw [if_pos h0, h0]
    · rw [e10, sI_I, if_pos rfl]
      unfold tC; rw [if_pos h0]; rfl
    · have := (tK_C c b i).2.2.1.mp w
      unfold tC at this
      rw [if_pos h0] at this; omega
