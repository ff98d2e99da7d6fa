theorem nq {a w : Nat} (ha : a < 2 ^ 31) (hw : w < 2 ^ 31) {A B : Prop} (f : a ≠ w → A) (g : a = w → B) : ((¬ nI a = nI w) → A) ∧ ((nI a = nI w) → B) := ⟨fun q => f (fun e => q (by rw [e])), fun q => g ((nI_eq ha hw).mp q)⟩
def TM (x : St) (c : Nat → Nat) (b : Nat) : Prop := b ≤ 150 ∧ x.I 11 = nI b ∧ ∀ k, k < b → x.A 10 k = nI (c k) ∧ c k < 128
def TkM (y : St) (c : Nat → Nat) (b i : Nat) : Prop := y.I 15 = nI (tS c b i) ∧ y.I 12 = nI (tE c b i) ∧ y.I 13 = nI (tK c b i) ∧ (tK c b i = 6 → y.I 14 = nI (tV c b i))
theorem TM_of {p y : St} {c : Nat → Nat} {b : Nat} (h : TM p c b) (e : y.2 = p.2) (e1 : y.I 11 = p.I 11) : TM y c b := ⟨h.1, e1.trans h.2.1, fun k hk => by rw [A_of2 e]; exact h.2.2 k hk⟩
def cB (c : Nat → Nat) (b j : Nat) : Nat := if j < b then c j else 0
theorem m_byteAt {x : St} {c : Nat → Nat} {b j : Nat} (hT : TM x c b) (hj : j ≤ b) {Post : Int32 → Prop} (h : Post (nI (cB c b j))) : wpX12_byteAt (nI j) x Post := by
  obtain ⟨hb, e1, e2⟩ := hT
  unfold wpX12_byteAt
  unfold cB at h
  rw [e1, ncl (by omega)]
  refine pk_le b j (fun hle => ?_) (fun hlt => ⟨vp_in_nI (by omega) (by omega), ?_⟩)
  · rw [if_neg (by omega)] at h; exact h
  · rw [if_pos hlt] at h; rw [(e2 j hlt).1]; exact h
theorem cB_lt {x : St} {c : Nat → Nat} {b j : Nat} (hT : TM x c b) : cB c b j < 128 := by
  unfold cB
  split
  · rename_i h; exact (hT.2.2 j h).2
  · omega
theorem m_inN {v lo hi : Nat} (hv : v < 2 ^ 31) (hlo : lo < 2 ^ 31) (hhi : hi < 2 ^ 31) {Post : Int32 → Prop} (h1 : lo ≤ v ∧ v ≤ hi → Post 1) (h0 : ¬ (lo ≤ v ∧ v ≤ hi) → Post 0) : wpX12_in ((nI v).toInt64) (lN lo) (lN hi) Post := by
  refine in_rule (lo : Int) (hi : Int) (pk_lT (by omega)) (pk_lT (by omega)) (fun a b => h1 ?_) (fun q => h0 ?_)
  · rw [nI_toInt hv] at a b; omega
  · rw [nI_toInt hv] at q; omega
/-! words -/
theorem m_w0 {p : St} {Post : Int32 → Prop} (x4 x5 x6 z : Int32) (h : Post 0) : wjX12_isWord_84 p Post x4 x5 x6 z 0 := by
  unfold wjX12_isWord_84 wjX12_isWord_118
  exact ⟨fun _ => ⟨fun _ => h, fun q => absurd rfl q⟩, fun q => absurd rfl q⟩
theorem m_word3 {p : St} {c : Nat → Nat} {b s l w1 w2 w3 : Nat} (hT : TM p c b) (hl : s + l ≤ b) (e15 : p.I 15 = nI s) (e12 : p.I 12 = nI (s + l)) (h1 : w1 < 1000) (h2 : w2 < 1000) (h3 : w3 < 1000) {Post : Int32 → Prop} (hy : (l = 3 ∧ c s = w1 ∧ c (s + 1) = w2 ∧ c (s + 2) = w3) → Post 1) (hn : ¬ (l = 3 ∧ c s = w1 ∧ c (s + 1) = w2 ∧ c (s + 2) = w3) → Post 0) : wpX12_isWord (nI w1) (nI w2) (nI w3) 0 0 0 p Post := by
  have hb := hT.1
  unfold wpX12_isWord wjX12_isWord_20
  refine ⟨fun q => absurd rfl q, fun _ => ?_⟩
  rw [e12, e15, pk_sub (by omega), show s + l - s = l by omega]
  refine nq (w := 3) (by omega) (by omega) (fun q => m_w0 _ _ _ _ (hn (fun w => q w.1))) (fun q => ?_)
  subst q
  obtain ⟨a1, c1⟩ := hT.2.2 s (by omega)
  obtain ⟨a2, c2⟩ := hT.2.2 (s + 1) (by omega)
  obtain ⟨a3, c3⟩ := hT.2.2 (s + 2) (by omega)
  rw [show nI s + 1 = nI (s + 1) from nI_1 s, show nI s + 2 = nI (s + 2) from nI_add s 2, ncl (by omega), ncl (by omega), ncl (by omega), a1, a2, a3]
  refine ⟨vp_in_nI (by omega) (by omega), nq (by omega) (by omega) (fun q => m_w0 _ _ _ _ (hn (fun w => q w.2.1))) (fun q1 => ⟨vp_in_nI (by omega) (by omega), nq (by omega) (by omega) (fun q => m_w0 _ _ _ _ (hn (fun w => q w.2.2.1))) (fun q2 => ⟨vp_in_nI (by omega) (by omega), nq (by omega) (by omega) (fun q => m_w0 _ _ _ _ (hn (fun w => q w.2.2.2))) (fun q3 => ?_)⟩)⟩)⟩
  unfold wjX12_isWord_84 wjX12_isWord_118
  exact b1e ⟨fun _ => b1e ⟨fun _ => hy ⟨rfl, q1, q2, q3⟩, fun q => absurd (by decide) q⟩, fun q => absurd (by decide) q⟩
theorem m_word4 {p : St} {c : Nat → Nat} {b s l w1 w2 w3 w4 : Nat} (hT : TM p c b) (hl : s + l ≤ b) (e15 : p.I 15 = nI s) (e12 : p.I 12 = nI (s + l)) (h1 : w1 < 1000) (h2 : w2 < 1000) (h3 : w3 < 1000) (h4 : w4 < 1000) (h40 : w4 ≠ 0) {Post : Int32 → Prop} (hy : (l = 4 ∧ c s = w1 ∧ c (s + 1) = w2 ∧ c (s + 2) = w3 ∧ c (s + 3) = w4) → Post 1) (hn : ¬ (l = 4 ∧ c s = w1 ∧ c (s + 1) = w2 ∧ c (s + 2) = w3 ∧ c (s + 3) = w4) → Post 0) : wpX12_isWord (nI w1) (nI w2) (nI w3) (nI w4) 0 0 p Post := by
  have hb := hT.1
  unfold wpX12_isWord wjX12_isWord_20
  refine ⟨fun _ => ⟨fun q => absurd rfl q, fun _ => ?_⟩, fun q => absurd ((nI_eq (b := 0) (by omega) (by decide)).mp q) h40⟩
  rw [e12, e15, pk_sub (by omega), show s + l - s = l by omega]
  refine nq (w := 4) (by omega) (by omega) (fun q => m_w0 _ _ _ _ (hn (fun w => q w.1))) (fun q => ?_)
  subst q
  obtain ⟨a1, c1⟩ := hT.2.2 s (by omega)
  obtain ⟨a2, c2⟩ := hT.2.2 (s + 1) (by omega)
  obtain ⟨a3, c3⟩ := hT.2.2 (s + 2) (by omega)
  obtain ⟨a4, c4⟩ := hT.2.2 (s + 3) (by omega)
  rw [show nI s + 1 = nI (s + 1) from nI_1 s, show nI s + 2 = nI (s + 2) from nI_add s 2, ncl (by omega), ncl (by omega), ncl (by omega), a1, a2, a3]
  refine ⟨vp_in_nI (by omega) (by omega), nq (by omega) (by omega) (fun q => m_w0 _ _ _ _ (hn (fun w => q w.2.1))) (fun q1 => ⟨vp_in_nI (by omega) (by omega), nq (by omega) (by omega) (fun q => m_w0 _ _ _ _ (hn (fun w => q w.2.2.1))) (fun q2 => ⟨vp_in_nI (by omega) (by omega), nq (by omega) (by omega) (fun q => m_w0 _ _ _ _ (hn (fun w => q w.2.2.2.1))) (fun q3 => ?_)⟩)⟩)⟩
  unfold wjX12_isWord_84 wjX12_isWord_118
  rw [e15, show nI s + 3 = nI (s + 3) from nI_add s 3, ncl (by omega), a4]
  refine b1e ⟨fun q => absurd q (by decide), fun _ => ⟨vp_in_nI (by omega) (by omega), nq (by omega) (by omega) (fun q => b0e (hn (fun w => q w.2.2.2.2))) (fun q4 => b1e ⟨fun _ => hy ⟨rfl, q1, q2, q3, q4⟩, fun q => absurd (by decide) q⟩)⟩⟩
theorem m_word6 {p : St} {c : Nat → Nat} {b s l w1 w2 w3 w4 w5 w6 : Nat} (hT : TM p c b) (hl : s + l ≤ b) (e15 : p.I 15 = nI s) (e12 : p.I 12 = nI (s + l)) (h1 : w1 < 1000) (h2 : w2 < 1000) (h3 : w3 < 1000) (h4 : w4 < 1000) (h5 : w5 < 1000) (h6 : w6 < 1000) (h40 : w4 ≠ 0) (h50 : w5 ≠ 0) {Post : Int32 → Prop} (hy : (l = 6 ∧ c s = w1 ∧ c (s + 1) = w2 ∧ c (s + 2) = w3 ∧ c (s + 3) = w4 ∧ c (s + 4) = w5 ∧ c (s + 5) = w6) → Post 1) (hn : ¬ (l = 6 ∧ c s = w1 ∧ c (s + 1) = w2 ∧ c (s + 2) = w3 ∧ c (s + 3) = w4 ∧ c (s + 4) = w5 ∧ c (s + 5) = w6) → Post 0) : wpX12_isWord (nI w1) (nI w2) (nI w3) (nI w4) (nI w5) (nI w6) p Post := by
  have hb := hT.1
  unfold wpX12_isWord wjX12_isWord_20
  refine ⟨fun _ => ⟨fun _ => ?_, fun q => absurd ((nI_eq (b := 0) (by omega) (by decide)).mp q) h50⟩, fun q => absurd ((nI_eq (b := 0) (by omega) (by decide)).mp q) h40⟩
  rw [e12, e15, pk_sub (by omega), show s + l - s = l by omega]
  refine nq (w := 6) (by omega) (by omega) (fun q => m_w0 _ _ _ _ (hn (fun w => q w.1))) (fun q => ?_)
  subst q
  obtain ⟨a1, c1⟩ := hT.2.2 s (by omega)
  obtain ⟨a2, c2⟩ := hT.2.2 (s + 1) (by omega)
  obtain ⟨a3, c3⟩ := hT.2.2 (s + 2) (by omega)
  obtain ⟨a4, c4⟩ := hT.2.2 (s + 3) (by omega)
  obtain ⟨a5, c5⟩ := hT.2.2 (s + 4) (by omega)
  obtain ⟨a6, c6⟩ := hT.2.2 (s + 5) (by omega)
  rw [show nI s + 1 = nI (s + 1) from nI_1 s, show nI s + 2 = nI (s + 2) from nI_add s 2, ncl (by omega), ncl (by omega), ncl (by omega), a1, a2, a3]
  refine ⟨vp_in_nI (by omega) (by omega), nq (by omega) (by omega) (fun q => m_w0 _ _ _ _ (hn (fun w => q w.2.1))) (fun q1 => ⟨vp_in_nI (by omega) (by omega), nq (by omega) (by omega) (fun q => m_w0 _ _ _ _ (hn (fun w => q w.2.2.1))) (fun q2 => ⟨vp_in_nI (by omega) (by omega), nq (by omega) (by omega) (fun q => m_w0 _ _ _ _ (hn (fun w => q w.2.2.2.1))) (fun q3 => ?_)⟩)⟩)⟩
  unfold wjX12_isWord_84 wjX12_isWord_118
  rw [e15, show nI s + 3 = nI (s + 3) from nI_add s 3, show nI s + 4 = nI (s + 4) from nI_add s 4, show nI s + 5 = nI (s + 5) from nI_add s 5, ncl (by omega), ncl (by omega), ncl (by omega), a4, a5, a6]
  refine b1e ⟨fun q => absurd q (by decide), fun _ => ⟨vp_in_nI (by omega) (by omega), nq (by omega) (by omega) (fun q => b0e (hn (fun w => q w.2.2.2.2.1))) (fun q4 => b1e ⟨fun q => absurd q (by decide), fun _ => ⟨vp_in_nI (by omega) (by omega), nq (by omega) (by omega) (fun q => hn (fun w => q w.2.2.2.2.2.1)) (fun q5 => ⟨vp_in_nI (by omega) (by omega), nq (by omega) (by omega) (fun q => hn (fun w => q w.2.2.2.2.2.2)) (fun q6 => hy ⟨rfl, q1, q2, q3, q4, q5, q6⟩)⟩)⟩⟩)⟩⟩
/-! the next token -/
theorem m_skip {p : St} {c : Nat → Nat} {b i : Nat} (hT : TM p c b) (hi : i ≤ b) (e2 : p.I 12 = nI i) {Post : St → Prop} {KX : St → Prop} (h : ∀ y : St, y.2 = p.2 → (∀ k, k ≠ 12 → y.I k = p.I k) → y.I 12 = nI (tS c b i) → KX y) : ∃ n, wLX12_nextToken_0 Post KX n p := by
  have hb := hT.1
  refine it_rule (F := fun self z => wlX12_nextToken_0 Post KX self z) (fun y => ∃ j, i ≤ j ∧ j ≤ tS c b i ∧ y.2 = p.2 ∧ (∀ k, k ≠ 12 → y.I k = p.I k) ∧ y.I 12 = nI j) (fun y => 150 - (y.I 12).toNatClampNeg) ?_ _ ⟨i, Nat.le_refl _, (tS_b hi).1, rfl, fun _ _ => rfl, e2⟩
  rintro self y ⟨j, h1, hj, a1, a2, a3⟩ hself
  have hs := tS_b (c := c) hi
  obtain ⟨s1, s2, s3⟩ := fs_step (P := nSp c) (b := b) hj hi h1
  have fin : j = tS c b i → KX y := fun q => h y a1 a2 (by rw [a3, q])
  have hTy := TM_of hT a1 (a2 11 (by decide))
  unfold wlX12_nextToken_0
  rw [a3]
  have hcb := cB_lt (j := j) hTy
  refine m_byteAt hTy (by omega) (nq (w := 32) (by omega) (by omega) (fun q => fin ?_) (fun q y' ey => ?_))
  · unfold cB at q
    by_cases hjb : j < b
    · rw [if_pos hjb] at q
      exact s2 (decide_eq_true q)
    · exact s1 (by omega)
  · unfold cB at q
    by_cases hjb : j < b
    · rw [if_pos hjb] at q
      rw [nI_1] at ey
      have hn := s3 hjb (by unfold nSp; exact decide_eq_false (fun w => w q))
      refine hself y' ⟨j + 1, by omega, hn, by rw [ey]; exact a1, fun k hk => by rw [ey, sI_I, if_neg hk]; exact a2 k hk, by rw [ey]; rfl⟩ ?_
      have : y'.I 12 = nI (j + 1) := by rw [ey]; rfl
      rw [this, a3, ncl (by omega), ncl (by omega)]; omega
    · rw [if_neg hjb] at q; omega
theorem cB_at {c : Nat → Nat} {b j : Nat} (h : j < b) : cB c b j = c j := by unfold cB; rw [if_pos h]
theorem m_letters {p : St} {c : Nat → Nat} {b s : Nat} (hT : TM p c b) (hs : s ≤ b) (e2 : p.I 12 = nI s) {Post : St → Prop} {KX : St → Prop} (h : ∀ y : St, y.2 = p.2 → (∀ k, k ≠ 12 → y.I k = p.I k) → y.I 12 = nI (fs (fun j => !isL c j) s b) → KX y) : ∃ n, wLX12_nextToken_81 Post KX n p := by
  have hb := hT.1
  refine it_rule (F := fun self z => wlX12_nextToken_81 Post KX self z) (fun y => ∃ j, s ≤ j ∧ j ≤ fs (fun j => !isL c j) s b ∧ y.2 = p.2 ∧ (∀ k, k ≠ 12 → y.I k = p.I k) ∧ y.I 12 = nI j) (fun y => 150 - (y.I 12).toNatClampNeg) ?_ _ ⟨s, Nat.le_refl _, fs_ge _ _ _, rfl, fun _ _ => rfl, e2⟩
  rintro self y ⟨j, h1, hj, a1, a2, a3⟩ hself
  obtain ⟨s1, s2, s3⟩ := fs_step (P := fun j => !isL c j) (b := b) hj hs h1
  have hle := fs_le (P := fun j => !isL c j) hs
  have fin : j = fs (fun j => !isL c j) s b → KX y := fun q => h y a1 a2 (by rw [a3, q])
  have hTy := TM_of hT a1 (a2 11 (by decide))
  have hcb := cB_lt (j := j) hTy
  unfold wlX12_nextToken_81
  rw [a3]
  refine m_byteAt hTy (by omega) (m_inN (lo := 97) (hi := 122) (by omega) (by omega) (by omega) (fun q => b1e (fun y' ey => ?_)) (fun q => b0e (fin ?_)))
  · have hjb : j < b := by
      refine Nat.lt_of_not_le fun w => ?_
      unfold cB at q
      rw [if_neg (by omega)] at q; omega
    rw [cB_at hjb] at q
    rw [nI_1] at ey
    have hn := s3 hjb (by rw [(isL_iff c j).mpr q]; rfl)
    refine hself y' ⟨j + 1, by omega, hn, by rw [ey]; exact a1, fun k hk => by rw [ey, sI_I, if_neg hk]; exact a2 k hk, by rw [ey]; rfl⟩ ?_
    have : y'.I 12 = nI (j + 1) := by rw [ey]; rfl
    rw [this, a3, ncl (by omega), ncl (by omega)]; omega
  · by_cases hjb : j < b
    · rw [cB_at hjb] at q
      have : isL c j = false := Bool.eq_false_iff.mpr (fun w => q ((isL_iff c j).mp w))
      exact s2 (by rw [this]; rfl)
    · exact s1 (by omega)
theorem m_figures {p : St} {c : Nat → Nat} {b s : Nat} (hT : TM p c b) (hs : s ≤ b) (e2 : p.I 12 = nI s) (e5 : p.I 14 = 0) {Post : St → Prop} {KX : St → Prop} (h : ∀ y : St, y.2 = p.2 → (∀ k, k ≠ 12 → k ≠ 14 → y.I k = p.I k) → y.I 12 = nI (fs (fun j => !isD c j) s b) → (fs (fun j => !isD c j) s b - s ≤ 2 → y.I 14 = nI (vv c s (fs (fun j => !isD c j) s b - s))) → KX y) : ∃ n, wLX12_nextToken_229 Post KX n p := by
  have hb := hT.1
  refine it_rule (F := fun self z => wlX12_nextToken_229 Post KX self z) (fun y => ∃ j, s ≤ j ∧ j ≤ fs (fun j => !isD c j) s b ∧ y.2 = p.2 ∧ (∀ k, k ≠ 12 → k ≠ 14 → y.I k = p.I k) ∧ y.I 12 = nI j ∧ (j - s ≤ 2 → y.I 14 = nI (vv c s (j - s)))) (fun y => 150 - (y.I 12).toNatClampNeg) ?_ _ ⟨s, Nat.le_refl _, fs_ge _ _ _, rfl, fun _ _ _ => rfl, e2, fun _ => by rw [show s - s = 0 by omega]; exact e5⟩
  rintro self y ⟨j, h1, hj, a1, a2, a3, a4⟩ hself
  obtain ⟨s1, s2, s3⟩ := fs_step (P := fun j => !isD c j) (b := b) hj hs h1
  have hle := fs_le (P := fun j => !isD c j) hs
  have fin : j = fs (fun j => !isD c j) s b → KX y := fun q => h y a1 a2 (by rw [a3, q]) (by rw [← q]; exact a4)
  have hTy := TM_of hT a1 (a2 11 (by decide) (by decide))
  have hcb := cB_lt (j := j) hTy
  unfold wlX12_nextToken_229 wjX12_nextToken_287
  rw [a3]
  refine m_byteAt hTy (by omega) (m_inN (lo := 48) (hi := 57) (by omega) (by omega) (by omega) (fun q => b1e ?_) (fun q => b0e (fin ?_)))
  · have hjb : j < b := by
      refine Nat.lt_of_not_le fun w => ?_
      unfold cB at q
      rw [if_neg (by omega)] at q; omega
    rw [cB_at hjb] at q
    have hn := s3 hjb (by rw [(isD_iff c j).mpr q]; rfl)
    have next : ∀ (v : Int32) (y3 y4 : St), y3 = y.sI 14 v → y4 = y3.sI 12 (y3.I 12 + 1) → (j + 1 - s ≤ 2 → v = nI (vv c s (j + 1 - s))) → self y4 := by
      intro v y3 y4 ey3 ey4 hv
      have e32 : y3.I 12 + 1 = nI (j + 1) := by rw [ey3, sI_I, if_neg (by decide), a3]; exact nI_1 j
      rw [e32] at ey4
      refine hself y4 ⟨j + 1, by omega, hn, by rw [ey4, ey3]; exact a1, fun k k2 k5 => by rw [ey4, sI_I, if_neg k2, ey3, sI_I, if_neg k5]; exact a2 k k2 k5, by rw [ey4]; rfl, fun hq => ?_⟩ ?_
      · rw [ey4, sI_I, if_neg (by decide), ey3, sI_I, if_pos rfl]; exact hv hq
      · have : y4.I 12 = nI (j + 1) := by rw [ey4]; rfl
        rw [this, a3, ncl (by omega), ncl (by omega)]; omega
    rw [ncl (by omega), (hTy.2.2 j hjb).1]
    refine ⟨fun h2 => ⟨vp_in_nI (by omega) (by omega), fun y3 ey3 y4 ey4 => next _ y3 y4 ey3 ey4 (fun w => ?_)⟩, fun h2 y3 ey3 y4 ey4 => next _ y3 y4 ey3 ey4 (fun w => absurd ?_ h2)⟩
    · rw [a4 (by omega), dig_eq q.1, show j + 1 - s = (j - s) + 1 by omega, vv_s, show s + (j - s) = j by omega]
    · rw [a4 (by omega)]
      rcases (show j - s = 0 ∨ j - s = 1 by omega) with w0 | w0
      · rw [w0]
        show nI 0 ≤ 99
        decide
      · rw [w0]
        have hd0 := fs_no (P := fun j => !isD c j) (Nat.le_refl s) (b := b) (by omega)
        have hd1 := (isD_iff c s).mp (by simpa using hd0)
        have : vv c s 1 = c s - 48 := by
          show 10 * 0 + c (s + 0) - 48 = _
          rw [Nat.add_zero]; omega
        rw [this]
        exact nI_le (b := 99) (by omega) (by omega)
  · by_cases hjb : j < b
    · rw [cB_at hjb] at q
      have : isD c j = false := Bool.eq_false_iff.mpr (fun w => q ((isD_iff c j).mp w))
      exact s2 (by rw [this]; rfl)
    · exact s1 (by omega)
theorem m_nextToken {p : St} {c : Nat → Nat} {b i : Nat} (hT : TM p c b) (hi : i ≤ b) (e2 : p.I 12 = nI i) {Post : St → Prop} (h : ∀ y : St, y.2 = p.2 → (∀ k, k ≠ 12 → k ≠ 13 → k ≠ 14 → k ≠ 15 → y.I k = p.I k) → TkM y c b i → Post y) : wpX12_nextToken p Post := by
  have hb := hT.1
  have hs := tS_b (c := c) hi
  have hE := tE_b (c := c) hi
  unfold wpX12_nextToken
  refine m_skip hT hi e2 (fun y a1 a2 a3 => ?_)
  intro p4 e4
  have i12 : p4.I 12 = nI (tS c b i) := by rw [e4, sI_I, if_neg (by decide)]; exact a3
  have i11 : p4.I 11 = nI b := by rw [e4, sI_I, if_neg (by decide), a2 11 (by decide)]; exact hT.2.1
  have body : ∀ (v : Nat), (v = 7 ↔ tS c b i = b) → (v = 0 ∨ v = 7) → wjX12_nextToken_52 Post (nI v) p4 := by
    intro v hv hv2 p5 e5 p6 e6
    have f2 : p6.2 = p.2 := by rw [e6, e5, e4]; exact a1
    have f3 : ∀ k, k ≠ 12 → k ≠ 13 → k ≠ 14 → k ≠ 15 → p6.I k = p.I k := fun k k1 k2 k3 k4 => by
      rw [e6, sI_I, if_neg k3, e5, sI_I, if_neg k2, e4, sI_I, if_neg k4]; exact a2 k k1
    have g12 : p6.I 12 = nI (tS c b i) := by rw [e6, sI_I, if_neg (by decide), e5, sI_I, if_neg (by decide)]; exact i12
    have g13 : p6.I 13 = nI v := by rw [e6, sI_I, if_neg (by decide), e5, sI_I, if_pos rfl]
    have g14 : p6.I 14 = 0 := by rw [e6, sI_I, if_pos rfl]
    have g15 : p6.I 15 = nI (tS c b i) := by rw [e6, sI_I, if_neg (by decide), e5, sI_I, if_neg (by decide), e4, sI_I, if_pos rfl]; exact a3
    have hT6 := TM_of hT f2 (f3 11 (by decide) (by decide) (by decide) (by decide))
    have hcb := cB_lt (j := tS c b i) hT6
    rw [g12, g13]
    refine m_byteAt hT6 hs.2 (m_inN (lo := 97) (hi := 122) (by omega) (by omega) (by omega) (fun q => b1e ?_) (fun q => b0e ?_))
    · have hjb : tS c b i < b := by
        refine Nat.lt_of_not_le fun w => ?_
        unfold cB at q
        rw [if_neg (by omega)] at q; omega
      rw [cB_at hjb] at q
      have h0 : tS c b i ≠ b := by omega
      have hL := (isL_iff c (tS c b i)).mpr q
      have eE : tE c b i = fs (fun j => !isL c j) (tS c b i) b := by unfold tE; rw [if_neg h0, if_pos hL]
      have eK : tK c b i = wdK c (tS c b i) (tE c b i - tS c b i) := by unfold tK; rw [if_neg h0, if_pos hL]
      refine m_letters (s := tS c b i) hT6 hs.2 g12 (fun z b1 b2 b3 => ?_)
      rw [← eE] at b3
      have hTz := TM_of hT6 b1 (b2 11 (by decide))
      have z15 : z.I 15 = nI (tS c b i) := by rw [b2 15 (by decide)]; exact g15
      have z12 : z.I 12 = nI (tS c b i + (tE c b i - tS c b i)) := by rw [b3]; congr 1; omega
      have fin : ∀ (v : Nat) (p28 : St), p28 = z.sI 13 (nI v) → tK c b i = v → v ≠ 6 → Post p28 := by
        intro v p28 e28 ev hv6
        refine h p28 (by rw [e28]; exact b1.trans f2) (fun k k1 k2 k3 k4 => by rw [e28, sI_I, if_neg k2, b2 k k1]; exact f3 k k1 k2 k3 k4) ⟨?_, ?_, ?_, fun w => ?_⟩
        · rw [e28, sI_I, if_neg (by decide)]; exact z15
        · rw [e28, sI_I, if_neg (by decide)]; exact b3
        · rw [e28, sI_I, if_pos rfl, ev]
        · omega
      unfold wjX12_nextToken_202
      refine m_word3 (w1 := 112) (w2 := 97) (w3 := 100) hTz (by omega) z15 z12 (by omega) (by omega) (by omega) (fun q1 => b1e (fun p28 e28 => fin 1 p28 e28 ?_ (by omega))) (fun q1 => b0e ?_)
      · rw [eK]; unfold wdK; rw [if_pos q1]
      refine m_word6 (w1 := 99) (w2 := 97) (w3 := 114) (w4 := 98) (w5 := 111) (w6 := 110) hTz (by omega) z15 z12 (by omega) (by omega) (by omega) (by omega) (by omega) (by omega) (by omega) (by omega) (fun q2 => b1e (fun p28 e28 => fin 2 p28 e28 ?_ (by omega))) (fun q2 => b0e ?_)
      · rw [eK]; unfold wdK; rw [if_neg q1, if_pos q2]
      refine m_word4 (w1 := 110) (w2 := 111) (w3 := 116) (w4 := 101) hTz (by omega) z15 z12 (by omega) (by omega) (by omega) (by omega) (by omega) (fun q3 => b1e (fun p28 e28 => fin 3 p28 e28 ?_ (by omega))) (fun q3 => b0e ?_)
      · rw [eK]; unfold wdK; rw [if_neg q1, if_neg q2, if_pos q3]
      refine m_word4 (w1 := 116) (w2 := 101) (w3 := 97) (w4 := 114) hTz (by omega) z15 z12 (by omega) (by omega) (by omega) (by omega) (by omega) (fun q4 => b1e (fun p28 e28 => fin 4 p28 e28 ?_ (by omega))) (fun q4 => b0e (fun p28 e28 => fin 0 p28 e28 ?_ (by omega)))
      · rw [eK]; unfold wdK; rw [if_neg q1, if_neg q2, if_neg q3, if_pos q4]
      · rw [eK]; unfold wdK; rw [if_neg q1, if_neg q2, if_neg q3, if_neg q4]
    · refine m_byteAt hT6 hs.2 (m_inN (lo := 48) (hi := 57) (by omega) (by omega) (by omega) (fun q2 => b1e ?_) (fun q2 => b0e ?_))
      · have hjb : tS c b i < b := by
          refine Nat.lt_of_not_le fun w => ?_
          unfold cB at q2
          rw [if_neg (by omega)] at q2; omega
        rw [cB_at hjb] at q q2
        have h0 : tS c b i ≠ b := by omega
        have hL : ¬ isL c (tS c b i) = true := fun w => q ((isL_iff c (tS c b i)).mp w)
        have hD := (isD_iff c (tS c b i)).mpr q2
        have eE : tE c b i = fs (fun j => !isD c j) (tS c b i) b := by unfold tE; rw [if_neg h0, if_neg hL, if_pos hD]
        have eK : tK c b i = if tE c b i - tS c b i ≤ 2 then 6 else 0 := by unfold tK; rw [if_neg h0, if_neg hL, if_pos hD]
        refine m_figures (s := tS c b i) hT6 hs.2 g12 g14 (fun z b1 b2 b3 b4 => ?_)
        rw [← eE] at b3 b4
        have z15 : z.I 15 = nI (tS c b i) := by rw [b2 15 (by decide) (by decide)]; exact g15
        unfold wjX12_nextToken_323
        rw [b3, z15, pk_sub hE.1]
        have fin : ∀ (v : Nat) (p28 : St), p28 = z.sI 13 (nI v) → tK c b i = v → Post p28 := by
          intro v p28 e28 ev
          refine h p28 (by rw [e28]; exact b1.trans f2) (fun k k1 k2 k3 k4 => by rw [e28, sI_I, if_neg k2, b2 k k1 k3]; exact f3 k k1 k2 k3 k4) ⟨?_, ?_, ?_, fun w => ?_⟩
          · rw [e28, sI_I, if_neg (by decide)]; exact z15
          · rw [e28, sI_I, if_neg (by decide)]; exact b3
          · rw [e28, sI_I, if_pos rfl, ev]
          · rw [e28, sI_I, if_neg (by decide)]
            refine b4 ?_
            rw [eK] at w
            by_cases w2 : tE c b i - tS c b i ≤ 2
            · exact w2
            · rw [if_neg w2] at w; omega
        refine pk_le (tE c b i - tS c b i) 2 (fun w p28 e28 => fin 6 p28 e28 ?_) (fun w p28 e28 => fin 0 p28 e28 ?_)
        · rw [eK, if_pos w]
        · rw [eK, if_neg (by omega)]
      · rcases hv2 with hv0 | hv7
        · subst hv0
          refine ⟨fun w => absurd rfl w, fun _ => ?_⟩
          have h0 : tS c b i ≠ b := fun w => absurd (hv.mpr w) (by omega)
          have hjb : tS c b i < b := by omega
          rw [cB_at hjb] at q q2
          have hL : ¬ isL c (tS c b i) = true := fun w => q ((isL_iff c (tS c b i)).mp w)
          have hD : ¬ isD c (tS c b i) = true := fun w => q2 ((isD_iff c (tS c b i)).mp w)
          have eE : tE c b i = tS c b i + 1 := by unfold tE; rw [if_neg h0, if_neg hL, if_neg hD]
          have eK : tK c b i = if c (tS c b i) = 59 then 5 else 0 := by unfold tK; rw [if_neg h0, if_neg hL, if_neg hD]
          have fin : ∀ (v : Nat) (p12 p13 : St), p12 = p6.sI 13 (nI v) → p13 = p12.sI 12 (p12.I 12 + 1) → tK c b i = v → v ≠ 6 → Post p13 := by
            intro v p12 p13 e12 e13 ev hv6
            have : p12.I 12 + 1 = nI (tE c b i) := by rw [e12, sI_I, if_neg (by decide), g12, eE]; exact nI_1 _
            rw [this] at e13
            refine h p13 (by rw [e13, e12]; exact f2) (fun k k1 k2 k3 k4 => by rw [e13, sI_I, if_neg k1, e12, sI_I, if_neg k2]; exact f3 k k1 k2 k3 k4) ⟨?_, ?_, ?_, fun w => ?_⟩
            · rw [e13, sI_I, if_neg (by decide), e12, sI_I, if_neg (by decide)]; exact g15
            · rw [e13, sI_I, if_pos rfl]
            · rw [e13, sI_I, if_neg (by decide), e12, sI_I, if_pos rfl, ev]
            · omega
          unfold wjX12_nextToken_355
          refine m_byteAt hT6 hs.2 ?_
          rw [cB_at hjb] at hcb ⊢
          refine nq (w := 59) (by omega) (by omega) (fun w p12 e12 p13 e13 => fin 0 p12 p13 e12 e13 ?_ (by omega)) (fun w p12 e12 p13 e13 => fin 5 p12 p13 e12 e13 ?_ (by omega))
          · rw [eK, if_neg w]
          · rw [eK, if_pos w]
        · subst hv7
          refine ⟨fun _ => ?_, fun w => absurd w (by decide)⟩
          have h0 : tS c b i = b := hv.mp rfl
          have eE : tE c b i = b := by unfold tE; rw [if_pos h0]
          have eK : tK c b i = 7 := by unfold tK; rw [if_pos h0]
          refine h p6 f2 f3 ⟨g15, by rw [g12, eE, h0], by rw [g13, eK], fun w => by omega⟩
  rw [i12, i11]
  refine nq (by omega) (by omega) (fun q => body 0 ⟨fun w => by omega, fun w => absurd w q⟩ (Or.inl rfl)) (fun q => body 7 ⟨fun _ => q, fun _ => rfl⟩ (Or.inr rfl))
