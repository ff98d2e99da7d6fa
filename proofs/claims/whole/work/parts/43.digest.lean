def dg (f : Nat → Int32) (h : Int64) : Nat → Int64
  | 0 => h
  | i + 1 => 31 * dg f h i + (f i).toInt64
theorem dg_s (f : Nat → Int32) (h : Int64) (i : Nat) : dg f h (i + 1) = 31 * dg f h i + (f i).toInt64 := rfl
theorem dg_cong {f g : Nat → Int32} {h : Int64} : ∀ n, (∀ i, i < n → f i = g i) → dg f h n = dg g h n
  | 0, _ => rfl
  | n + 1, e => by rw [dg_s, dg_s, dg_cong n (fun i hi => e i (by omega)), e n (by omega)]
theorem sL_sL (x : St) (k : Nat) (a b : Int64) : (x.sL k a).sL k b = x.sL k b := by
  unfold St.sL
  congr 2
  funext j
  by_cases h : j = k
  · rw [if_pos h, if_pos h]
  · rw [if_neg h, if_neg h]; show (if j = k then a else x.2.1 j) = _; rw [if_neg h]
theorem m_mix {x : St} {v a : Int64} {Post : St → Prop} (h : Post (x.sL 29 (31 * v + a))) : wpX12_mix a (x.sL 29 v) Post := by
  intro p1 e
  rw [sL_sL] at e
  subst e
  exact h
/-! the counts -/
def cnF (x : St) (i : Nat) : Int32 := if i = 0 then x.I 0 else if i = 1 then x.A 4 125 else if i = 2 then x.A 4 124 else if i = 3 then x.I 3 else if i = 4 then x.I 1 else if i = 5 then x.I 6 else x.I 11
theorem m_countOf {x : St} {i : Nat} (hi : i < 7) {Post : Int32 → Prop} (h : Post (cnF x i)) : wpX12_countOf (nI i) x Post := by
  rcases (show i = 0 ∨ i = 1 ∨ i = 2 ∨ i = 3 ∨ i = 4 ∨ i = 5 ∨ i = 6 by omega) with rfl | rfl | rfl | rfl | rfl | rfl | rfl
  · exact ⟨fun z => absurd rfl z, fun _ => h⟩
  · exact ⟨fun _ => ⟨fun z => absurd rfl z, fun _ => h⟩, fun e => absurd e (by decide)⟩
  · exact ⟨fun _ => ⟨fun _ => ⟨fun z => absurd rfl z, fun _ => h⟩, fun e => absurd e (by decide)⟩, fun e => absurd e (by decide)⟩
  · exact ⟨fun _ => ⟨fun _ => ⟨fun _ => ⟨fun z => absurd rfl z, fun _ => h⟩, fun e => absurd e (by decide)⟩, fun e => absurd e (by decide)⟩, fun e => absurd e (by decide)⟩
  · exact ⟨fun _ => ⟨fun _ => ⟨fun _ => ⟨fun _ => ⟨fun z => absurd rfl z, fun _ => h⟩, fun e => absurd e (by decide)⟩, fun e => absurd e (by decide)⟩, fun e => absurd e (by decide)⟩, fun e => absurd e (by decide)⟩
  · exact ⟨fun _ => ⟨fun _ => ⟨fun _ => ⟨fun _ => ⟨fun _ => ⟨fun z => absurd rfl z, fun _ => h⟩, fun e => absurd e (by decide)⟩, fun e => absurd e (by decide)⟩, fun e => absurd e (by decide)⟩, fun e => absurd e (by decide)⟩, fun e => absurd e (by decide)⟩
  · exact ⟨fun _ => ⟨fun _ => ⟨fun _ => ⟨fun _ => ⟨fun _ => ⟨fun _ => h, fun e => absurd e (by decide)⟩, fun e => absurd e (by decide)⟩, fun e => absurd e (by decide)⟩, fun e => absurd e (by decide)⟩, fun e => absurd e (by decide)⟩, fun e => absurd e (by decide)⟩
theorem k_amountOf {t : Nat → St} {x : St} (hr : Rel t x) {i : Nat} (hi : i < 7) {Post : Int32 → Prop} (h : Post (cnF x i)) : wpX11_amountOf (nI i) t Post := by
  obtain ⟨n, w, u, e1, e2, e3, hc, g⟩ := hr.1.got
  obtain ⟨b, hb, r1, r2, hk⟩ := hr.2.2.1
  obtain ⟨q0, q1, q2, q3, -, -⟩ := g.nums
  rcases (show i = 0 ∨ i = 1 ∨ i = 2 ∨ i = 3 ∨ i = 4 ∨ i = 5 ∨ i = 6 by omega) with rfl | rfl | rfl | rfl | rfl | rfl | rfl
  · have h : Post (x.I 0) := h
    exact ⟨fun _ => by rw [g.2.2.1, ← e1]; exact h, fun e => absurd e (by decide), fun e => absurd e (by decide), fun e => absurd e (by decide), fun e => absurd e (by decide), fun e => absurd e (by decide), fun e => absurd rfl e⟩
  · have h : Post (x.A 4 125) := h
    exact ⟨fun e => absurd e (by decide), fun _ => k_top (by rw [q0, ← q2]; exact h), fun e => absurd e (by decide), fun e => absurd e (by decide), fun e => absurd e (by decide), fun e => absurd e (by decide), fun _ e => absurd rfl e⟩
  · have h : Post (x.A 4 124) := h
    exact ⟨fun e => absurd e (by decide), fun e => absurd e (by decide), fun _ => k_noteCount (by rw [q1, ← q3]; exact h), fun e => absurd e (by decide), fun e => absurd e (by decide), fun e => absurd e (by decide), fun _ _ e => absurd rfl e⟩
  · have h : Post (x.I 3) := h
    exact ⟨fun e => absurd e (by decide), fun e => absurd e (by decide), fun e => absurd e (by decide), fun _ => by rw [g.2.2.2.2.1, ← e2]; exact h, fun e => absurd e (by decide), fun e => absurd e (by decide), fun _ _ _ e => absurd rfl e⟩
  · have h : Post (x.I 1) := h
    exact ⟨fun e => absurd e (by decide), fun e => absurd e (by decide), fun e => absurd e (by decide), fun e => absurd e (by decide), fun _ => by rw [hc]; exact h, fun e => absurd e (by decide), fun _ _ _ _ e => absurd rfl e⟩
  · have h : Post (x.I 6) := h
    exact ⟨fun e => absurd e (by decide), fun e => absurd e (by decide), fun e => absurd e (by decide), fun e => absurd e (by decide), fun e => absurd e (by decide), fun _ => by rw [g.2.2.2.2.2.2.1, ← e3]; exact h, fun _ _ _ _ _ e => absurd rfl e⟩
  · have h : Post (x.I 11) := h
    exact ⟨fun e => absurd e (by decide), fun e => absurd e (by decide), fun e => absurd e (by decide), fun e => absurd e (by decide), fun e => absurd e (by decide), fun e => absurd e (by decide), fun _ _ _ _ _ _ => by rw [r1, ← r2]; exact h⟩
/-! the sheets, the notes, the words -/
def shF (st : Nat → Int32) (i : Nat) : Int32 := if i % 14 = 0 then st (i / 14) else if i % 14 = 1 then st (6 + i / 14) else st (12 + 12 * (i / 14) + (i % 14 - 2))
def dgV (x : St) (st wo : Nat → Int32) (n m w : Nat) : Int64 := dg wo (dg (fun i => st (84 + i)) (dg (shF st) (dg (cnF x) 919 7) (14 * n)) (4 * m)) w
theorem k_digestL {t : Nat → St} {x : St} (hr : Rel t x) {Post : Int64 → Prop} {KX : Int64 → Prop} (h : KX (dg (cnF x) 919 7)) : ∃ n, wLX11_digest_6 t Post KX n (919, 0) := by
  refine for_rule (F := fun self z => wlX11_digest_6 t Post KX self z.1 z.2) 7 (fun i => (dg (cnF x) 919 i, nI i)) ?_ ?_
  · intro self i hi hself
    dsimp only at hself ⊢
    unfold wlX11_digest_6
    refine ⟨fun z => absurd z (nI_nlt (a := 6) (by omega) (by omega)), fun _ => k_amountOf hr hi (fun y ey z ez => ?_)⟩
    subst ey; subst ez
    rw [nI_1]; exact hself
  · intro self
    dsimp only
    unfold wlX11_digest_6
    exact ⟨fun _ => h, fun z => absurd (nI_lt (a := 6) (b := 7) (by decide) (by decide)) z⟩
theorem k_digSh {p : St} {st : Nat → Int32} {v : Int64} {n : Nat} (hn : n ≤ 6) (hR : RP (p.A 0) p st) {Post : Int64 → Prop} {KX : Int64 → Prop} (h : KX (dg (shF st) v (14 * n))) : ∃ k, wLX4_digestFrom_15 p Post KX k (v, nI (2 + 14 * n), 2) := by
  refine for_rule (F := fun self z => wlX4_digestFrom_15 p Post KX self z.1 z.2.1 z.2.2) (14 * n) (fun i => (dg (shF st) v i, nI (2 + 14 * n), nI (2 + i))) ?_ ?_
  · intro self i hi hself
    dsimp only at hself ⊢
    unfold wlX4_digestFrom_15
    refine ⟨fun z => absurd z (nI_ge (by omega) (by omega)), fun _ => ⟨fun z => absurd z (nI_ge (b := 86) (by omega) (by omega)), fun _ => ⟨vp_in_nI (by omega) (by omega), fun y ey z ez => ?_⟩⟩⟩
    rw [ncl (by omega)] at ey
    have e : p.A 0 (2 + i) = shF st i := by
      obtain ⟨a1, a2, a3⟩ := hR.2.2.1 (i / 14) (by omega)
      unfold shF
      by_cases h0 : i % 14 = 0
      · rw [if_pos h0, ← a1]; congr 1; omega
      · rw [if_neg h0]
        by_cases h1 : i % 14 = 1
        · rw [if_pos h1, ← a2]; congr 1; omega
        · rw [if_neg h1, ← a3 _ (by omega)]; congr 1; omega
    rw [e, ← dg_s] at ey
    subst ey; subst ez
    rw [nI_1]; exact hself
  · intro self
    dsimp only
    unfold wlX4_digestFrom_15
    exact ⟨fun _ => h, fun z => absurd (nI_le (Nat.le_refl _) (by omega)) z⟩
theorem k_digNo {p : St} {st : Nat → Int32} {v : Int64} {m : Nat} (em : p.A 0 1 = nI m) (hm : m ≤ 10) (hN : ∀ k, k < m → p.A 5 k = st (84 + 4 * k) ∧ p.A 6 k = st (85 + 4 * k) ∧ p.A 7 k = st (86 + 4 * k) ∧ p.A 8 k = st (87 + 4 * k)) {Post : Int64 → Prop} {KX : Int64 → Prop} (h : KX (dg (fun i => st (84 + i)) v (4 * m))) : ∃ k, wLX4_digestFrom_53 p Post KX k (v, 0) := by
  refine for_rule (F := fun self z => wlX4_digestFrom_53 p Post KX self z.1 z.2) m (fun i => (dg (fun i => st (84 + i)) v (4 * i), nI i)) ?_ ?_
  · intro self i hi hself
    dsimp only at hself ⊢
    unfold wlX4_digestFrom_53
    rw [em, ncl (by omega)]
    obtain ⟨a1, a2, a3, a4⟩ := hN i hi
    have e4 : dg (fun i => st (84 + i)) v (4 * (i + 1)) = 31 * (31 * (31 * (31 * dg (fun i => st (84 + i)) v (4 * i) + (st (84 + 4 * i)).toInt64) + (st (85 + 4 * i)).toInt64) + (st (86 + 4 * i)).toInt64) + (st (87 + 4 * i)).toInt64 := by
      rw [show 4 * (i + 1) = 4 * i + 1 + 1 + 1 + 1 by omega, dg_s, dg_s, dg_s, dg_s, show 84 + (4 * i + 1 + 1 + 1) = 87 + 4 * i by omega, show 84 + (4 * i + 1 + 1) = 86 + 4 * i by omega, show 84 + (4 * i + 1) = 85 + 4 * i by omega]
    refine ⟨fun z => absurd z (nI_ge (by omega) (by omega)), fun _ => ⟨vp_in_nI (by omega) (by omega), fun y1 ey1 => ⟨vp_in_nI (by omega) (by omega), fun y2 ey2 => ⟨vp_in_nI (by omega) (by omega), fun y3 ey3 => ⟨vp_in_nI (by omega) (by omega), fun y4 ey4 z ez => ?_⟩⟩⟩⟩⟩
    subst ez
    rw [nI_1]
    have : y4 = dg (fun i => st (84 + i)) v (4 * (i + 1)) := by rw [e4, ey4, ey3, ey2, ey1, a1, a2, a3, a4]
    rw [this]; exact hself
  · intro self
    dsimp only
    unfold wlX4_digestFrom_53
    rw [em]
    exact ⟨fun _ => h, fun z => absurd (nI_le (Nat.le_refl _) (by omega)) z⟩
theorem k_digWo {p : St} {wo : Nat → Int32} {v : Int64} {w : Nat} (ew : p.I 11 = nI w) (hw : w ≤ 8) (hN : ∀ k, k < w → p.A 10 k = wo k) {Post : Int64 → Prop} {KX : Int64 → Prop} (h : KX (dg wo v w)) : ∃ k, wLX4_digestFrom_133 p Post KX k (v, 0) := by
  refine for_rule (F := fun self z => wlX4_digestFrom_133 p Post KX self z.1 z.2) w (fun i => (dg wo v i, nI i)) ?_ ?_
  · intro self i hi hself
    dsimp only at hself ⊢
    unfold wlX4_digestFrom_133
    rw [ew, ncl (by omega), hN i hi]
    refine ⟨fun z => absurd z (nI_ge (by omega) (by omega)), fun _ => ⟨vp_in_nI (by omega) (by omega), fun y1 ey1 z ez => ?_⟩⟩
    subst ez; subst ey1
    rw [nI_1]; exact hself
  · intro self
    dsimp only
    unfold wlX4_digestFrom_133
    rw [ew]
    exact ⟨fun _ => h, fun z => absurd (nI_le (Nat.le_refl _) (by omega)) z⟩
/-! the model's -/
theorem m_digestL {x : St} {Post : Int64 → St → Prop} {KX : St → Prop} (h : KX (x.sL 29 (dg (cnF x) 919 7))) : ∃ n, wLX12_digest_9 Post KX n (0, x.sL 29 919) := by
  refine for_rule (F := fun self z => wlX12_digest_9 Post KX self z.1 z.2) 7 (fun i => (nI i, x.sL 29 (dg (cnF x) 919 i))) ?_ ?_
  · intro self i hi hself
    dsimp only at hself ⊢
    unfold wlX12_digest_9
    refine ⟨fun z => absurd z (nI_ge (b := 7) hi (by omega)), fun _ => m_countOf hi (m_mix (fun z ez => ?_))⟩
    subst ez
    rw [nI_1]; exact hself
  · intro self
    dsimp only
    unfold wlX12_digest_9
    exact ⟨fun _ => h, fun z => absurd (nI_le (a := 7) (b := 7) (by decide) (by decide)) z⟩
theorem m_digIn {x : St} {v : Int64} {s : Nat} (hs : s < 6) {Post : Int64 → St → Prop} {KX : Int32 → St → Prop} (h : KX (nI s) (x.sL 29 (dg (fun c => x.A 4 (12 + 12 * s + c)) v 12))) : ∃ n, wLX12_digest_70 Post KX n (nI s, 0, x.sL 29 v) := by
  refine for_rule (F := fun self z => wlX12_digest_70 Post KX self z.1 z.2.1 z.2.2) 12 (fun i => (nI s, nI i, x.sL 29 (dg (fun c => x.A 4 (12 + 12 * s + c)) v i))) ?_ ?_
  · intro self i hi hself
    dsimp only at hself ⊢
    unfold wlX12_digest_70
    refine ⟨fun z => absurd z (nI_ge (b := 12) hi (by omega)), fun _ => m_dentOf hs hi (m_mix (fun z ez => ?_))⟩
    subst ez
    rw [nI_1]; exact hself
  · intro self
    dsimp only
    unfold wlX12_digest_70
    exact ⟨fun _ => h, fun z => absurd (nI_le (a := 12) (b := 12) (by decide) (by decide)) z⟩
theorem dg_join (f g : Nat → Int32) (v : Int64) (a : Nat) : ∀ b, (∀ i, i < b → f (a + i) = g i) → dg f v (a + b) = dg g (dg f v a) b
  | 0, _ => rfl
  | b + 1, h => by
    rw [show a + (b + 1) = a + b + 1 by omega, dg_s, dg_s, dg_join f g v a b (fun i hi => h i (by omega)), h b (by omega)]
theorem m_digSh {x : St} {v : Int64} {n : Nat} (hn : n ≤ 6) (eI : x.I 0 = nI n) {Post : Int64 → St → Prop} {KX : St → Prop} (h : KX (x.sL 29 (dg (shF (x.A 4)) v (14 * n)))) : ∃ k, wLX12_digest_33 Post KX k (0, x.sL 29 v) := by
  refine for_rule (F := fun self z => wlX12_digest_33 Post KX self z.1 z.2) n (fun i => (nI i, x.sL 29 (dg (shF (x.A 4)) v (14 * i)))) ?_ ?_
  · intro self i hi hself
    dsimp only at hself ⊢
    unfold wlX12_digest_33
    have eI' : (x.sL 29 (dg (shF (x.A 4)) v (14 * i))).I 0 = nI n := eI
    have e0 : (0 : Int32) + nI i = nI i := by
      show nI 0 + nI i = _
      rw [nI_add, Nat.zero_add]
    have e6 : (6 : Int32) + nI i = nI (6 + i) := nI_add 6 i
    rw [eI', e0, e6, ncl (by omega), ncl (by omega)]
    refine ⟨fun z => absurd z (nI_ge (by omega) (by omega)), fun _ => ⟨vp_in_nI (by omega) (by omega), m_mix ⟨vp_in_nI (by omega) (by omega), m_mix (m_digIn (by omega) (fun z ez => ?_))⟩⟩⟩
    subst ez
    rw [nI_1]
    have s0 : shF (x.A 4) (14 * i) = x.A 4 i := by
      unfold shF
      rw [if_pos (by omega), show 14 * i / 14 = i by omega]
    have s1 : shF (x.A 4) (14 * i + 1) = x.A 4 (6 + i) := by
      unfold shF
      rw [if_neg (by omega), if_pos (by omega), show (14 * i + 1) / 14 = i by omega]
    have s2 : ∀ c, c < 12 → shF (x.A 4) (14 * i + 2 + c) = (fun c => x.A 4 (12 + 12 * i + c)) c := fun c hc => by
      unfold shF
      rw [if_neg (by omega), if_neg (by omega), show (14 * i + 2 + c) / 14 = i by omega, show (14 * i + 2 + c) % 14 - 2 = c by omega]
    have e14 : dg (shF (x.A 4)) v (14 * (i + 1)) = dg (fun c => x.A 4 (12 + 12 * i + c)) (31 * (31 * dg (shF (x.A 4)) v (14 * i) + (x.A 4 i).toInt64) + (x.A 4 (6 + i)).toInt64) 12 := by
      rw [show 14 * (i + 1) = (14 * i + 2) + 12 by omega, dg_join _ _ v (14 * i + 2) 12 s2, show 14 * i + 2 = 14 * i + 1 + 1 by omega, dg_s _ v (14 * i + 1), dg_s _ v (14 * i), s0, s1]
    rw [e14] at hself
    exact hself
  · intro self
    dsimp only
    unfold wlX12_digest_33
    have eI' : (x.sL 29 (dg (shF (x.A 4)) v (14 * n))).I 0 = nI n := eI
    rw [eI']
    exact ⟨fun _ => h, fun z => absurd (nI_le (Nat.le_refl _) (by omega)) z⟩
theorem m_digNo {x : St} {v : Int64} {m : Nat} (hm : m ≤ 10) (em : x.A 4 124 = nI m) {Post : Int64 → St → Prop} {KX : St → Prop} (h : KX (x.sL 29 (dg (fun i => x.A 4 (84 + i)) v (4 * m)))) : ∃ k, wLX12_digest_101 Post KX k (0, x.sL 29 v) := by
  refine for_rule (F := fun self z => wlX12_digest_101 Post KX self z.1 z.2) (4 * m) (fun i => (nI i, x.sL 29 (dg (fun i => x.A 4 (84 + i)) v i))) ?_ ?_
  · intro self i hi hself
    dsimp only at hself ⊢
    unfold wlX12_digest_101
    have em' : (4 : Int32) * ((x.sL 29 (dg (fun i => x.A 4 (84 + i)) v i)).A 4 124) = nI (4 * m) := by
      show nI 4 * x.A 4 124 = _
      rw [em, pk_mul]
    have e84 : (84 : Int32) + nI i = nI (84 + i) := nI_add 84 i
    rw [em', e84, ncl (by omega)]
    refine ⟨fun z => absurd z (nI_ge (by omega) (by omega)), fun _ => ⟨vp_in_nI (by omega) (by omega), m_mix (fun z ez => ?_)⟩⟩
    subst ez
    rw [nI_1]; exact hself
  · intro self
    dsimp only
    unfold wlX12_digest_101
    have em' : (4 : Int32) * ((x.sL 29 (dg (fun i => x.A 4 (84 + i)) v (4 * m))).A 4 124) = nI (4 * m) := by
      show nI 4 * x.A 4 124 = _
      rw [em, pk_mul]
    rw [em']
    exact ⟨fun _ => h, fun z => absurd (nI_le (Nat.le_refl _) (by omega)) z⟩
theorem m_digWo {x : St} {v : Int64} {w : Nat} (hw : w ≤ 8) (ew : x.I 3 = nI w) {Post : Int64 → St → Prop} {KX : St → Prop} (h : KX (x.sL 29 (dg (x.A 2) v w))) : ∃ k, wLX12_digest_136 Post KX k (0, x.sL 29 v) := by
  refine for_rule (F := fun self z => wlX12_digest_136 Post KX self z.1 z.2) w (fun i => (nI i, x.sL 29 (dg (x.A 2) v i))) ?_ ?_
  · intro self i hi hself
    dsimp only at hself ⊢
    unfold wlX12_digest_136
    have ew' : (x.sL 29 (dg (x.A 2) v i)).I 3 = nI w := ew
    rw [ew', ncl (by omega)]
    refine ⟨fun z => absurd z (nI_ge (by omega) (by omega)), fun _ => ⟨vp_in_nI (by omega) (by omega), m_mix (fun z ez => ?_)⟩⟩
    subst ez
    rw [nI_1]; exact hself
  · intro self
    dsimp only
    unfold wlX12_digest_136
    have ew' : (x.sL 29 (dg (x.A 2) v w)).I 3 = nI w := ew
    rw [ew']
    exact ⟨fun _ => h, fun z => absurd (nI_le (Nat.le_refl _) (by omega)) z⟩
theorem s_digest {t : Nat → St} {x : St} (h : Rel t x) : SimL (fun P => wpX11_digest t (fun r => P r t)) (wpX12_digest x) := by
  obtain ⟨n, w, u, e1, e2, e3, hc, g⟩ := h.1.got
  obtain ⟨q0, q1, q2, q3, q4, q5⟩ := g.nums
  have hcur := g.cur
  have hO := h.2.1
  unfold SimL wpX11_digest wpX4_digestFrom
  dsimp only
  refine k_digestL h ?_
  rw [g.2.2.1]
  refine k_place (c := 0) ?_
  rw [Nat.add_zero]
  refine k_digSh g.2.1 hcur.1 ?_
  refine k_digNo (st := x.A 4) q1 q5 (fun k hk => ?_) ?_
  · obtain ⟨a1, a2, a3, a4, -⟩ := hcur.1.2.2.2 k hk
    exact ⟨a1, a2, a3, a4⟩
  refine k_digWo (wo := x.A 2) g.2.2.2.2.1 g.2.2.2.1 (fun k hk => (g.2.2.2.2.2.2.2.1 k hk).1) ?_
  intro y ey
  intro p1 ep1
  subst ep1
  refine m_digestL (m_digSh g.2.1 e1 (m_digNo q5 q3 (m_digWo g.2.2.2.1 e2 (m_mix (m_mix ?_)))))
  refine ⟨?_, h⟩
  subst ey
  rw [hO.1, hO.2.1]
  rfl
