/-! the model's rows -/
def RowR (y x : St) (g : Nat → Nat) (n : Nat) : Prop := (∀ k, y.I k = x.I k) ∧ (∀ k, y.L k = x.L k) ∧ (∀ k, k ≠ 23 → y.A k = x.A k) ∧ ∀ k, k < n → y.A 23 k = nI (g k)
theorem m_exchange {y x : St} {g : Nat → Nat} {n i j : Nat} (hn : n ≤ 6) (hi : i < n) (hj : j < n) (h : RowR y x g n) {Post : St → Prop} (hp : ∀ z, RowR z x (swp g i j) n → Post z) : wpX12_exchange (nI i) (nI j) y Post := by
  obtain ⟨h1, h2, h3, h4⟩ := h
  unfold wpX12_exchange
  rw [ncl (by omega), ncl (by omega)]
  refine ⟨vp_in_nI (by omega) (by omega), fun v ev => ⟨vp_in_nI (by omega) (by omega), vp_in_nI (by omega) (by omega), fun p2 e2 => ⟨vp_in_nI (by omega) (by omega), fun p3 e3 => ?_⟩⟩⟩
  refine hp p3 ⟨fun k => by rw [e3, e2]; exact h1 k, fun k => by rw [e3, e2]; exact h2 k, fun k hk => by rw [e3, e2, sA_A, if_neg hk, sA_A, if_neg hk]; exact h3 k hk, fun k hk => ?_⟩
  have e23 : p3.A 23 = upd (upd (y.A 23) i (y.A 23 j)) j v := by rw [e3, e2]; rfl
  rw [e23, ev]
  unfold swp
  by_cases hkj : k = j
  · rw [if_pos hkj, hkj, upd_at, h4 i hi]
  · rw [if_neg hkj, upd_ne hkj]
    by_cases hki : k = i
    · rw [if_pos hki, hki, upd_at, h4 j hj]
    · rw [if_neg hki, upd_ne hki, h4 k hk]
theorem m_rev {x : St} {n : Nat} (hn : n ≤ 6) {Post : Int32 → St → Prop} {KX : St → Prop} : ∀ (f lo hi : Nat) (g : Nat → Nat) (y : St), hi < n → hi ≤ lo + f → RowR y x g n → (∀ z, RowR z x (rvF f lo hi g) n → KX z) → lo ≤ 6 → ∃ k, wLX12_nextRow_86 Post KX k (nI hi, nI lo, y) := by
  intro f
  induction f with
  | zero =>
    intro lo hi g y hhi hf hr hp hlo
    refine ⟨1, ?_⟩
    show wlX12_nextRow_86 Post KX _ (nI hi) (nI lo) y
    unfold wlX12_nextRow_86
    exact ⟨fun _ => hp y hr, fun q => absurd (nI_le (by omega) (by omega)) q⟩
  | succ f ih =>
    intro lo hi g y hhi hf hr hp hlo
    by_cases hle : hi ≤ lo
    · refine ⟨1, ?_⟩
      show wlX12_nextRow_86 Post KX _ (nI hi) (nI lo) y
      unfold wlX12_nextRow_86
      have : rvF (f + 1) lo hi g = g := by
        show (if hi ≤ lo then g else _) = g
        rw [if_pos hle]
      rw [this] at hp
      exact ⟨fun _ => hp y hr, fun q => absurd (nI_le hle (by omega)) q⟩
    · have hrv : rvF (f + 1) lo hi g = rvF f (lo + 1) (hi - 1) (swp g lo hi) := by
        show (if hi ≤ lo then g else _) = _
        rw [if_neg hle]
      rw [hrv] at hp
      have key : ∀ z : St, RowR z x (swp g lo hi) n → ∃ k, wLX12_nextRow_86 Post KX k (nI (hi - 1), nI (lo + 1), z) := fun z hz => ih (lo + 1) (hi - 1) (swp g lo hi) z (by omega) (by omega) hz hp (by omega)
      have key2 : ∃ k, wpX12_exchange (nI lo) (nI hi) y (fun z => wLX12_nextRow_86 Post KX k (nI (hi - 1), nI (lo + 1), z)) := by
        have hx := m_exchange (Post := fun z => RowR z x (swp g lo hi) n ∧ ∃ k, wLX12_nextRow_86 Post KX k (nI (hi - 1), nI (lo + 1), z)) hn (show lo < n by omega) hhi hr (fun z hz => ⟨hz, key z hz⟩)
        obtain ⟨a1, a2⟩ := hx
        obtain ⟨a3, a4, a5⟩ := a2 _ rfl
        obtain ⟨a6, a7⟩ := a5 _ rfl
        obtain ⟨-, k, hk⟩ := a7 _ rfl
        exact ⟨k, a1, fun v ev => ⟨a3, a4, fun p2 e2 => ⟨a6, fun p3 e3 => by rw [e3, e2, ev]; exact hk⟩⟩⟩
      obtain ⟨k, hk⟩ := key2
      refine ⟨k + 1, ?_⟩
      show wlX12_nextRow_86 Post KX _ (nI hi) (nI lo) y
      unfold wlX12_nextRow_86
      refine ⟨fun q => absurd q (nI_ge (by omega) (by omega)), fun _ => ?_⟩
      have e1 : nI hi + (-1) = nI (hi - 1) := by
        obtain ⟨j, rfl⟩ : ∃ j, hi = j + 1 := ⟨hi - 1, by omega⟩
        exact pk_m1 j
      have e2 : nI lo + 1 = nI (lo + 1) := nI_1 lo
      obtain ⟨b1, b2⟩ := hk
      refine ⟨b1, fun v ev => ?_⟩
      obtain ⟨b3, b4, b5⟩ := b2 v ev
      refine ⟨b3, b4, fun p2 ep2 => ?_⟩
      obtain ⟨b6, b7⟩ := b5 p2 ep2
      refine ⟨b6, fun p3 ep3 z1 ez1 z2 ez2 => ?_⟩
      rw [ez1, ez2, e1, e2]
      exact b7 p3 ep3
theorem fI_le (g : Nat → Nat) : ∀ i, fI g i ≤ i
  | 0 => Nat.le_refl _
  | i + 1 => by
    show (if g i ≤ g (i + 1) then i + 1 else fI g i) ≤ _
    have := fI_le g i
    split <;> omega
theorem fI_at (g : Nat → Nat) : ∀ i, fI g i ≠ 0 → g (fI g i - 1) ≤ g (fI g i)
  | 0, h => absurd rfl h
  | i + 1, h => by
    have e : fI g (i + 1) = if g i ≤ g (i + 1) then i + 1 else fI g i := rfl
    rw [e] at h ⊢
    by_cases hg : g i ≤ g (i + 1)
    · rw [if_pos hg]; exact hg
    · rw [if_neg hg] at h ⊢; exact fI_at g i h
theorem m_findI {y x : St} {g : Nat → Nat} {n : Nat} (hn : n ≤ 6) (hg : ∀ k, k < n → g k < 6) (h : RowR y x g n) {Post : Int32 → St → Prop} {KX : Int32 → St → Prop} : ∀ i, i < n → (KX (nI (fI g i) - 1) y) → ∃ k, wLX12_nextRow_7 Post KX k (nI i - 1, y) := by
  intro i
  induction i with
  | zero =>
    intro hi hp
    refine ⟨1, ?_⟩
    show wlX12_nextRow_7 Post KX _ (nI 0 - 1) y
    exact ⟨fun _ => hp, fun q => absurd (by decide) q⟩
  | succ i ih =>
    intro hi hp
    have e : fI g (i + 1) = if g i ≤ g (i + 1) then i + 1 else fI g i := rfl
    have e0 : nI (i + 1) - 1 = nI i := nI_pred i
    rw [e0]
    by_cases hle : g i ≤ g (i + 1)
    · rw [e, if_pos hle, e0] at hp
      refine ⟨1, ?_⟩
      show wlX12_nextRow_7 Post KX _ (nI i) y
      unfold wlX12_nextRow_7
      rw [nI_1, ncl (by omega), ncl (by omega), h.2.2.2 i (by omega), h.2.2.2 (i + 1) hi]
      exact ⟨fun q => absurd q (nI_pos (by omega)), fun _ => ⟨vp_in_nI (by omega) (by omega), vp_in_nI (by omega) (by omega), fun _ => hp, fun q => absurd (nI_le hle (by have := hg (i + 1) hi; omega)) q⟩⟩
    · rw [e, if_neg hle] at hp
      obtain ⟨k, hk⟩ := ih (by omega) hp
      refine ⟨k + 1, ?_⟩
      show wlX12_nextRow_7 Post KX _ (nI i) y
      unfold wlX12_nextRow_7
      rw [nI_1, ncl (by omega), ncl (by omega), h.2.2.2 i (by omega), h.2.2.2 (i + 1) hi]
      refine ⟨fun q => absurd q (nI_pos (by omega)), fun _ => ⟨vp_in_nI (by omega) (by omega), vp_in_nI (by omega) (by omega), fun q => absurd q (nI_ge (by omega) (by have := hg i (by omega); omega)), fun _ z ez => ?_⟩⟩
      rw [ez, show nI i + (-1) = nI i - 1 by rw [Int32.sub_eq_add_neg]]
      exact hk
theorem m_findJ {y x : St} {g : Nat → Nat} {n i : Nat} (hn : n ≤ 6) (hg : ∀ k, k < n → g k < 6) (hi : i + 1 < n) (hle : g i ≤ g (i + 1)) (h : RowR y x g n) {Post : Int32 → St → Prop} {KX : Int32 → Int32 → St → Prop} : ∀ j, j < n → i + 1 ≤ j → (KX (nI i) (nI (fJ g i j)) y) → ∃ k, wLX12_nextRow_47 Post KX k (nI i, nI j, y) := by
  intro j
  induction j with
  | zero => intro hj h1; omega
  | succ j ih =>
    intro hj h1 hp
    have e : fJ g i (j + 1) = if g i ≤ g (j + 1) then j + 1 else fJ g i j := rfl
    by_cases hl : g i ≤ g (j + 1)
    · rw [e, if_pos hl] at hp
      refine ⟨1, ?_⟩
      show wlX12_nextRow_47 Post KX _ (nI i) (nI (j + 1)) y
      unfold wlX12_nextRow_47
      rw [ncl (by omega), ncl (by omega), h.2.2.2 i (by omega), h.2.2.2 (j + 1) hj]
      exact ⟨vp_in_nI (by omega) (by omega), vp_in_nI (by omega) (by omega), fun _ => hp, fun q => absurd (nI_le hl (by have := hg (j + 1) hj; omega)) q⟩
    · rw [e, if_neg hl] at hp
      have hij : i ≠ j := fun w => hl (by rw [← w]; exact hle)
      obtain ⟨k, hk⟩ := ih (by omega) (by omega) hp
      refine ⟨k + 1, ?_⟩
      show wlX12_nextRow_47 Post KX _ (nI i) (nI (j + 1)) y
      unfold wlX12_nextRow_47
      rw [ncl (by omega), ncl (by omega), h.2.2.2 i (by omega), h.2.2.2 (j + 1) hj]
      refine ⟨vp_in_nI (by omega) (by omega), vp_in_nI (by omega) (by omega), fun q => absurd q (nI_ge (by omega) (by have := hg i (by omega); omega)), fun _ z ez => ?_⟩
      rw [ez, pk_m1]
      exact hk
theorem fJ_le (g : Nat → Nat) (i : Nat) : ∀ j, fJ g i j ≤ j
  | 0 => Nat.le_refl _
  | j + 1 => by
    show (if g i ≤ g (j + 1) then j + 1 else fJ g i j) ≤ _
    have := fJ_le g i j
    split <;> omega
theorem m_nextRow {y x : St} {g : Nat → Nat} {n : Nat} (h1 : 1 ≤ n) (hn : n ≤ 6) (hg : ∀ k, k < n → g k < 6) (eI : x.I 0 = nI n) (h : RowR y x g n) {Post : Int32 → St → Prop} (h0 : fI g (n - 1) = 0 → Post 0 y) (hs : fI g (n - 1) ≠ 0 → ∀ z, RowR z x (nxF n g) n → Post 1 z) : wpX12_nextRow y Post := by
  intro v ev
  have eIy : y.I 0 = nI n := (h.1 0).trans eI
  have e2 : nI n - 2 = nI (n - 1) - 1 := by
    obtain ⟨m, rfl⟩ : ∃ m, n = m + 1 := ⟨n - 1, by omega⟩
    rw [show m + 1 - 1 = m by omega, ← nI_pred m, Int32.sub_sub]; rfl
  rw [eIy, e2] at ev
  subst ev
  refine m_findI hn hg h (n - 1) (by omega) ?_
  have hfle := fI_le g (n - 1)
  unfold wjX12_nextRow_34
  rcases Nat.eq_zero_or_pos (fI g (n - 1)) with hz | hz
  · rw [hz]
    exact ⟨fun q => absurd q (by decide), fun _ => h0 hz⟩
  · obtain ⟨i, ei⟩ : ∃ i, fI g (n - 1) = i + 1 := ⟨fI g (n - 1) - 1, by omega⟩
    have hat := fI_at g (n - 1) (by omega)
    have hns := hs (by omega)
    unfold nxF at hns
    rw [ei, show i + 1 - 1 = i by omega] at hat hns
    rw [ei, nI_pred]
    refine ⟨fun _ v ev => ?_, fun q => absurd (nI_pos' (by omega)) q⟩
    rw [eIy, show nI n - 1 = nI (n - 1) from pk_sub (b := 1) h1] at ev
    subst ev
    have hJ := fJ_le g i (n - 1)
    refine m_findJ hn hg (by omega) hat h (n - 1) (by omega) (by omega) ?_
    refine m_exchange hn (by omega) (by omega) h (fun z hz2 => ?_)
    intro v ev w ew
    rw [hz2.1, eI, show nI n - 1 = nI (n - 1) from pk_sub (b := 1) h1] at ev
    rw [nI_1] at ew
    subst ev; subst ew
    exact m_rev hn n (i + 1) (n - 1) _ z (by omega) (by omega) hz2 hns (by omega)
