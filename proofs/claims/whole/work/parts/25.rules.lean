/-! numbers of a call -/
theorem shl1 : ∀ n, n < 31 → (1 : Int32) <<< (nI n &&& 31) = nI (2 ^ n) := by decide +kernel
theorem subT {m : Nat} (hm : m < 2 ^ 31) : (nI m - 1).toInt = (m : Int) - 1 := by
  cases m with
  | zero => decide
  | succ k => rw [nI_pred, nI_toInt (by omega)]; omega
theorem wideT (x : Int32) : x.toInt64.toInt = x.toInt := Int32.toInt_toInt64 x
theorem p2 {n : Nat} (h : n ≤ 10) : 2 ^ n < 2 ^ 31 := Nat.pow_lt_pow_right (by decide) (by omega)
/-! the class's tests -/
theorem k_hasSheet {x : Int32} {p : St} {n : Nat} (e : p.I 3 = nI n) (hn : n ≤ 6) {Post : Int32 → Prop} (h1 : 0 ≤ x.toInt → x.toInt < n → Post 1) (h0 : (x.toInt < 0 ∨ (n : Int) ≤ x.toInt) → Post 0) : wpX4_hasSheet x p Post := by
  unfold wpX4_hasSheet
  rw [e]
  exact v_ge 0 n (by decide) (nI_toInt (by omega)) h0 h1
theorem m_isSheet {x : Int32} {y : St} {n : Nat} (e : y.I 0 = nI n) (hn : n ≤ 6) {Post : Int32 → Prop} (h1 : 0 ≤ x.toInt → x.toInt < n → Post 1) (h0 : (x.toInt < 0 ∨ (n : Int) ≤ x.toInt) → Post 0) : wpX12_isSheet x y Post := by
  unfold wpX12_isSheet
  rw [e]
  exact in_rule 0 ((n : Int) - 1) (by decide) (by rw [wideT, subT (by omega)]) (fun a b => ⟨vb1, h1 a (by omega)⟩) (fun a => ⟨vb0, h0 (by omega)⟩)
theorem k_hasNote {x : Int32} {p : St} {m : Nat} (e : p.A 0 1 = nI m) (hm : m ≤ 10) {Post : Int32 → Prop} (h1 : 0 ≤ x.toInt → x.toInt < m → Post 1) (h0 : (x.toInt < 0 ∨ (m : Int) ≤ x.toInt) → Post 0) : wpX4_hasNote x p Post := by
  unfold wpX4_hasNote
  rw [e]
  exact v_ge 0 m (by decide) (nI_toInt (by omega)) h0 h1
theorem m_isNote {x y : Int32} {m : Nat} (e : y = nI m) (hm : m ≤ 10) {Post : Int32 → Prop} (h1 : 0 ≤ x.toInt → x.toInt < m → Post 1) (h0 : (x.toInt < 0 ∨ (m : Int) ≤ x.toInt) → Post 0) : wpX12_in x.toInt64 0 (((y - 1)).toInt64) Post := by
  rw [e]
  exact in_rule 0 ((m : Int) - 1) (by decide) (by rw [wideT, subT (by omega)]) (fun a b => h1 a (by omega)) (fun a => h0 (by omega))
theorem k_hasNotes {x : Int32} {p : St} {m : Nat} (e : p.A 0 1 = nI m) (hm : m ≤ 10) {Post : Int32 → Prop} (h1 : 0 ≤ x.toInt → x.toInt < ((2 ^ m : Nat) : Int) → Post 1) (h0 : (x.toInt < 0 ∨ ((2 ^ m : Nat) : Int) ≤ x.toInt) → Post 0) : wpX4_hasNotes x p Post := by
  unfold wpX4_hasNotes
  rw [e, shl1 m (by omega)]
  exact v_ge 0 ((2 ^ m : Nat) : Int) (by decide) (nI_toInt (p2 hm)) h0 h1
theorem m_areNotes {x : Int32} {y : St} {m : Nat} (e : y.A 4 124 = nI m) (hm : m ≤ 10) {Post : Int32 → Prop} (h1 : 0 ≤ x.toInt → x.toInt < ((2 ^ m : Nat) : Int) → Post 1) (h0 : (x.toInt < 0 ∨ ((2 ^ m : Nat) : Int) ≤ x.toInt) → Post 0) : wpX12_areNotes x y Post := by
  unfold wpX12_areNotes
  rw [e, shl1 m (by omega)]
  exact in_rule 0 (((2 ^ m : Nat) : Int) - 1) (by decide) (by rw [wideT, subT (p2 hm)]) (fun a b => ⟨vb1, h1 a (by omega)⟩) (fun a => ⟨vb0, h0 (by omega)⟩)
theorem k_hasSheets {x : Int32} {p : St} {n : Nat} (e : p.I 3 = nI n) (hn : n ≤ 6) {Post : Int32 → Prop} (h1 : 0 ≤ x.toInt → x.toInt < ((2 ^ n : Nat) : Int) → Post 1) (h0 : (x.toInt < 0 ∨ ((2 ^ n : Nat) : Int) ≤ x.toInt) → Post 0) : wpX4_hasSheets x p Post := by
  unfold wpX4_hasSheets
  rw [e, shl1 n (by omega)]
  exact v_ge 0 ((2 ^ n : Nat) : Int) (by decide) (nI_toInt (p2 (by omega))) h0 h1
theorem m_inSheets {x y : Int32} {n : Nat} (e : y = nI n) (hn : n ≤ 6) {Post : Int32 → Prop} (h1 : 0 ≤ x.toInt → x.toInt < ((2 ^ n : Nat) : Int) → Post 1) (h0 : (x.toInt < 0 ∨ ((2 ^ n : Nat) : Int) ≤ x.toInt) → Post 0) : wpX12_in x.toInt64 0 (((((1 : Int32) <<< (y &&& 31)) - 1)).toInt64) Post := by
  rw [e, shl1 n (by omega)]
  exact in_rule 0 (((2 ^ n : Nat) : Int) - 1) (by decide) (by rw [wideT, subT (p2 (by omega))]) (fun a b => h1 a (by omega)) (fun a => h0 (by omega))
theorem k_isPen {x y : Int32} {Post : Int32 → Prop} (h1 : 0 ≤ x.toInt → x.toInt ≤ 5 → 1 ≤ y.toInt → y.toInt ≤ 9 → Post 1) (h0 : ¬ (0 ≤ x.toInt ∧ x.toInt ≤ 5 ∧ 1 ≤ y.toInt ∧ y.toInt ≤ 9) → Post 0) : wpX11_isPen x y Post := by
  refine v_ge 0 6 (by decide) (by decide) (fun a => h0 (by omega)) (fun a b => ?_)
  exact v_gt 1 9 (by decide) (by decide) (fun c => h0 (by omega)) (fun c d => h1 a (by omega) c d)
theorem m_isPen {x y : Int32} {Post : Int32 → Prop} (h1 : 0 ≤ x.toInt → x.toInt ≤ 5 → 1 ≤ y.toInt → y.toInt ≤ 9 → Post 1) (h0 : ¬ (0 ≤ x.toInt ∧ x.toInt ≤ 5 ∧ 1 ≤ y.toInt ∧ y.toInt ≤ 9) → Post 0) : wpX12_isPen x y Post := by
  refine in_rule 0 5 (by decide) (by decide) (fun a b => b1e ?_) (fun a => b0e (h0 (by omega)))
  exact in_rule 1 9 (by decide) (by decide) (fun c d => b1e (h1 a b c d)) (fun c => b0e (h0 (by omega)))
theorem k_isCells {x : Int32} {Post : Int32 → Prop} (h1 : 0 ≤ x.toInt → x.toInt ≤ 4095 → Post 1) (h0 : (x.toInt < 0 ∨ 4095 < x.toInt) → Post 0) : wpX11_isCells x Post :=
  v_ge 0 4096 (by decide) (by decide) (fun a => h0 (by omega)) (fun a b => h1 a (by omega))
theorem k_isDepth {x : Int32} {Post : Int32 → Prop} (h1 : 0 ≤ x.toInt → x.toInt ≤ 5 → Post 1) (h0 : (x.toInt < 0 ∨ 5 < x.toInt) → Post 0) : wpX11_isDepth x Post :=
  v_ge 0 6 (by decide) (by decide) (fun a => h0 (by omega)) (fun a b => h1 a (by omega))
/-! the force of a pen -/
theorem m_pencil {x y : Int32} {Post : Int32 → Prop} (h : Post (fo0 x y)) : wpX12_pencil x y Post := by
  intro z ez
  subst ez
  unfold fo0 at h
  refine ⟨fun a => ⟨fun b => ?_, fun b => ?_⟩, fun a => ?_⟩
  · rw [if_neg (by rw [fa_lt]; rw [fa_le] at a; omega), if_neg (by rw [fa_lt]; rw [fa_le] at b; omega)] at h
    exact h
  · rw [if_neg (by rw [fa_lt]; rw [fa_le] at a; omega), if_pos (by rw [fa_lt]; rw [fa_le] at b; omega)] at h
    exact h
  · rw [if_pos (by rw [fa_lt]; rw [fa_le] at a; omega)] at h
    exact h
theorem m_force {k : Nat} (hk : k < 6) {x y : Int32} {Post : Int32 → Prop} (h : Post (fo (nI k) x y)) : wpX12_forceOf (nI k) x y Post := by
  rcases (show k = 0 ∨ k = 1 ∨ k = 2 ∨ k = 3 ∨ k = 4 ∨ k = 5 by omega) with rfl | rfl | rfl | rfl | rfl | rfl
  · exact ⟨fun e => absurd rfl e, fun _ => m_pencil h⟩
  · exact ⟨fun _ => ⟨fun _ => m_pencil h, fun e => absurd rfl e⟩, fun e => absurd e (by decide)⟩
  · refine ⟨fun _ => ⟨fun e => absurd e (by decide), fun _ => ⟨fun _ => ⟨fun _ => ⟨fun _ => m_pencil h, fun e => absurd e (by decide)⟩, fun e => absurd e (by decide)⟩, fun e => absurd e (by decide)⟩⟩, fun e => absurd e (by decide)⟩
  · refine ⟨fun _ => ⟨fun e => absurd e (by decide), fun _ => ⟨fun e => absurd rfl e, fun _ => m_pencil h⟩⟩, fun e => absurd e (by decide)⟩
  · refine ⟨fun _ => ⟨fun e => absurd e (by decide), fun _ => ⟨fun _ => ⟨fun _ => ⟨fun e => absurd rfl e, fun _ => ?_⟩, fun e => absurd e (by decide)⟩, fun e => absurd e (by decide)⟩⟩, fun e => absurd e (by decide)⟩
    have h2 : Post (if 1 < y then 0 else fo0 x y / 2) := h
    refine ⟨fun a => m_pencil ?_, fun a => ?_⟩
    · rw [if_neg (by rw [fa_lt]; rw [fa_le] at a; omega)] at h2; exact h2
    · rw [if_pos (by rw [fa_lt]; rw [fa_le] at a; omega)] at h2; exact h2
  · refine ⟨fun _ => ⟨fun e => absurd e (by decide), fun _ => ⟨fun _ => ⟨fun e => absurd rfl e, fun _ => m_pencil h⟩, fun e => absurd e (by decide)⟩⟩, fun e => absurd e (by decide)⟩
theorem m_hasInk {k : Nat} (hk : k < 6) {Post : Int32 → Prop} (h : Post (hink (nI k))) : wpX12_hasInk (nI k) Post := by
  rcases (show k = 0 ∨ k = 1 ∨ k = 2 ∨ k = 3 ∨ k = 4 ∨ k = 5 by omega) with rfl | rfl | rfl | rfl | rfl | rfl
  · exact ⟨fun e => absurd e (by decide), fun _ => ⟨fun e => absurd e (by decide), fun _ => h⟩⟩
  · exact ⟨fun e => absurd e (by decide), fun _ => ⟨fun e => absurd e (by decide), fun _ => h⟩⟩
  · exact ⟨fun e => absurd e (by decide), fun _ => ⟨fun e => absurd e (by decide), fun _ => h⟩⟩
  · exact ⟨fun _ => h, fun e => absurd rfl e⟩
  · exact ⟨fun e => absurd e (by decide), fun _ => ⟨fun e => absurd e (by decide), fun _ => h⟩⟩
  · exact ⟨fun e => absurd e (by decide), fun _ => ⟨fun _ => h, fun e => absurd rfl e⟩⟩
/-! places in the rows -/
theorem k_place {s c : Nat} {Post : Int32 → Prop} (h : Post (nI (2 + 14 * s + c))) : wpX4_placeOf (nI s) (nI c) Post := by
  have e : (((2 : Int32) + (nI s * 14)) + nI c) = nI (2 + 14 * s + c) := by
    show ((nI 2 + nI s * nI 14) + nI c) = _
    rw [pk_mul, nI_add, nI_add]
    congr 1; omega
  unfold wpX4_placeOf
  rw [e]; exact h
theorem k_dentOf {s c : Nat} (hs : s < 6) (hc : c < 12) {p : St} {Post : Int32 → Prop} (h : Post (p.A 0 (4 + 14 * s + c))) : wpX4_dentOf (nI s) (nI c) p Post := by
  unfold wpX4_dentOf
  have e : ((2 : Int32) + nI c) = nI (2 + c) := by show nI 2 + nI c = _; rw [nI_add]
  rw [e]
  refine k_place ⟨vp_in_nI (by omega) (by omega), ?_⟩
  rw [ncl (by omega), show 2 + 14 * s + (2 + c) = 4 + 14 * s + c by omega]
  exact h
theorem k_inkOf {s : Nat} (hs : s < 6) {p : St} {Post : Int32 → Prop} (h : Post (p.A 0 (2 + 14 * s))) : wpX4_inkOf (nI s) p Post := by
  refine k_place (c := 0) ⟨vp_in_nI (by omega) (by omega), ?_⟩
  rw [ncl (by omega)]
  exact h
theorem k_copyOf {s : Nat} (hs : s < 6) {p : St} {Post : Int32 → Prop} (h : Post (p.A 0 (3 + 14 * s))) : wpX4_copyOf (nI s) p Post := by
  refine k_place (c := 1) ⟨vp_in_nI (by omega) (by omega), ?_⟩
  rw [ncl (by omega), show 2 + 14 * s + 1 = 3 + 14 * s by omega]
  exact h
theorem m_dentOf {s c : Nat} (hs : s < 6) (hc : c < 12) {x : St} {Post : Int32 → Prop} (h : Post (x.A 4 (12 + 12 * s + c))) : wpX12_dentOf (nI s) (nI c) x Post := by
  have e : (((12 : Int32) + ((12 : Int32) * nI s)) + nI c) = nI (12 + 12 * s + c) := by
    show ((nI 12 + nI 12 * nI s) + nI c) = _
    rw [pk_mul, nI_add, nI_add]
  unfold wpX12_dentOf
  rw [e, ncl (by omega)]
  exact ⟨vp_in_nI (by omega) (by omega), h⟩
