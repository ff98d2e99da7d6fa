theorem it_rule2 {α : Type} {F : (α → Prop) → α → Prop} (I : Nat → α → Prop) (h : ∀ (self : α → Prop) (m : Nat) (x : α), I m x → (∀ m' y, I m' y → m' < m → self y) → F self x) (m : Nat) (x : α) (hx : I m x) : ∃ n, itN F n x := by
  have key : ∀ (n m : Nat) (x : α), I m x → m < n → itN F n x := by
    intro n
    induction n with
    | zero => intro m x _ hm; exact absurd hm (Nat.not_lt_zero _)
    | succ n ih => intro m x hx hm; exact h (itN F n) m x hx (fun m' y hy hlt => ih m' y hy (by omega))
  exact ⟨m + 1, key _ m x hx (Nat.lt_succ_self _)⟩
theorem chk_1 {n : Nat} {a : List Nat} (h : chk n [a] = true) : fI (gL a) (n - 1) = 0 := by
  have h' : ((fI (gL a) (n - 1) == 0) && chk n []) = true := h
  rw [Bool.and_eq_true] at h'
  exact eq_of_beq h'.1
theorem chk_2 {n : Nat} {a b : List Nat} {r : List (List Nat)} (h : chk n (a :: b :: r) = true) : 0 < fI (gL a) (n - 1) ∧ (∀ k, k < n → nxF n (gL a) k = gL b k) ∧ chk n (b :: r) = true := by
  have h' : (((Nat.blt 0 (fI (gL a) (n - 1))) && eqN (nxF n (gL a)) (gL b) n) && chk n (b :: r)) = true := h
  rw [Bool.and_eq_true, Bool.and_eq_true] at h'
  exact ⟨Nat.le_of_ble_eq_true h'.1.1, eqN_iff _ _ n h'.1.2, h'.2⟩
theorem gL_lt {n : Nat} {L : List Nat} (h : GoodL n L) {k : Nat} (hk : k < n) : gL L k < n := by
  have hpl : k < L.length := by rw [h.1]; exact hk
  have hmem : L.getD k 0 ∈ L := by
    rw [List.getD_eq_getElem?_getD, List.getElem?_eq_getElem hpl]
    exact List.getElem_mem hpl
  exact h.2.2.1 _ hmem
theorem m_ordersL {x : St} {n Tot : Nat} (h1 : 1 ≤ n) (hn : n ≤ 6) (eI : x.I 0 = nI n) (hW : WF (x.A 4) n) (hTot : Tot ≤ 720) {a1 : Int32} {Post : Int32 → St → Prop} {KX : Int32 → Int32 → St → Prop} (hfin : ∀ y : St, (∀ k, y.I k = x.I k) → (∀ k, y.L k = x.L k) → (∀ k, k ≠ 23 → k ≠ 24 → y.A k = x.A k) → Tot ≠ 0 → (∀ k, k < n → y.A 24 k = nI k) → KX a1 (nI Tot) y) (a : List Nat) (r : List (List Nat)) (y : St) (hck : chk n (a :: r) = true) (hgo : ∀ L, L ∈ a :: r → GoodL n L) (hc : (a :: r).countP (fun L => fitB2 (x.A 4) L n) = Tot) (ha : a = List.range n) (f1 : ∀ k, y.I k = x.I k) (f2 : ∀ k, y.L k = x.L k) (f3 : ∀ k, k ≠ 23 → k ≠ 24 → y.A k = x.A k) (f4 : ∀ k, k < n → y.A 23 k = nI (gL a k)) : ∃ k, wLX12_orders_37 Post KX k (a1, 0, 1, y) := by
  refine it_rule2 (F := fun self z => wlX12_orders_37 Post KX self z.1 z.2.1 z.2.2.1 z.2.2.2) (fun m z => ∃ (C : Nat) (w : St), (∀ k, w.I k = x.I k) ∧ (∀ k, w.L k = x.L k) ∧ (∀ k, k ≠ 23 → k ≠ 24 → w.A k = x.A k) ∧ ((∃ a r, z = (a1, nI C, 1, w) ∧ m = (a :: r).length ∧ chk n (a :: r) = true ∧ (∀ L, L ∈ a :: r → GoodL n L) ∧ C + (a :: r).countP (fun L => fitB2 (x.A 4) L n) = Tot ∧ (∀ k, k < n → w.A 23 k = nI (gL a k)) ∧ ((C = 0 ∧ a = List.range n) ∨ (C ≠ 0 ∧ ∀ k, k < n → w.A 24 k = nI k))) ∨ (z = (a1, nI C, 0, w) ∧ m = 0 ∧ C = Tot ∧ C ≠ 0 ∧ ∀ k, k < n → w.A 24 k = nI k))) ?_ (a :: r).length _ ⟨0, y, f1, f2, f3, Or.inl ⟨a, r, rfl, rfl, hck, hgo, by rw [Nat.zero_add]; exact hc, f4, Or.inl ⟨rfl, ha⟩⟩⟩
  rintro self m z ⟨C, w, b1, b2, b3, hor⟩ hself
  rcases hor with ⟨a, r, rfl, rfl, c1, c2, c3, c4, c5⟩ | ⟨rfl, rfl, c1, c2, c3⟩
  · dsimp only at hself ⊢
    unfold wlX12_orders_37
    refine ⟨fun q => absurd q (by decide), fun _ => ?_⟩
    have hga := c2 a (List.mem_cons_self)
    have e4 : w.A 4 = x.A 4 := b3 4 (by decide) (by decide)
    have eIw : w.I 0 = nI n := (b1 0).trans eI
    rw [List.countP_cons] at c3
    have next : ∀ (C' : Nat) (v : St) (x2 : Int32), x2 = nI C' → C' ≠ 0 → C' + r.countP (fun L => fitB2 (x.A 4) L n) = Tot → (∀ k, v.I k = x.I k) → (∀ k, v.L k = x.L k) → (∀ k, k ≠ 23 → k ≠ 24 → v.A k = x.A k) → (∀ k, k < n → v.A 23 k = nI (gL a k)) → (∀ k, k < n → v.A 24 k = nI k) → wjX12_orders_87 Post self KX a1 x2 v := by
      intro C' v x2 e2 hC' hcc d1 d2 d3 d4 d5
      subst e2
      unfold wjX12_orders_87
      refine m_nextRow (x := v) (g := gL a) h1 hn (fun k hk => by have := gL_lt hga hk; omega) ((d1 0).trans eI) ⟨fun _ => rfl, fun _ => rfl, fun _ _ => rfl, d4⟩ (fun q => ?_) (fun q z hz => ?_)
      · cases r with
        | nil =>
          exact hself 0 _ ⟨C', v, d1, d2, d3, Or.inr ⟨rfl, rfl, hcc, hC', d5⟩⟩ (by simp)
        | cons b r2 =>
          have := (chk_2 c1).1; omega
      · cases r with
        | nil => exact absurd (chk_1 c1) q
        | cons b r2 =>
          obtain ⟨-, k2, k3⟩ := chk_2 c1
          obtain ⟨z1, z2, z3, z4⟩ := hz
          refine hself (b :: r2).length _ ⟨C', z, fun k => (z1 k).trans (d1 k), fun k => (z2 k).trans (d2 k), fun k g1 g2 => (z3 k g1).trans (d3 k g1 g2), Or.inl ⟨b, r2, rfl, rfl, k3, fun L hL => c2 L (List.mem_cons_of_mem _ hL), hcc, fun k hk => by rw [z4 k hk, k2 k hk], Or.inr ⟨hC', fun k hk => by rw [z3 24 (by decide)]; exact d5 k hk⟩⟩⟩ (by simp)
    refine m_isRow (L := a) hn eIw (by rw [e4]; exact hW) hga c4 (fun hf => b1e ?_) (fun hf => b0e ?_)
    · rw [e4] at hf
      rw [if_pos hf] at c3
      refine m_saveL (x := x) (g := gL a) hn eIw (by omega) (fun v d1 d2 d3 d4 d5 => ?_)
      intro x2 e2
      refine next (C + 1) v x2 (by rw [e2]; exact nI_1 C) (by omega) (by omega) (fun k => (d1 k).trans (b1 k)) (fun k => (d2 k).trans (b2 k)) (fun k g1 g2 => (d3 k g2).trans (b3 k g1 g2)) (fun k hk => by rw [d3 23 (by decide)]; exact c4 k hk) (fun k hk => ?_)
      rcases c5 with ⟨e0, ea⟩ | ⟨e0, h24⟩
      · rw [d4 e0 k hk, c4 k hk, ea]
        show nI ((List.range n).getD k 0) = _
        rw [range_getD hk]
      · rw [d5 e0]; exact h24 k hk
    · rw [e4] at hf
      rw [if_neg (by rw [hf]; decide)] at c3
      rcases c5 with ⟨e0, ea⟩ | ⟨e0, h24⟩
      · rw [ea, id_fits hW hn] at hf
        exact absurd hf (by decide)
      · exact next C w _ rfl e0 c3 b1 b2 b3 c4 h24
  · dsimp only at hself ⊢
    unfold wlX12_orders_37
    refine ⟨fun _ => ?_, fun q => absurd rfl q⟩
    rw [c1]
    exact hfin w b1 b2 b3 (by omega) c3
theorem m_idL {x : St} {n : Nat} {a1 : Int32} (hn : n ≤ 6) (eI : x.I 0 = nI n) {Post : Int32 → St → Prop} {KX : Int32 → St → Prop} (h : ∀ y : St, (∀ k, y.I k = x.I k) → (∀ k, y.L k = x.L k) → (∀ k, k ≠ 23 → y.A k = x.A k) → (∀ k, k < n → y.A 23 k = nI k) → KX a1 y) : ∃ k, wLX12_orders_12 Post KX k (a1, 0, x) := by
  refine it_rule (F := fun self z => wlX12_orders_12 Post KX self z.1 z.2.1 z.2.2) (fun z => ∃ (j : Nat) (w : St), z = (a1, nI j, w) ∧ j ≤ n ∧ (∀ k, w.I k = x.I k) ∧ (∀ k, w.L k = x.L k) ∧ (∀ k, k ≠ 23 → w.A k = x.A k) ∧ ∀ k, k < j → w.A 23 k = nI k) (fun z => 6 - z.2.1.toNatClampNeg) ?_ _ ⟨0, x, rfl, by omega, fun _ => rfl, fun _ => rfl, fun _ _ => rfl, fun k hk => absurd hk (Nat.not_lt_zero k)⟩
  rintro self z ⟨j, w, rfl, hj, a1, a2, a3, a4⟩ hself
  dsimp only at hself ⊢
  unfold wlX12_orders_12
  rw [a1, eI]
  refine pk_le n j (fun hle => ?_) (fun hlt => ⟨vp_in_nI (by omega) (by omega), fun w' ew z ez => ?_⟩)
  · exact h w a1 a2 a3 (fun k hk => a4 k (by omega))
  · rw [ncl (by omega)] at ew
    subst ew; subst ez
    rw [nI_1]
    refine hself _ ⟨j + 1, _, rfl, by omega, a1, a2, fun k hk => ?_, fun k hk => ?_⟩ (by dsimp only; rw [ncl (by omega), ncl (by omega)]; omega)
    · rw [sA_A, if_neg hk]; exact a3 k hk
    · show upd (w.A 23) j (nI j) k = _
      by_cases hkj : k = j
      · subst hkj; exact upd_at
      · rw [upd_ne hkj]; exact a4 k (by omega)
theorem cn_le {st : Nat → Int32} {n : Nat} (h1 : 1 ≤ n) (hn : n ≤ 6) : (enD n n []).countP (fun L => fitB2 st L n) = cnD st n n [] ∧ cnD st n n [] ≤ 720 := by
  have h := cnt_all st n n [] (by simp)
  rw [if_pos (show fitB2 st [] ([] : List Nat).length = true from rfl)] at h
  have h2 := (enD_ok n (by omega) (by omega)).2.2.1
  have h3 := List.countP_le_length (p := fun L => fitB2 st L n) (l := enD n n [])
  exact ⟨h, by omega⟩
theorem m_ordersG {x : St} {n : Nat} (h1 : 1 ≤ n) (hn : n ≤ 6) (eI : x.I 0 = nI n) (hW : WF (x.A 4) n) {x1 : Int32} (hx : -1 ≤ x1) {Post : Int32 → St → Prop} (h : ∀ y : St, (∀ k, y.I k = x.I k) → (∀ k, y.L k = x.L k) → (∀ k, k ≠ 23 → k ≠ 24 → y.A k = x.A k) → (x1 = -1 → Post (nI (cnD (x.A 4) n n [])) y) ∧ (∀ i, x1 = nI i → i < n → Post (nI i) y) ∧ (¬ x1 = -1 → ¬ x1 < nI n → Post (-5) y)) : wpX12_orders x1 x Post := by
  unfold wpX12_orders
  refine ⟨fun _ => ?_, fun q => absurd hx q⟩
  obtain ⟨q1, q2, q3, q4⟩ := enD_ok n (by omega) (by omega)
  obtain ⟨e1, e2⟩ := cn_le (st := x.A 4) h1 hn
  refine m_idL hn eI (fun y f1 f2 f3 f4 => ?_)
  cases hL : enD n n [] with
  | nil => rw [hL] at q4; exact absurd q4 (by simp)
  | cons a r =>
    have ea : a = List.range n := by
      rw [hL] at q4
      simpa using q4
    rw [hL] at q1 e1
    refine m_ordersL (x := x) (Tot := cnD (x.A 4) n n []) h1 hn eI hW e2 (fun z b1 b2 b3 b4 b5 => ?_) a r y q1 (fun L hLm => goodL_of (by omega) (by omega) (by rw [hL]; exact hLm)) e1 ea f1 f2 (fun k g1 g2 => f3 k g1) (fun k hk => ?_)
    · obtain ⟨p1, p2, p3⟩ := h z b1 b2 b3
      refine ⟨fun hne => ⟨fun _ => ⟨fun hlt => ?_, fun hge => p3 hne (by rw [← eI, ← b1 0]; exact hge)⟩, fun e => absurd ((nI_eq (b := 0) (by omega) (by decide)).mp e) b4⟩, fun e => p1 e⟩
      rw [b1, eI] at hlt
      have hm1 : (-1 : Int32).toInt = -1 := by decide
      have hx2 := (fa_le _ _).mp hx
      have hne2 : x1.toInt ≠ -1 := fun w => hne ((fa_eq _ _).mpr (by rw [w, hm1]))
      obtain ⟨i, rfl, hi, _⟩ := toNI (show 0 ≤ x1.toInt by omega)
      have hin : i < n := (nI_ltI (by omega) (by omega)).mp hlt
      rw [ncl (by omega), b5 i hin]
      exact ⟨vp_in_nI (by omega) (by omega), p2 i rfl hin⟩
    · rw [f4 k hk, ea]
      show _ = nI ((List.range n).getD k 0)
      rw [range_getD hk]
theorem R_23 {t : Nat → St} {x y p : St} (h : Rel t x) (f1 : ∀ k, y.I k = x.I k) (f2 : ∀ k, y.L k = x.L k) (f3 : ∀ k, k ≠ 23 → k ≠ 24 → y.A k = x.A k) : Rel t y := by
  obtain ⟨hN, hO, hT, hM⟩ := h
  refine ⟨?_, ?_, ?_, ?_⟩
  · unfold NowR at hN ⊢
    rw [f1, f1, f1, f1, f3 4 (by decide) (by decide), f3 5 (by decide) (by decide), f3 2 (by decide) (by decide)]; exact hN
  · unfold ObjR at hO ⊢
    rw [f2, f2, f3 9 (by decide) (by decide)]; exact hO
  · unfold TxtR at hT ⊢
    rw [f1, f3 10 (by decide) (by decide)]; exact hT
  · unfold ImsR at hM ⊢
    rw [f3 27 (by decide) (by decide), f3 28 (by decide) (by decide)]; exact hM
theorem s_orders {t : Nat → St} {x : St} (h : Rel t x) (x1 : Int32) : SimI (wpX11_orders x1 t) (wpX12_orders x1 x) := by
  obtain ⟨n, w, u, e1, e2, e3, hc, g⟩ := h.1.got
  have hcur := g.cur
  have hn6 := g.2.1
  have hn1 := g.1
  have e7 : ∀ p : St, Rel (upS t 7 p) x := fun p => h
  unfold SimI wpX11_orders
  refine ⟨fun hx => ⟨fun hne => ⟨fun hlt => ?_, fun hge => ?_⟩, fun he => ?_⟩, fun hx => k_bad ⟨fun q => absurd q hx, fun _ => m_ref0 ⟨rfl, R_bad h⟩⟩⟩
  · have hm1 : (-1 : Int32).toInt = -1 := by decide
    have hx2 := (fa_le _ _).mp hx
    have hne2 : x1.toInt ≠ -1 := fun w => hne ((fa_eq _ _).mpr (by rw [w, hm1]))
    obtain ⟨i, rfl, hi, _⟩ := toNI (show 0 ≤ x1.toInt by omega)
    rw [g.2.2.1] at hlt
    have hin : i < n := (nI_ltI (by omega) (by omega)).mp hlt
    refine k_searchOne hcur.1 hcur.2 hn6 g.2.2.1 (fun p' hp' => ?_)
    intro t3 et3
    subst et3
    refine b1n ?_
    have e77 : (upS t 7 p') 7 = p' := rfl
    rw [e77]
    unfold wpX8_sheetAt
    refine ⟨fun q => absurd q (nI_pos (by omega)), fun _ => ⟨fun q => absurd q (nI_ge (b := 6) (by omega) (by omega)), fun _ => ?_⟩⟩
    rw [ncl (by omega), hp' i hin]
    refine ⟨vp_in_nI (by omega) (by omega), m_ordersG hn1 hn6 e1 hcur.2 hx (fun y f1 f2 f3 => ⟨fun q => absurd q hne, fun j ej hj => ?_, fun _ q => absurd hlt q⟩)⟩
    exact ⟨ej, R_23 (p := y) (e7 p') f1 f2 f3⟩
  · rw [g.2.2.1] at hge
    refine m_ordersG hn1 hn6 e1 hcur.2 hx (fun y f1 f2 f3 => ⟨fun q => absurd q hne, fun j ej hj => absurd (by rw [ej]; exact nI_lt hj (by omega)) hge, fun _ _ => ⟨rfl, R_23 (p := y) h f1 f2 f3⟩⟩)
  · refine k_searchAll hcur.1 hcur.2 hn1 hn6 g.2.2.1 (cn_le hn1 hn6).2 (fun p' => ?_)
    intro t7 et7
    subst et7
    refine m_ordersG hn1 hn6 e1 hcur.2 hx (fun y f1 f2 f3 => ⟨fun _ => ⟨rfl, R_23 (p := y) (e7 p') f1 f2 f3⟩, fun j ej hj => ?_, fun q => absurd he q⟩)
    have := congrArg Int32.toInt (he.symm.trans ej)
    rw [nI_toInt (by omega), show (-1 : Int32).toInt = -1 by decide] at this
    omega
