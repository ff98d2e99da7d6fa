def nx (v : Nat) : Nat := (v * 1103515245 + 12345) % 2147483648
def dr (v m : Nat) : Nat := v / 65536 % m
theorem nx_lt (v : Nat) : nx v < 2 ^ 31 := Nat.mod_lt _ (by decide)
theorem nx_eq {v : Nat} (hv : v < 2 ^ 31) : ((lN v * 1103515245) + 12345) - ((lN v * 1103515245) + 12345) / 2147483648 * 2147483648 = lN (nx v) := by
  have e : (lN v * 1103515245) + 12345 = lN (v * 1103515245 + 12345) := by
    show lN v * lN 1103515245 + lN 12345 = _
    rw [lN_mul, lN_add]
  rw [e]
  exact pk_lRem (a := v * 1103515245 + 12345) (b := 2147483648) (by omega) (by decide) (by decide)
theorem dr_eq {v m : Nat} (hv : v < 2 ^ 31) (hm : 0 < m) (hm2 : m < 2 ^ 31) : ((lN v / 65536) - (lN v / 65536) / ((nI m).toInt64) * ((nI m).toInt64)).toInt32 = nI (dr v m) := by
  have e : lN v / 65536 = lN (v / 65536) := pk_lDiv (a := v) (b := 65536) (by omega) (by decide) (by decide)
  rw [e, nI_wide hm2, pk_lRem (by omega) hm (by omega), lN_i]; rfl
theorem k_next {v : Nat} (hv : v < 2 ^ 31) {Post : Int64 → Prop} (h : Post (lN (nx v))) : wpX11_nextDraw (lN v) Post := by
  unfold wpX11_nextDraw
  rw [nx_eq hv]; exact h
theorem k_drawOf {v m : Nat} (hv : v < 2 ^ 31) (hm : 0 < m) (hm2 : m < 2 ^ 31) {Post : Int32 → Prop} (h : Post (nI (dr v m))) : wpX11_drawOf (lN v) (nI m) Post := by
  refine ⟨fun _ => ⟨?_, ?_⟩, fun q => absurd (nI_lt (a := 0) hm hm2) q⟩
  · rw [nI_wide hm2]; exact lN_0 (by omega) (by omega)
  · rw [dr_eq hv hm hm2]; exact h
theorem m_draw {x : St} {v m : Nat} (ev : x.L 26 = lN v) (hv : v < 2 ^ 31) (hm : 0 < m) (hm2 : m < 2 ^ 31) {Post : Int32 → St → Prop} (h : Post (nI (dr (nx v) m)) (x.sL 26 (lN (nx v)))) : wpX12_draw (nI m) x Post := by
  intro p1 e1
  rw [ev, nx_eq hv] at e1
  subst e1
  have eL : (x.sL 26 (lN (nx v))).L 26 = lN (nx v) := rfl
  rw [eL, dr_eq (nx_lt v) hm hm2]
  exact ⟨by rw [nI_wide hm2]; exact lN_0 (by omega) (by omega), h⟩
/-- the seed, the top and the last sheet's dents after the first draws -/
def dwS (n : Nat) (v0 T0 : Nat) (D0 : Nat → Int32) : Nat → Nat × Nat × (Nat → Int32)
  | 0 => (v0, T0, D0)
  | i + 1 =>
    (nx (nx (nx (dwS n v0 T0 D0 i).1)),
     if i % 3 = 2 ∧ (dwS n v0 T0 D0 i).2.1 + 1 < n then (dwS n v0 T0 D0 i).2.1 + 1 else (dwS n v0 T0 D0 i).2.1,
     fun c => if (dr (nx (nx (nx (dwS n v0 T0 D0 i).1))) 4096).testBit c = true ∧ (dwS n v0 T0 D0 i).2.2 c < ftN (dr (nx (dwS n v0 T0 D0 i).1) 6) (1 + dr (nx (nx (dwS n v0 T0 D0 i).1)) 9) (n - 1 - (dwS n v0 T0 D0 i).2.1) then ftN (dr (nx (dwS n v0 T0 D0 i).1) 6) (1 + dr (nx (nx (dwS n v0 T0 D0 i).1)) 9) (n - 1 - (dwS n v0 T0 D0 i).2.1) else (dwS n v0 T0 D0 i).2.2 c)
theorem dwS_s (n v0 T0 : Nat) (D0 : Nat → Int32) (i : Nat) : dwS n v0 T0 D0 (i + 1) = (nx (nx (nx (dwS n v0 T0 D0 i).1)), if i % 3 = 2 ∧ (dwS n v0 T0 D0 i).2.1 + 1 < n then (dwS n v0 T0 D0 i).2.1 + 1 else (dwS n v0 T0 D0 i).2.1, fun c => if (dr (nx (nx (nx (dwS n v0 T0 D0 i).1))) 4096).testBit c = true ∧ (dwS n v0 T0 D0 i).2.2 c < ftN (dr (nx (dwS n v0 T0 D0 i).1) 6) (1 + dr (nx (nx (dwS n v0 T0 D0 i).1)) 9) (n - 1 - (dwS n v0 T0 D0 i).2.1) then ftN (dr (nx (dwS n v0 T0 D0 i).1) 6) (1 + dr (nx (nx (dwS n v0 T0 D0 i).1)) 9) (n - 1 - (dwS n v0 T0 D0 i).2.1) else (dwS n v0 T0 D0 i).2.2 c) := rfl
theorem dwS_T {n v0 T0 : Nat} {D0 : Nat → Int32} (hT : T0 < n) : ∀ i, (dwS n v0 T0 D0 i).2.1 < n
  | 0 => hT
  | i + 1 => by
    have ih := dwS_T (v0 := v0) (D0 := D0) hT i
    rw [dwS_s]
    dsimp only
    split
    · rename_i h; exact h.2
    · exact ih
theorem dwS_v {n v0 T0 : Nat} {D0 : Nat → Int32} (hv : v0 < 2 ^ 31) : ∀ i, (dwS n v0 T0 D0 i).1 < 2 ^ 31
  | 0 => hv
  | i + 1 => by rw [dwS_s]; exact nx_lt _
theorem up0 (t : Nat → St) (a b : St) : upS (upS t 0 a) 0 b = upS t 0 b := by
  funext j; unfold upS
  by_cases hj : j = 0
  · rw [if_pos hj, if_pos hj]
  · rw [if_neg hj, if_neg hj, if_neg hj]
theorem up0_same (t : Nat → St) : upS t 0 (t 0) = t := by
  funext j; unfold upS
  by_cases hj : j = 0
  · rw [if_pos hj, hj]
  · rw [if_neg hj]
theorem k_lastL {t : Nat → St} {s : Nat} {a1 a2 a4 : Int32} (hs : s < 6) {Post : Int32 → (Nat → St) → Prop} {KX : Int32 → Int32 → Int32 → Int32 → (Nat → St) → Prop} (h : ∀ D : Nat → Int32, (∀ c, c < 12 → D c = (t 2).A 0 (4 + 14 * s + c)) → KX a1 a2 (nI s) a4 (upS t 0 ((t 0).sA 8 D))) : ∃ n, wLX11_drawn_61 Post KX n (a1, a2, nI s, a4, 0, t) := by
  refine it_rule (F := fun self z => wlX11_drawn_61 Post KX self z.1 z.2.1 z.2.2.1 z.2.2.2.1 z.2.2.2.2.1 z.2.2.2.2.2) (fun z => ∃ (i : Nat) (D : Nat → Int32), z = (a1, a2, nI s, a4, nI i, upS t 0 ((t 0).sA 8 D)) ∧ i ≤ 12 ∧ ∀ c, c < i → D c = (t 2).A 0 (4 + 14 * s + c)) (fun z => 12 - z.2.2.2.2.1.toNatClampNeg) ?_ _ ⟨0, (t 0).A 8, ?_, by omega, fun c hc => absurd hc (Nat.not_lt_zero c)⟩
  · rintro self z ⟨i, D, rfl, hi, a⟩ hself
    dsimp only at hself ⊢
    unfold wlX11_drawn_61
    refine pk_le 12 i (fun hle => ?_) (fun hlt => k_dentOf hs hlt ⟨vp_in_nI (by omega) (by omega), fun t7 e7 z ez => ?_⟩)
    · have e : i = 12 := by omega
      subst e
      exact h D a
    · rw [ncl (by omega), up0] at e7
      subst e7; subst ez
      rw [nI_1]
      refine hself _ ⟨i + 1, upd D i ((t 2).A 0 (4 + 14 * s + i)), ?_, by omega, fun c hc => ?_⟩ (by dsimp only; rw [ncl (by omega), ncl (by omega)]; omega)
      · congr 5
        show upS t 0 (((t 0).sA 8 D).sA 8 (upd D i ((t 2).A 0 (4 + 14 * s + i)))) = _
        rw [sA_sA]
      · by_cases hci : c = i
        · subst hci; exact upd_at
        · rw [upd_ne hci]; exact a c (by omega)
  · rw [sA_same, up0_same]; rfl
theorem k_drawnL {t : Nat → St} {n N v0 T0 : Nat} {D D0 : Nat → Int32} (hn : n ≤ 6) (hT : T0 < n) (hv : v0 < 2 ^ 31) (hN : N ≤ 20) (hD : ∀ c, c < 12 → D c = D0 c) {Post : Int32 → (Nat → St) → Prop} {KX : (Nat → St) → Prop} (h : ∀ D' : Nat → Int32, (∀ c, c < 12 → D' c = (dwS n v0 T0 D0 N).2.2 c) → KX (upS t 0 ((t 0).sA 8 D'))) : ∃ k, wLX11_drawn_98 Post KX k (nI N, nI (n - 1), nI T0, lN v0, 1, upS t 0 ((t 0).sA 8 D)) := by
  refine it_rule (F := fun self z => wlX11_drawn_98 Post KX self z.1 z.2.1 z.2.2.1 z.2.2.2.1 z.2.2.2.2.1 z.2.2.2.2.2) (fun z => ∃ (i : Nat) (E : Nat → Int32), z = (nI N, nI (n - 1), nI (dwS n v0 T0 D0 i).2.1, lN (dwS n v0 T0 D0 i).1, nI (i + 1), upS t 0 ((t 0).sA 8 E)) ∧ i ≤ N ∧ ∀ c, c < 12 → E c = (dwS n v0 T0 D0 i).2.2 c) (fun z => 21 - z.2.2.2.2.1.toNatClampNeg) ?_ _ ⟨0, D, rfl, by omega, hD⟩
  rintro self z ⟨i, E, rfl, hi, hE⟩ hself
  dsimp only at hself ⊢
  unfold wlX11_drawn_98 wpX5_forceOf
  have hvi := dwS_v (n := n) (T0 := T0) (D0 := D0) hv i
  have hTi := dwS_T (v0 := v0) (D0 := D0) hT i
  refine pk_lt N (i + 1) (fun hle => ?_) (fun hlt => ?_)
  · have e : i = N := by omega
    subst e
    exact h E hE
  · refine k_next hvi (k_drawOf (nx_lt _) (m := 6) (by omega) (by omega) (k_next (nx_lt _) (k_drawOf (nx_lt _) (m := 9) (by omega) (by omega) (fun y ey => k_next (nx_lt _) (k_drawOf (nx_lt _) (m := 4096) (by omega) (by omega) ?_)))))
    have hce : dr (nx (nx (nx (dwS n v0 T0 D0 i).1))) 4096 < 4096 := Nat.mod_lt _ (by decide)
    rw [show (1 : Int32) + nI (dr (nx (nx (dwS n v0 T0 D0 i).1)) 9) = nI (1 + dr (nx (nx (dwS n v0 T0 D0 i).1)) 9) from nI_add 1 _] at ey
    subst ey
    rw [pk_sub (by omega)]
    refine k_dentInto (f := 0) (by omega) (by omega) (by omega) ?_
    intro t7 e7
    rw [up0] at e7
    have hE8 : (upS t 0 ((t 0).sA 8 E)) 0 = (t 0).sA 8 E := rfl
    rw [hE8, sA_sA] at e7
    have hA8 : ((t 0).sA 8 E).A 8 = E := rfl
    rw [hA8] at e7
    subst e7
    have hrem : (nI (i + 1) - nI (i + 1) / 3 * 3) = nI ((i + 1) % 3) := pk_rem (d := 3) (by omega) (by decide) (by decide)
    rw [hrem]
    have hE' : ∀ c, c < 12 → dI E 0 (dr (nx (nx (nx (dwS n v0 T0 D0 i).1))) 4096) (fo (nI (dr (nx (dwS n v0 T0 D0 i).1) 6)) (nI (1 + dr (nx (nx (dwS n v0 T0 D0 i).1)) 9)) (nI (n - 1 - (dwS n v0 T0 D0 i).2.1))) 12 c = (dwS n v0 T0 D0 (i + 1)).2.2 c := fun c hc => by
      have := dI_in (row := E) (f := 0) (ce := dr (nx (nx (nx (dwS n v0 T0 D0 i).1))) 4096) (force := fo (nI (dr (nx (dwS n v0 T0 D0 i).1) 6)) (nI (1 + dr (nx (nx (dwS n v0 T0 D0 i).1)) 9)) (nI (n - 1 - (dwS n v0 T0 D0 i).2.1))) hc
      rw [Nat.zero_add] at this
      rw [this, hE c hc, dwS_s]; rfl
    have fin : ∀ (T' z : Int32), T' = nI (dwS n v0 T0 D0 (i + 1)).2.1 → z = nI (i + 1) + 1 → self (nI N, nI (n - 1), T', lN (nx (nx (nx (dwS n v0 T0 D0 i).1))), z, upS t 0 ((t 0).sA 8 (dI E 0 (dr (nx (nx (nx (dwS n v0 T0 D0 i).1))) 4096) (fo (nI (dr (nx (dwS n v0 T0 D0 i).1) 6)) (nI (1 + dr (nx (nx (dwS n v0 T0 D0 i).1)) 9)) (nI (n - 1 - (dwS n v0 T0 D0 i).2.1))) 12))) := by
      intro T' z eT ez
      subst eT; subst ez
      rw [nI_1]
      exact hself _ ⟨i + 1, _, by rw [show (dwS n v0 T0 D0 (i + 1)).1 = nx (nx (nx (dwS n v0 T0 D0 i).1)) from rfl], by omega, hE'⟩ (by dsimp only; rw [ncl (by omega), ncl (by omega)]; omega)
    have eT : (dwS n v0 T0 D0 (i + 1)).2.1 = if i % 3 = 2 ∧ (dwS n v0 T0 D0 i).2.1 + 1 < n then (dwS n v0 T0 D0 i).2.1 + 1 else (dwS n v0 T0 D0 i).2.1 := rfl
    refine ⟨fun q z ez => fin _ _ ?_ ez, fun q => ⟨fun q2 z ez => fin _ _ ?_ ez, fun q2 T' eT' z ez => fin _ _ ?_ ez⟩⟩
    · have : (i + 1) % 3 ≠ 0 := fun w => q (by rw [w]; rfl)
      rw [eT, if_neg (by omega)]
    · rw [nI_leI (by omega) (by omega)] at q2
      rw [eT, if_neg (by omega)]
    · have q' : (i + 1) % 3 = 0 := (nI_eq (b := 0) (by omega) (by decide)).mp q
      rw [nI_leI (by omega) (by omega)] at q2
      rw [eT, if_pos (by omega), eT', nI_1]
def smD (D : Nat → Int32) : Nat → Int32
  | 0 => 0
  | c + 1 => smD D c + D c
theorem smD_s (D : Nat → Int32) (c : Nat) : smD D (c + 1) = smD D c + D c := rfl
theorem smD_cong {D E : Nat → Int32} : ∀ n, (∀ c, c < n → D c = E c) → smD D n = smD E n
  | 0, _ => rfl
  | n + 1, h => by rw [smD_s, smD_s, smD_cong n (fun c hc => h c (by omega)), h n (by omega)]
theorem k_sumLast {t : Nat → St} {D : Nat → Int32} (hD : ∀ c, c < 12 → (t 0).A 8 c = D c) {Post : Int32 → Prop} (h : Post (smD D 12)) : wpX11_sumOfLast t Post := by
  refine for_rule (F := fun self z => wlX11_sumOfLast_4 t Post _ self z.1 z.2) 12 (fun i => (smD D i, nI i)) ?_ ?_
  · intro self i hi hself
    dsimp only at hself ⊢
    unfold wlX11_sumOfLast_4
    rw [ncl (by omega), hD i hi]
    refine ⟨fun z => absurd z (nI_ge (b := 12) hi (by decide)), fun _ => ⟨vp_in_nI (by omega) (by omega), fun y ey z ez => ?_⟩⟩
    subst ey; subst ez
    rw [nI_1]; exact hself
  · intro self
    dsimp only
    unfold wlX11_sumOfLast_4
    exact ⟨fun _ => h, fun z => absurd (nI_le (a := 12) (b := 12) (by decide) (by decide)) z⟩
/-! the model's -/
theorem m_asideL {x : St} {a1 a2 : Int32} {Post : Int32 → St → Prop} {KX : Int32 → Int32 → St → Prop} (h : ∀ x' : St, (∀ k, x'.I k = x.I k) → (∀ k, x'.L k = x.L k) → (∀ k, k ≠ 25 → x'.A k = x.A k) → (∀ i, i < 126 → x'.A 25 i = x.A 4 i) → KX a1 a2 x') : ∃ n, wLX12_drawn_47 Post KX n (a1, a2, 0, x) := by
  refine it_rule (F := fun self z => wlX12_drawn_47 Post KX self z.1 z.2.1 z.2.2.1 z.2.2.2) (fun z => ∃ (j : Nat) (y : St), z = (a1, a2, nI j, y) ∧ j ≤ 126 ∧ (∀ k, y.I k = x.I k) ∧ (∀ k, y.L k = x.L k) ∧ (∀ k, k ≠ 25 → y.A k = x.A k) ∧ ∀ i, i < j → y.A 25 i = x.A 4 i) (fun z => 126 - z.2.2.1.toNatClampNeg) ?_ _ ⟨0, x, rfl, by omega, fun _ => rfl, fun _ => rfl, fun _ _ => rfl, fun i hi => absurd hi (Nat.not_lt_zero i)⟩
  rintro self z ⟨j, y, rfl, hj, b1, b2, b3, b4⟩ hself
  dsimp only at hself ⊢
  unfold wlX12_drawn_47
  refine pk_le 126 j (fun hle => ?_) (fun hlt => ⟨vp_in_nI (by omega) (by omega), vp_in_nI (by omega) (by omega), fun y' ey z ez => ?_⟩)
  · have e126 : j = 126 := by omega
    subst e126
    exact h y b1 b2 b3 b4
  · rw [ncl (by omega)] at ey
    subst ey; subst ez
    rw [nI_1]
    refine hself _ ⟨j + 1, _, rfl, by omega, b1, b2, fun k hk => ?_, fun i hi => ?_⟩ (by dsimp only; rw [ncl (by omega), ncl (by omega)]; omega)
    · rw [sA_A, if_neg hk]; exact b3 k hk
    · show upd (y.A 25) j (y.A 4 j) i = _
      by_cases hij : i = j
      · subst hij; rw [upd_at, b3 4 (by decide)]
      · rw [upd_ne hij]; exact b4 i (by omega)
theorem m_backL {x : St} {a : Int32} {Post : Int32 → St → Prop} {KX : Int32 → St → Prop} (h : ∀ x' : St, (∀ k, x'.I k = x.I k) → (∀ k, x'.L k = x.L k) → (∀ k, k ≠ 4 → x'.A k = x.A k) → (∀ i, i < 126 → x'.A 4 i = x.A 25 i) → KX a x') : ∃ n, wLX12_drawn_197 Post KX n (a, 0, x) := by
  refine it_rule (F := fun self z => wlX12_drawn_197 Post KX self z.1 z.2.1 z.2.2) (fun z => ∃ (j : Nat) (y : St), z = (a, nI j, y) ∧ j ≤ 126 ∧ (∀ k, y.I k = x.I k) ∧ (∀ k, y.L k = x.L k) ∧ (∀ k, k ≠ 4 → y.A k = x.A k) ∧ ∀ i, i < j → y.A 4 i = x.A 25 i) (fun z => 126 - z.2.1.toNatClampNeg) ?_ _ ⟨0, x, rfl, by omega, fun _ => rfl, fun _ => rfl, fun _ _ => rfl, fun i hi => absurd hi (Nat.not_lt_zero i)⟩
  rintro self z ⟨j, y, rfl, hj, b1, b2, b3, b4⟩ hself
  dsimp only at hself ⊢
  unfold wlX12_drawn_197
  refine pk_le 126 j (fun hle => ?_) (fun hlt => ⟨vp_in_nI (by omega) (by omega), vp_in_nI (by omega) (by omega), fun y' ey z ez => ?_⟩)
  · have e126 : j = 126 := by omega
    subst e126
    exact h y b1 b2 b3 b4
  · rw [ncl (by omega)] at ey
    subst ey; subst ez
    rw [nI_1]
    refine hself _ ⟨j + 1, _, rfl, by omega, b1, b2, fun k hk => ?_, fun i hi => ?_⟩ (by dsimp only; rw [ncl (by omega), ncl (by omega)]; omega)
    · rw [sA_A, if_neg hk]; exact b3 k hk
    · show upd (y.A 4) j (y.A 25 j) i = _
      by_cases hij : i = j
      · subst hij; rw [upd_at, b3 25 (by decide)]
      · rw [upd_ne hij]; exact b4 i (by omega)
theorem m_sumL {x : St} {n : Nat} (eI : x.I 0 = nI n) (h1 : 1 ≤ n) (hn : n ≤ 6) {D : Nat → Int32} (hD : ∀ c, c < 12 → x.A 4 (12 + 12 * (n - 1) + c) = D c) {Post : Int32 → St → Prop} {KX : Int32 → St → Prop} (h : KX (smD D 12) x) : ∃ n, wLX12_drawn_166 Post KX n (0, 0, x) := by
  refine for_rule (F := fun self z => wlX12_drawn_166 Post KX self z.1 z.2.1 z.2.2) 12 (fun i => (smD D i, nI i, x)) ?_ ?_
  · intro self i hi hself
    dsimp only at hself ⊢
    unfold wlX12_drawn_166
    rw [eI, show nI n - 1 = nI (n - 1) from pk_sub (b := 1) h1]
    refine ⟨fun z => absurd z (nI_ge (b := 12) hi (by decide)), fun _ => m_dentOf (by omega) hi (fun y ey z ez => ?_)⟩
    rw [hD i hi] at ey
    subst ey; subst ez
    rw [nI_1]; exact hself
  · intro self
    dsimp only
    unfold wlX12_drawn_166
    exact ⟨fun _ => h, fun z => absurd (nI_le (a := 12) (b := 12) (by decide) (by decide)) z⟩
theorem m_drawnL {x : St} {n N v0 T0 : Nat} {D0 : Nat → Int32} (h1 : 1 ≤ n) (hn : n ≤ 6) (eI : x.I 0 = nI n) (hT : T0 < n) (eT : x.A 4 125 = nI T0) (hv : v0 < 2 ^ 31) (ev : x.L 26 = lN v0) (hN : N ≤ 20) (hD : ∀ c, c < 12 → x.A 4 (12 + 12 * (n - 1) + c) = D0 c) {Post : Int32 → St → Prop} {KX : St → Prop} (h : ∀ y : St, (∀ k, y.I k = x.I k) → (∀ k, k ≠ 26 → y.L k = x.L k) → (∀ k, k ≠ 4 → y.A k = x.A k) → (∀ c, c < 12 → y.A 4 (12 + 12 * (n - 1) + c) = (dwS n v0 T0 D0 N).2.2 c) → KX y) : ∃ k, wLX12_drawn_79 Post KX k (nI N, 0, x) := by
  refine it_rule (F := fun self z => wlX12_drawn_79 Post KX self z.1 z.2.1 z.2.2) (fun z => ∃ (i : Nat) (y : St), z = (nI N, nI i, y) ∧ i ≤ N ∧ (∀ k, y.I k = x.I k) ∧ (∀ k, k ≠ 26 → y.L k = x.L k) ∧ (∀ k, k ≠ 4 → y.A k = x.A k) ∧ y.L 26 = lN (dwS n v0 T0 D0 i).1 ∧ y.A 4 125 = nI (dwS n v0 T0 D0 i).2.1 ∧ ∀ c, c < 12 → y.A 4 (12 + 12 * (n - 1) + c) = (dwS n v0 T0 D0 i).2.2 c) (fun z => 20 - z.2.1.toNatClampNeg) ?_ _ ⟨0, x, rfl, by omega, fun _ => rfl, fun _ _ => rfl, fun _ _ => rfl, ev, eT, hD⟩
  rintro self z ⟨i, y, rfl, hi, b1, b2, b3, b4, b5, b6⟩ hself
  dsimp only at hself ⊢
  unfold wlX12_drawn_79
  have hvi := dwS_v (n := n) (T0 := T0) (D0 := D0) hv i
  have hTi := dwS_T (v0 := v0) (D0 := D0) hT i
  refine pk_le N i (fun hle => ?_) (fun hlt => ?_)
  · have e : i = N := by omega
    subst e
    exact h y b1 b2 b3 b6
  · refine m_draw (m := 6) b4 hvi (by omega) (by omega) (m_draw (m := 9) (v := nx (dwS n v0 T0 D0 i).1) (by rw [sL_L, if_pos rfl]) (nx_lt _) (by omega) (by omega) (fun q eq => m_draw (m := 4096) (v := nx (nx (dwS n v0 T0 D0 i).1)) (by rw [sL_L, if_pos rfl]) (nx_lt _) (by omega) (by omega) ?_))
    have hk : dr (nx (dwS n v0 T0 D0 i).1) 6 < 6 := Nat.mod_lt _ (by decide)
    have hce : dr (nx (nx (nx (dwS n v0 T0 D0 i).1))) 4096 < 4096 := Nat.mod_lt _ (by decide)
    rw [nI_1, Nat.add_comm] at eq
    subst eq
    rw [sL_sL, sL_sL]
    refine m_dentAll (x := y.sL 26 (lN (nx (nx (nx (dwS n v0 T0 D0 i).1))))) (n := n) (T := (dwS n v0 T0 D0 i).2.1) (by rw [sL_I, b1]; exact eI) hn b5 (by omega) hk hce ?_
    rw [sL_A, sL_I, b1]
    have hrem : (nI i - nI i / 3 * 3) = nI (i % 3) := pk_rem (d := 3) (by omega) (by decide) (by decide)
    rw [hrem]
    have far : rwS 12 12 6 1 (x.I 1) (dwS n v0 T0 D0 i).2.1 (dr (nx (dwS n v0 T0 D0 i).1) 6) (1 + dr (nx (nx (dwS n v0 T0 D0 i).1)) 9) (dr (nx (nx (nx (dwS n v0 T0 D0 i).1))) 4096) (inkR (dr (nx (dwS n v0 T0 D0 i).1) 6) (dr (nx (nx (nx (dwS n v0 T0 D0 i).1))) 4096) (dwS n v0 T0 D0 i).2.1 (y.A 4)) (n - (dwS n v0 T0 D0 i).2.1) 125 = nI (dwS n v0 T0 D0 i).2.1 := by
      rw [mS_far (by omega) _ (by omega), inkR_far (by omega)]; exact b5
    have dent : ∀ c, c < 12 → rwS 12 12 6 1 (x.I 1) (dwS n v0 T0 D0 i).2.1 (dr (nx (dwS n v0 T0 D0 i).1) 6) (1 + dr (nx (nx (dwS n v0 T0 D0 i).1)) 9) (dr (nx (nx (nx (dwS n v0 T0 D0 i).1))) 4096) (inkR (dr (nx (dwS n v0 T0 D0 i).1) 6) (dr (nx (nx (nx (dwS n v0 T0 D0 i).1))) 4096) (dwS n v0 T0 D0 i).2.1 (y.A 4)) (n - (dwS n v0 T0 D0 i).2.1) (12 + 12 * (n - 1) + c) = (dwS n v0 T0 D0 (i + 1)).2.2 c := fun c hc => by
      rw [mS_dent (by omega) hc _ (by omega), inkR_far (by omega), b6 c hc, dwS_s]
      dsimp only
      by_cases hq : (dr (nx (nx (nx (dwS n v0 T0 D0 i).1))) 4096).testBit c = true ∧ (dwS n v0 T0 D0 i).2.2 c < ftN (dr (nx (dwS n v0 T0 D0 i).1) 6) (1 + dr (nx (nx (dwS n v0 T0 D0 i).1)) 9) (n - 1 - (dwS n v0 T0 D0 i).2.1)
      · rw [if_pos hq, if_pos ⟨by omega, by omega, hq.1, hq.2⟩]
      · rw [if_neg hq, if_neg (fun w => hq ⟨w.2.2.1, w.2.2.2⟩)]
    generalize rwS 12 12 6 1 (x.I 1) (dwS n v0 T0 D0 i).2.1 (dr (nx (dwS n v0 T0 D0 i).1) 6) (1 + dr (nx (nx (dwS n v0 T0 D0 i).1)) 9) (dr (nx (nx (nx (dwS n v0 T0 D0 i).1))) 4096) (inkR (dr (nx (dwS n v0 T0 D0 i).1) 6) (dr (nx (nx (nx (dwS n v0 T0 D0 i).1))) 4096) (dwS n v0 T0 D0 i).2.1 (y.A 4)) (n - (dwS n v0 T0 D0 i).2.1) = R at far dent ⊢
    have eA : ((y.sL 26 (lN (nx (nx (nx (dwS n v0 T0 D0 i).1))))).sA 4 R).A 4 = R := rfl
    have eI' : ((y.sL 26 (lN (nx (nx (nx (dwS n v0 T0 D0 i).1))))).sA 4 R).I 0 = nI n := by rw [sA_I, sL_I, b1]; exact eI
    rw [eA, eI', far, nI_1]
    have eT' : (dwS n v0 T0 D0 (i + 1)).2.1 = if i % 3 = 2 ∧ (dwS n v0 T0 D0 i).2.1 + 1 < n then (dwS n v0 T0 D0 i).2.1 + 1 else (dwS n v0 T0 D0 i).2.1 := rfl
    have fin : ∀ z0 : Int32, nI (dwS n v0 T0 D0 i).2.1 + z0 = nI (dwS n v0 T0 D0 (i + 1)).2.1 → wjX12_drawn_153 Post self KX (nI N) (nI i) z0 (nI (dwS n v0 T0 D0 i).2.1) 125 ((y.sL 26 (lN (nx (nx (nx (dwS n v0 T0 D0 i).1))))).sA 4 R) := by
      intro z0 ez0
      unfold wjX12_drawn_153
      refine ⟨vp_in_nI (n := 125) (by omega) (by omega), fun p19 e19 z ez => ?_⟩
      subst ez
      rw [ez0, eA, sA_sA] at e19
      rw [nI_1]
      refine hself _ ⟨i + 1, p19, rfl, by omega, fun k => ?_, fun k hk => ?_, fun k hk => ?_, ?_, ?_, fun c hc => ?_⟩ (by dsimp only; rw [ncl (by omega), ncl (by omega)]; omega)
      · rw [e19, sA_I, sL_I]; exact b1 k
      · rw [e19, sA_L, sL_L, if_neg hk]; exact b2 k hk
      · rw [e19, sA_A, if_neg hk, sL_A]; exact b3 k hk
      · rw [e19]; rfl
      · rw [e19, sA_A, if_pos rfl]; exact upd_at
      · rw [e19, sA_A, if_pos rfl, show (125 : Int32).toNatClampNeg = 125 by decide, upd_ne (by omega)]; exact dent c hc
    refine ⟨fun q => fin 0 ?_, fun q => ⟨fun q2 => fin 0 ?_, fun q2 => fin 1 ?_⟩⟩
    · have : i % 3 ≠ 2 := fun w => q (by rw [w]; rfl)
      rw [eT', if_neg (by omega)]
      show nI _ + nI 0 = _
      rw [nI_add]; rfl
    · rw [nI_leI (by omega) (by omega)] at q2
      rw [eT', if_neg (by omega)]
      show nI _ + nI 0 = _
      rw [nI_add]; rfl
    · have q' : i % 3 = 2 := (nI_eq (b := 2) (by omega) (by decide)).mp q
      rw [nI_leI (by omega) (by omega)] at q2
      rw [eT', if_pos (by omega), nI_1]
theorem s_drawn {t : Nat → St} {x : St} (h : Rel t x) (x1 x2 : Int32) : SimI (wpX11_drawn x1 x2 t) (wpX12_drawn x1 x2 x) := by
  obtain ⟨n, w, u, e1, e2, e3, hc, g⟩ := h.1.got
  obtain ⟨q0, q1, q2, q3, q4, q5⟩ := g.nums
  have hcur := g.cur
  have hn6 := g.2.1
  have hn1 := g.1
  unfold SimI wpX11_drawn wjX11_drawn_20
  have MB : ¬ ((0 ≤ x1.toInt ∧ x1.toInt ≤ 999999) ∧ 0 ≤ x2.toInt ∧ x2.toInt ≤ 20) → ∀ {P : Int32 → St → Prop}, P (-2) (refX x 0) → wpX12_drawn x1 x2 x P := by
    intro hb P hP
    unfold wpX12_drawn wjX12_drawn_24 wpX12_bad
    exact in_rule 0 999999 (by decide) (by decide) (fun a b => b1e (in_rule 0 20 (by decide) (by decide) (fun c d => absurd ⟨⟨a, b⟩, c, d⟩ hb) (fun _ => b0n (m_ref0 hP)))) (fun _ => b0e (m_ref0 hP))
  refine v_gt 0 999999 (by decide) (by decide) (fun q => k_bad (MB (by omega) ⟨rfl, R_bad h⟩)) (fun a b => ?_)
  refine v_le 0 20 (by decide) (by decide) (fun q => k_bad (MB (by omega) ⟨rfl, R_bad h⟩)) (fun c d => ?_)
  clear MB
  have MG : ∀ {P : Int32 → St → Prop}, _ → wpX12_drawn x1 x2 x P := fun {P} hP => by
    unfold wpX12_drawn wjX12_drawn_24 wpX12_bad
    exact in_rule 0 999999 (by decide) (by decide) (fun _ _ => b1e (in_rule 0 20 (by decide) (by decide) (fun _ _ => b1n hP) (fun q => absurd q (by omega)))) (fun q => absurd q (by omega))
  obtain ⟨v0, rfl, hv, _⟩ := toNI a
  obtain ⟨N, rfl, hN, _⟩ := toNI c
  refine k_usedUp q0 g.2.2.1 (by omega) hn6 (fun hlt => b0e ?_) (fun hge => b1e (MG ⟨fun hne => absurd (by rw [q2, e1, show tN (x.A 4) = n by omega]) hne, fun _ => ⟨rfl, h⟩⟩))
  intro y ey
  rw [g.2.2.1, show nI n - 1 = nI (n - 1) from pk_sub (b := 1) hn1] at ey
  subst ey
  refine k_top ?_
  rw [q0]
  refine k_lastL (by omega) (fun D hD => ?_)
  intro y ey
  rw [nI_wide (by omega)] at ey
  subst ey
  have hD0 : ∀ c, c < 12 → D c = x.A 4 (12 + 12 * (n - 1) + c) := fun c hc => by
    rw [hD c hc, (hcur.1.2.2.1 (n - 1) (by omega)).2.2 c hc]
  refine k_drawnL (D0 := fun c => x.A 4 (12 + 12 * (n - 1) + c)) hn6 hlt (by omega) (by omega) hD0 (fun D' hD' => k_sumLast (t := upS t 0 ((t 0).sA 8 D')) (D := (dwS n v0 (tN (x.A 4)) (fun c => x.A 4 (12 + 12 * (n - 1) + c)) N).2.2) hD' ?_)
  refine MG ⟨fun _ => ?_, fun z => absurd ((nI_eq (by omega) (by omega)).mp (q2.symm.trans (z.trans e1))) (by omega)⟩
  refine m_asideL (fun x' a1 a2 a3 a4 => ?_)
  intro p10 e10
  rw [nI_wide (by omega)] at e10
  have p10A : ∀ k, p10.A k = x'.A k := fun k => by rw [e10]; rfl
  have p10I : ∀ k, p10.I k = x'.I k := fun k => by rw [e10]; rfl
  refine m_drawnL (v0 := v0) (N := N) (T0 := tN (x.A 4)) (D0 := fun c => x.A 4 (12 + 12 * (n - 1) + c)) hn1 hn6 (by rw [p10I, a1]; exact e1) hlt (by rw [p10A, a3 4 (by decide)]; exact q2) (by omega) (by rw [e10, sL_L, if_pos rfl]) (by omega) (fun c hc => by rw [p10A, a3 4 (by decide)]) (fun y b1 b2 b3 b4 => ?_)
  refine m_sumL (by rw [b1, p10I, a1]; exact e1) hn1 hn6 b4 (m_backL (fun z c1 c2 c3 c4 => ⟨rfl, ?_⟩))
  have zI : ∀ k, z.I k = x.I k := fun k => by rw [c1, b1, p10I, a1]
  have zA : ∀ k, k ≠ 4 → k ≠ 25 → z.A k = x.A k := fun k h1 h2 => by rw [c3 k h1, b3 k h1, p10A, a3 k h2]
  have z4 : ∀ i, i < 126 → z.A 4 i = x.A 4 i := fun i hi => by rw [c4 i hi, b3 25 (by decide), p10A, a4 i hi]
  have zL : ∀ k, k ≠ 26 → z.L k = x.L k := fun k hk => by rw [c2, b2 k hk, e10, sL_L, if_neg hk, a2]
  obtain ⟨hN2, hO, hT, hM⟩ := h
  refine ⟨⟨by rw [zI]; exact hc, n, w, u, by rw [zI]; exact e1, by rw [zI]; exact e2, by rw [zI]; exact e3, ?_⟩, ?_, ?_, ?_⟩
  · rw [zA 5 (by decide) (by decide), zA 2 (by decide) (by decide)]
    exact PadN_c rfl rfl rfl (fun _ _ => rfl) (fun _ _ => rfl) (fun _ _ => ⟨rfl, rfl, rfl, rfl⟩) (fun _ _ => rfl) (fun _ _ => rfl) z4 (fun _ _ => rfl) (fun _ _ => rfl) g
  · unfold ObjR at hO ⊢
    rw [zL 7 (by decide), zL 8 (by decide), zA 9 (by decide) (by decide)]; exact hO
  · unfold TxtR at hT ⊢
    rw [zI, zA 10 (by decide) (by decide)]; exact hT
  · unfold ImsR at hM ⊢
    rw [zA 27 (by decide) (by decide), zA 28 (by decide) (by decide)]; exact hM
