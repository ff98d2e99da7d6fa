theorem sA_sA (x : St) (k : Nat) (a b : Nat → Int32) : (x.sA k a).sA k b = x.sA k b := by
  unfold St.sA
  congr 2
  funext j
  by_cases h : j = k
  · rw [if_pos h, if_pos h]
  · rw [if_neg h, if_neg h]; show (if j = k then a else x.2.2 j) = _; rw [if_neg h]
theorem sA_same (x : St) (k : Nat) : x.sA k (x.A k) = x := by
  have e : (fun j => if j = k then x.A k else x.2.2 j) = x.2.2 := by
    funext j
    by_cases h : j = k
    · rw [if_pos h, h]; rfl
    · rw [if_neg h]
  unfold St.sA
  rw [e]
  rfl
theorem and1 (y : Int32) : y &&& 1 = 0 ∨ y &&& 1 = 1 := by
  by_cases h : bt y 0 = true
  · refine Or.inr (b_ext fun i hi => ?_)
    rw [b_and, bt_one i hi]
    by_cases hi0 : i = 0
    · subst hi0; rw [h]; rfl
    · rw [decide_eq_false hi0, Bool.and_false]
  · refine Or.inl (b_ext fun i hi => ?_)
    rw [b_and, bt_one i hi, b_0]
    by_cases hi0 : i = 0
    · subst hi0; simp at h; rw [h]; rfl
    · rw [decide_eq_false hi0, Bool.and_false]
theorem m_hasX {x y : Int32} {Post : Int32 → Prop} (h1 : ¬ ((x >>> (y &&& 31)) &&& 1) = 0 → Post 1) (h0 : ((x >>> (y &&& 31)) &&& 1) = 0 → Post 0) : wpX12_has x y Post := by
  refine ⟨fun q => h0 ?_, fun q => h1 (by rw [q]; decide)⟩
  rcases and1 (x >>> (y &&& 31)) with e | e
  · exact e
  · exact absurd e q
theorem dI_in {row : Nat → Int32} {f ce : Nat} {force : Int32} {c : Nat} (hc : c < 12) : dI row f ce force 12 (f + c) = if ce.testBit c = true ∧ row (f + c) < force then force else row (f + c) := by
  unfold dI
  rw [show f + c - f = c by omega]
  by_cases h : ce.testBit c = true ∧ row (f + c) < force
  · rw [if_pos h, if_pos ⟨by omega, by omega, h.1, h.2⟩]
  · rw [if_neg h, if_neg (fun q => h ⟨q.2.2.1, q.2.2.2⟩)]
theorem dI_out {row : Nat → Int32} {f ce : Nat} {force : Int32} {j : Nat} (h : j < f ∨ f + 12 ≤ j) : dI row f ce force 12 j = row j := by
  unfold dI
  rw [if_neg (fun q => by omega)]
/-! a note pressed through, sheet by sheet, in either layout -/
def ftN (k pr i : Nat) : Int32 := fo (nI k) (nI pr) (nI i)
def cbit (ca : Int32) (s : Nat) : Bool := decide (¬ ((ca >>> ((nI s - 1) &&& 31)) &&& 1) = 0)
def cpc (ca : Int32) (T k pr i : Nat) : Bool := decide (0 < i) && (cbit ca (T + i) && decide (¬ ftN k pr i < 2))
def rwS (db dw cb cw : Nat) (ca : Int32) (T k pr ce : Nat) (r : Nat → Int32) : Nat → (Nat → Int32)
  | 0 => r
  | i + 1 => if cpc ca T k pr i = true then upd (dI (rwS db dw cb cw ca T k pr ce r i) (db + dw * (T + i)) ce (ftN k pr i) 12) (cb + cw * (T + i)) ((dI (rwS db dw cb cw ca T k pr ce r i) (db + dw * (T + i)) ce (ftN k pr i) 12) (cb + cw * (T + i)) ||| nI ce) else dI (rwS db dw cb cw ca T k pr ce r i) (db + dw * (T + i)) ce (ftN k pr i) 12
theorem rwS_s (db dw cb cw : Nat) (ca : Int32) (T k pr ce : Nat) (r : Nat → Int32) (i : Nat) : rwS db dw cb cw ca T k pr ce r (i + 1) = if cpc ca T k pr i = true then upd (dI (rwS db dw cb cw ca T k pr ce r i) (db + dw * (T + i)) ce (ftN k pr i) 12) (cb + cw * (T + i)) ((dI (rwS db dw cb cw ca T k pr ce r i) (db + dw * (T + i)) ce (ftN k pr i) 12) (cb + cw * (T + i)) ||| nI ce) else dI (rwS db dw cb cw ca T k pr ce r i) (db + dw * (T + i)) ce (ftN k pr i) 12 := rfl
/-- one step at an index outside -/
theorem rw_out {db dw cb cw : Nat} {ca : Int32} {T k pr ce : Nat} {r : Nat → Int32} {i j : Nat} (h1 : j < db + dw * (T + i) ∨ db + dw * (T + i) + 12 ≤ j) (h2 : j ≠ cb + cw * (T + i)) : rwS db dw cb cw ca T k pr ce r (i + 1) j = rwS db dw cb cw ca T k pr ce r i j := by
  rw [rwS_s]
  by_cases h : cpc ca T k pr i = true
  · rw [if_pos h, upd_ne h2, dI_out h1]
  · rw [if_neg h, dI_out h1]
theorem rw_dent {db dw cb cw : Nat} {ca : Int32} {T k pr ce : Nat} {r : Nat → Int32} {i c : Nat} (hc : c < 12) (h2 : db + dw * (T + i) + c ≠ cb + cw * (T + i)) : rwS db dw cb cw ca T k pr ce r (i + 1) (db + dw * (T + i) + c) = if ce.testBit c = true ∧ rwS db dw cb cw ca T k pr ce r i (db + dw * (T + i) + c) < ftN k pr i then ftN k pr i else rwS db dw cb cw ca T k pr ce r i (db + dw * (T + i) + c) := by
  rw [rwS_s]
  by_cases h : cpc ca T k pr i = true
  · rw [if_pos h, upd_ne h2, dI_in hc]
  · rw [if_neg h, dI_in hc]
theorem rw_copy {db dw cb cw : Nat} {ca : Int32} {T k pr ce : Nat} {r : Nat → Int32} {i : Nat} (h1 : cb + cw * (T + i) < db + dw * (T + i) ∨ db + dw * (T + i) + 12 ≤ cb + cw * (T + i)) : rwS db dw cb cw ca T k pr ce r (i + 1) (cb + cw * (T + i)) = if cpc ca T k pr i = true then rwS db dw cb cw ca T k pr ce r i (cb + cw * (T + i)) ||| nI ce else rwS db dw cb cw ca T k pr ce r i (cb + cw * (T + i)) := by
  rw [rwS_s]
  by_cases h : cpc ca T k pr i = true
  · rw [if_pos h, if_pos h, upd_at, dI_out h1]
  · rw [if_neg h, if_neg h, dI_out h1]
theorem mS_far {ca : Int32} {T k pr ce : Nat} {r : Nat → Int32} {j : Nat} (hj : j < 6 ∨ 84 ≤ j) : ∀ i, T + i ≤ 6 → rwS 12 12 6 1 ca T k pr ce r i j = r j
  | 0, _ => rfl
  | i + 1, hi => by
    rw [rw_out (by omega) (by omega)]
    exact mS_far hj i (by omega)
theorem kS_far {ca : Int32} {T k pr ce : Nat} {r : Nat → Int32} {j : Nat} (hj : j < 2 ∨ ∃ s, j = 2 + 14 * s) : ∀ i, T + i ≤ 6 → rwS 4 14 3 14 ca T k pr ce r i j = r j
  | 0, _ => rfl
  | i + 1, hi => by
    have e : (j < 4 + 14 * (T + i) ∨ 4 + 14 * (T + i) + 12 ≤ j) ∧ j ≠ 3 + 14 * (T + i) := by
      rcases hj with h | ⟨s, h⟩
      · exact ⟨by omega, by omega⟩
      · exact ⟨by omega, by omega⟩
    rw [rw_out e.1 e.2]
    exact kS_far hj i (by omega)
theorem mS_dent {ca : Int32} {T k pr ce : Nat} {r : Nat → Int32} {s c : Nat} (hs : s < 6) (hc : c < 12) : ∀ i, T + i ≤ 6 → rwS 12 12 6 1 ca T k pr ce r i (12 + 12 * s + c) = if T ≤ s ∧ s < T + i ∧ ce.testBit c = true ∧ r (12 + 12 * s + c) < ftN k pr (s - T) then ftN k pr (s - T) else r (12 + 12 * s + c)
  | 0, _ => by
    rw [if_neg (fun q => by omega)]; rfl
  | i + 1, hi => by
    have ih := mS_dent (ca := ca) (T := T) (k := k) (pr := pr) (ce := ce) (r := r) hs hc i (by omega)
    by_cases he : s = T + i
    · subst he
      rw [if_neg (fun q => by omega)] at ih
      rw [rw_dent hc (by omega), ih, show T + i - T = i by omega]
      by_cases h : ce.testBit c = true ∧ r (12 + 12 * (T + i) + c) < ftN k pr i
      · rw [if_pos h, if_pos ⟨by omega, by omega, h.1, h.2⟩]
      · rw [if_neg h, if_neg (fun q => h ⟨q.2.2.1, q.2.2.2⟩)]
    · rw [rw_out (by omega) (by omega), ih]
      by_cases h : T ≤ s ∧ s < T + i ∧ ce.testBit c = true ∧ r (12 + 12 * s + c) < ftN k pr (s - T)
      · rw [if_pos h, if_pos ⟨h.1, by omega, h.2.2⟩]
      · rw [if_neg h, if_neg (fun q => h ⟨q.1, by omega, q.2.2⟩)]
def PgR (pg st : Nat → Int32) : Prop := ∀ s, s < 6 → pg (2 + 14 * s) = st s ∧ pg (3 + 14 * s) = st (6 + s) ∧ ∀ c, c < 12 → pg (4 + 14 * s + c) = st (12 + 12 * s + c)
theorem PgR_rw {ca : Int32} {T k pr ce : Nat} {pg st : Nat → Int32} (h : PgR pg st) : ∀ i, T + i ≤ 6 → PgR (rwS 4 14 3 14 ca T k pr ce pg i) (rwS 12 12 6 1 ca T k pr ce st i)
  | 0, _ => h
  | i + 1, hi => by
    have ih := PgR_rw (ca := ca) (T := T) (k := k) (pr := pr) (ce := ce) h i (by omega)
    intro s hs
    obtain ⟨a1, a2, a3⟩ := ih s hs
    refine ⟨by rw [rw_out (by omega) (by omega), rw_out (by omega) (by omega)]; exact a1, ?_, fun c hc => ?_⟩
    · by_cases he : s = T + i
      · subst he
        have e1 := rw_copy (db := 4) (dw := 14) (cb := 3) (cw := 14) (ca := ca) (T := T) (k := k) (pr := pr) (ce := ce) (r := pg) (i := i) (by omega)
        have e2 := rw_copy (db := 12) (dw := 12) (cb := 6) (cw := 1) (ca := ca) (T := T) (k := k) (pr := pr) (ce := ce) (r := st) (i := i) (by omega)
        rw [Nat.one_mul] at e2
        rw [e1, e2, a2]
      · rw [rw_out (by omega) (by omega), rw_out (by omega) (by omega)]; exact a2
    · by_cases he : s = T + i
      · subst he
        rw [rw_dent hc (by omega), rw_dent hc (by omega), a3 c hc]
      · rw [rw_out (by omega) (by omega), rw_out (by omega) (by omega)]; exact a3 c hc
/-! the model presses -/
theorem m_dentI {x : St} {s ce : Nat} {a1 a2 a4 f : Int32} (hs : s < 6) (hce : ce < 2 ^ 31) {Post : St → Prop} {KX : Int32 → Int32 → Int32 → Int32 → Int32 → Int32 → St → Prop} (h : KX a1 a2 (nI ce) a4 (nI s) f (x.sA 4 (dI (x.A 4) (12 + 12 * s) ce f 12))) : ∃ n, wLX12_dentAll_57 Post KX n (a1, a2, nI ce, a4, nI s, f, 0, x) := by
  have e0 : ((a1, a2, nI ce, a4, nI s, f, 0, x) : Int32 × Int32 × Int32 × Int32 × Int32 × Int32 × Int32 × St) = (fun i => (a1, a2, nI ce, a4, nI s, f, nI i, x.sA 4 (dI (x.A 4) (12 + 12 * s) ce f i))) 0 := by
    show _ = (a1, a2, nI ce, a4, nI s, f, nI 0, x.sA 4 (dI (x.A 4) (12 + 12 * s) ce f 0))
    rw [dI_0, sA_same]; rfl
  rw [e0]
  refine for_rule (F := fun self z => wlX12_dentAll_57 Post KX self z.1 z.2.1 z.2.2.1 z.2.2.2.1 z.2.2.2.2.1 z.2.2.2.2.2.1 z.2.2.2.2.2.2.1 z.2.2.2.2.2.2.2) 12 (fun i => (a1, a2, nI ce, a4, nI s, f, nI i, x.sA 4 (dI (x.A 4) (12 + 12 * s) ce f i))) ?_ ?_
  · intro self i hi hself
    dsimp only at hself ⊢
    unfold wlX12_dentAll_57
    refine ⟨fun z => absurd z (nI_ge (b := 12) hi (by decide)), fun _ y ey => ?_⟩
    have e : ((12 : Int32) + ((12 : Int32) * nI s)) + nI i = nI (12 + 12 * s + i) := by
      show (nI 12 + nI 12 * nI s) + nI i = _
      rw [pk_mul, nI_add, nI_add]
    rw [e] at ey
    subst ey
    have hA : (x.sA 4 (dI (x.A 4) (12 + 12 * s) ce f i)).A 4 = dI (x.A 4) (12 + 12 * s) ce f i := rfl
    have keep : dI (x.A 4) (12 + 12 * s) ce f (i + 1) = dI (x.A 4) (12 + 12 * s) ce f i → wjX12_dentAll_109 Post self KX a1 a2 (nI ce) a4 (nI s) f (nI i) (nI (12 + 12 * s + i)) (nI (12 + 12 * s + i)) (x.sA 4 (dI (x.A 4) (12 + 12 * s) ce f i)) := fun q => by
      unfold wjX12_dentAll_109 wjX12_dentAll_116
      rw [ncl (by omega), hA, fa_upd_same rfl]
      refine ⟨vp_in_nI (by omega) (by omega), vp_in_nI (by omega) (by omega), fun y ey z ez => ?_⟩
      subst ey; subst ez
      rw [nI_1, sA_sA, ← q]; exact hself
    refine m_has hce (by omega) (fun hb => b1e ?_) (fun hb => b0e (keep (dI_no (fun q => by rw [hb] at q; exact absurd q.1 (by decide)))))
    rw [ncl (by omega), hA, dI_at]
    refine ⟨vp_in_nI (by omega) (by omega), fun q => keep (dI_no (fun w => by have := w.2; rw [fa_lt] at this; rw [fa_le] at q; omega)), fun q => ?_⟩
    unfold wjX12_dentAll_116
    refine ⟨vp_in_nI (by omega) (by omega), fun y ey z ez => ?_⟩
    rw [ncl (by omega), hA] at ey
    subst ey; subst ez
    rw [nI_1, sA_sA, ← dI_yes ⟨hb, by rw [fa_lt]; rw [fa_le] at q; omega⟩]; exact hself
  · intro self
    dsimp only
    unfold wlX12_dentAll_57
    exact ⟨fun _ => h, fun z => absurd (nI_le (a := 12) (b := 12) (by decide) (by decide)) z⟩
theorem m_dentL {x : St} {n T k pr ce : Nat} (eI : x.I 0 = nI n) (hn : n ≤ 6) (hT : T ≤ n) (hk : k < 6) (hce : ce < 4096) {Post : St → Prop} {KX : St → Prop} (h : KX (x.sA 4 (rwS 12 12 6 1 (x.I 1) T k pr ce (x.A 4) (n - T)))) : ∃ n, wLX12_dentAll_33 Post KX n (nI k, nI pr, nI ce, nI T, nI T, x) := by
  have e0 : ((nI k, nI pr, nI ce, nI T, nI T, x) : Int32 × Int32 × Int32 × Int32 × Int32 × St) = (fun i => (nI k, nI pr, nI ce, nI T, nI (T + i), x.sA 4 (rwS 12 12 6 1 (x.I 1) T k pr ce (x.A 4) i))) 0 := by
    show _ = (nI k, nI pr, nI ce, nI T, nI T, x.sA 4 (x.A 4))
    rw [sA_same]
  rw [e0]
  refine for_rule (F := fun self z => wlX12_dentAll_33 Post KX self z.1 z.2.1 z.2.2.1 z.2.2.2.1 z.2.2.2.2.1 z.2.2.2.2.2) (n - T) (fun i => (nI k, nI pr, nI ce, nI T, nI (T + i), x.sA 4 (rwS 12 12 6 1 (x.I 1) T k pr ce (x.A 4) i))) ?_ ?_
  · intro self i hi hself
    dsimp only at hself ⊢
    unfold wlX12_dentAll_33
    have eI' : (x.sA 4 (rwS 12 12 6 1 (x.I 1) T k pr ce (x.A 4) i)).I 0 = nI n := eI
    rw [eI', pk_sub (by omega), show T + i - T = i by omega]
    refine ⟨fun z => absurd z (nI_ge (by omega) (by omega)), fun _ => m_force hk ?_⟩
    refine m_dentI (by omega) (by omega) ?_
    rw [sA_sA]
    have hA : (x.sA 4 (rwS 12 12 6 1 (x.I 1) T k pr ce (x.A 4) i)).A 4 = rwS 12 12 6 1 (x.I 1) T k pr ce (x.A 4) i := rfl
    rw [hA]
    have keep : cpc (x.I 1) T k pr i = false → ∀ z : Int32, z = nI (T + i) + 1 → self (nI k, nI pr, nI ce, nI T, z, x.sA 4 (dI (rwS 12 12 6 1 (x.I 1) T k pr ce (x.A 4) i) (12 + 12 * (T + i)) ce (fo (nI k) (nI pr) (nI i)) 12)) := fun q z ez => by
      subst ez
      rw [nI_1]
      have := rwS_s 12 12 6 1 (x.I 1) T k pr ce (x.A 4) i
      rw [if_neg (by rw [q]; decide)] at this
      rw [show T + (i + 1) = T + i + 1 by omega, show rwS 12 12 6 1 (x.I 1) T k pr ce (x.A 4) (i + 1) = _ from this] at hself
      exact hself
    refine ⟨fun q => keep ?_, fun q => ?_⟩
    · have : i = 0 := by
        rw [fa_le, nI_toInt (by omega), nI_toInt (by omega)] at q
        omega
      rw [this]; rfl
    · have hi0 : 0 < i := by
        rcases Nat.eq_zero_or_pos i with e | e
        · exact absurd (by rw [e]; exact nI_le (Nat.le_refl _) (by omega)) q
        · exact e
      refine m_hasX (fun hb => b1e ?_) (fun hb => b0e (keep ?_))
      · refine ⟨fun q2 => keep ?_, fun q2 => ?_⟩
        · unfold cpc
          rw [show decide (¬ ftN k pr i < 2) = false from decide_eq_false (fun w => w q2), Bool.and_false, Bool.and_false]
        · have hc : cpc (x.I 1) T k pr i = true := by
            unfold cpc cbit
            rw [decide_eq_true hi0, decide_eq_true (show ¬ ftN k pr i < 2 from q2), decide_eq_true (show ¬ ((x.I 1 >>> ((nI (T + i) - 1) &&& 31)) &&& 1) = 0 from hb)]; rfl
          have e6 : (6 : Int32) + nI (T + i) = nI (6 + (T + i)) := nI_add 6 _
          rw [e6, ncl (by omega)]
          refine ⟨vp_in_nI (by omega) (by omega), vp_in_nI (by omega) (by omega), fun y ey z ez => ?_⟩
          subst ey; subst ez
          rw [nI_1, sA_sA]
          have := rwS_s 12 12 6 1 (x.I 1) T k pr ce (x.A 4) i
          rw [if_pos hc, Nat.one_mul] at this
          rw [show T + (i + 1) = T + i + 1 by omega, show rwS 12 12 6 1 (x.I 1) T k pr ce (x.A 4) (i + 1) = _ from this] at hself
          exact hself
      · unfold cpc cbit
        rw [show decide (¬ ((x.I 1 >>> ((nI (T + i) - 1) &&& 31)) &&& 1) = 0) = false from decide_eq_false (fun w => w hb), Bool.false_and, Bool.and_false]
  · intro self
    dsimp only
    unfold wlX12_dentAll_33
    have eI' : (x.sA 4 (rwS 12 12 6 1 (x.I 1) T k pr ce (x.A 4) (n - T))).I 0 = nI n := eI
    rw [eI', show T + (n - T) = n by omega]
    exact ⟨fun _ => h, fun z => absurd (nI_le (Nat.le_refl n) (by omega)) z⟩
/-- the ink first -/
def inkR (k ce j : Nat) (r : Nat → Int32) : Nat → Int32 := if hink (nI k) = 0 then r else upd r j (r j ||| nI ce)
theorem m_dentAll {x : St} {n T k pr ce : Nat} (eI : x.I 0 = nI n) (hn : n ≤ 6) (eT : x.A 4 125 = nI T) (hT : T ≤ n) (hk : k < 6) (hce : ce < 4096) {Post : St → Prop} (h : Post (x.sA 4 (rwS 12 12 6 1 (x.I 1) T k pr ce (inkR k ce T (x.A 4)) (n - T)))) : wpX12_dentAll (nI k) (nI pr) (nI ce) x Post := by
  intro r er
  rw [eT] at er
  subst er
  unfold inkR at h
  refine m_hasInk hk ⟨fun q => ?_, fun q => ?_⟩
  · rw [if_pos q] at h
    exact m_dentL eI hn hT hk hce h
  · rw [if_neg q] at h
    have e0 : (0 : Int32) + nI T = nI T := by
      show nI 0 + nI T = _
      rw [nI_add, Nat.zero_add]
    rw [e0, ncl (by omega)]
    refine ⟨vp_in_nI (by omega) (by omega), vp_in_nI (by omega) (by omega), fun y ey => ?_⟩
    subst ey
    refine m_dentL (x := x.sA 4 (upd (x.A 4) T (x.A 4 T ||| nI ce))) eI hn hT hk hce ?_
    rw [sA_sA]
    exact h
def wrS (x : St) (n k pr ce : Nat) : Nat → Int32 := upd (upd (upd (upd (upd (rwS 12 12 6 1 (x.I 1) (tN (x.A 4)) k pr ce (inkR k ce (tN (x.A 4)) (x.A 4)) (n - tN (x.A 4))) (84 + 4 * mN (x.A 4)) (nI k)) (85 + 4 * mN (x.A 4)) (nI pr)) (86 + 4 * mN (x.A 4)) (nI ce)) (87 + 4 * mN (x.A 4)) (nI (tN (x.A 4)))) 124 (nI (mN (x.A 4) + 1))
theorem inkR_far {k ce j i : Nat} {r : Nat → Int32} (h : i ≠ j) : inkR k ce j r i = r i := by
  unfold inkR
  by_cases q : hink (nI k) = 0
  · rw [if_pos q]
  · rw [if_neg q, upd_ne h]
theorem m_writeNow {x : St} {n k pr ce : Nat} (eI : x.I 0 = nI n) (hn : n ≤ 6) (hW : WF (x.A 4) n) (hm : mN (x.A 4) < 10) (hk : k < 6) (hce : ce < 4096) {Post : St → Prop} (h : Post (x.sA 4 (wrS x n k pr ce))) : wpX12_writeNow (nI k) (nI pr) (nI ce) x Post := by
  obtain ⟨w1, w2, w3, w4, w5, w6⟩ := hW
  refine m_dentAll eI hn w1 w2 hk hce ?_
  intro r er
  have far : ∀ j, 84 ≤ j → rwS 12 12 6 1 (x.I 1) (tN (x.A 4)) k pr ce (inkR k ce (tN (x.A 4)) (x.A 4)) (n - tN (x.A 4)) j = x.A 4 j := fun j hj => by
    rw [mS_far (by omega) _ (by omega), inkR_far (by omega)]
  have e84 : (84 : Int32) + (4 : Int32) * ((x.sA 4 (rwS 12 12 6 1 (x.I 1) (tN (x.A 4)) k pr ce (inkR k ce (tN (x.A 4)) (x.A 4)) (n - tN (x.A 4)))).A 4 124) = nI (84 + 4 * mN (x.A 4)) := by
    show (84 : Int32) + (4 : Int32) * (rwS 12 12 6 1 (x.I 1) (tN (x.A 4)) k pr ce (inkR k ce (tN (x.A 4)) (x.A 4)) (n - tN (x.A 4)) 124) = _
    rw [far 124 (by omega), w3]
    show nI 84 + nI 4 * nI _ = _
    rw [pk_mul, nI_add]
  rw [e84] at er
  subst er
  rw [show nI (84 + 4 * mN (x.A 4)) + 1 = nI (85 + 4 * mN (x.A 4)) by rw [nI_1]; congr 1; omega, show nI (84 + 4 * mN (x.A 4)) + 2 = nI (86 + 4 * mN (x.A 4)) by show _ + nI 2 = _; rw [nI_add]; congr 1; omega, show nI (84 + 4 * mN (x.A 4)) + 3 = nI (87 + 4 * mN (x.A 4)) by show _ + nI 3 = _; rw [nI_add]; congr 1; omega]
  rw [ncl (by omega), ncl (by omega), ncl (by omega), ncl (by omega)]
  refine ⟨vp_in_nI (by omega) (by omega), fun p3 e3 => ⟨vp_in_nI (by omega) (by omega), fun p4 e4 => ⟨vp_in_nI (by omega) (by omega), fun p5 e5 => ⟨vp_in_nI (by omega) (by omega), fun p6 e6 p7 e7 => ?_⟩⟩⟩⟩
  have a5 : p5.A 4 125 = nI (tN (x.A 4)) := by
    rw [e5, sA_A, if_pos rfl, upd_ne (by omega), e4, sA_A, if_pos rfl, upd_ne (by omega), e3, sA_A, if_pos rfl, upd_ne (by omega)]
    exact (far 125 (by omega)).trans w1
  have a6 : p6.A 4 124 + 1 = nI (mN (x.A 4) + 1) := by
    rw [e6, sA_A, if_pos rfl, upd_ne (by omega), e5, sA_A, if_pos rfl, upd_ne (by omega), e4, sA_A, if_pos rfl, upd_ne (by omega), e3, sA_A, if_pos rfl, upd_ne (by omega)]
    show rwS 12 12 6 1 _ _ _ _ _ _ _ 124 + 1 = _
    rw [far 124 (by omega), w3]; exact nI_1 _
  rw [a6] at e7
  rw [a5] at e6
  have : p7 = x.sA 4 (wrS x n k pr ce) := by
    rw [e7, e6, e5, e4, e3]
    simp only [sA_sA, sA_A, if_true]
    rfl
  rw [this]; exact h
