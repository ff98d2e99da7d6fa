def pV (i : Nat) : Int32 := nI (10 * (i / 9) + i % 9 + 1)
def fsP (P : Nat → Bool) : Nat → Int32
  | 0 => -1
  | i + 1 => if fsP P i = -1 ∧ P i = true then pV i else fsP P i
theorem fsP_s (P : Nat → Bool) (i : Nat) : fsP P (i + 1) = if fsP P i = -1 ∧ P i = true then pV i else fsP P i := rfl
def cnP (P : Nat → Bool) : Nat → Nat
  | 0 => 0
  | i + 1 => if P i = true then cnP P i + 1 else cnP P i
theorem cnP_s (P : Nat → Bool) (i : Nat) : cnP P (i + 1) = if P i = true then cnP P i + 1 else cnP P i := rfl
theorem cnP_le (P : Nat → Bool) : ∀ i, cnP P i ≤ i
  | 0 => Nat.le_refl 0
  | i + 1 => by
    have := cnP_le P i
    rw [cnP_s]
    split <;> omega
def mdP (P : Nat → Bool) : Nat → Int32
  | 0 => -1
  | d + 1 => if P (53 - d) = true then pV (53 - d) else mdP P d
theorem mdP_s (P : Nat → Bool) (d : Nat) : mdP P (d + 1) = if P (53 - d) = true then pV (53 - d) else mdP P d := rfl
def mcP (P : Nat → Bool) : Nat → Nat
  | 0 => 0
  | d + 1 => if P (53 - d) = true then mcP P d + 1 else mcP P d
theorem mcP_s (P : Nat → Bool) (d : Nat) : mcP P (d + 1) = if P (53 - d) = true then mcP P d + 1 else mcP P d := rfl
def lwP (P : Nat → Bool) : Nat → Nat → Int32
  | _, 0 => -1
  | j, m + 1 => if P j = true then pV j else lwP P (j + 1) m
theorem lwP_s (P : Nat → Bool) (j m : Nat) : lwP P j (m + 1) = if P j = true then pV j else lwP P (j + 1) m := rfl
theorem pV_ne (i : Nat) (hi : i < 1000) : ¬ pV i = -1 := by
  intro h
  have h1 : (pV i).toInt = ((10 * (i / 9) + i % 9 + 1 : Nat) : Int) := nI_toInt (by omega)
  rw [h] at h1
  have h2 : (-1 : Int32).toInt = -1 := by decide
  omega
theorem md_lw (P : Nat → Bool) : ∀ d, d ≤ 54 → mdP P d = lwP P (54 - d) d
  | 0, _ => rfl
  | d + 1, hd => by
    rw [mdP_s, lwP_s, md_lw P d (by omega), show 54 - (d + 1) = 53 - d by omega, show 53 - d + 1 = 54 - d by omega]
theorem fs_lw (P : Nat → Bool) : ∀ m j, j + m ≤ 54 → fsP P (j + m) = if fsP P j = -1 then lwP P j m else fsP P j
  | 0, j, _ => by
    show fsP P j = if fsP P j = -1 then -1 else fsP P j
    by_cases h : fsP P j = -1
    · rw [if_pos h]; exact h
    · rw [if_neg h]
  | m + 1, j, hj => by
    have hs := fsP_s P j
    rw [show j + (m + 1) = (j + 1) + m by omega, fs_lw P m (j + 1) (by omega), lwP_s]
    by_cases h : fsP P j = -1
    · by_cases hp : P j = true
      · rw [if_pos ⟨h, hp⟩] at hs
        rw [hs, if_neg (pV_ne j (by omega)), if_pos h, if_pos hp]
      · rw [if_neg (fun q => hp q.2)] at hs
        rw [hs, if_pos h, if_pos h, if_neg hp]
    · rw [if_neg (fun q => h q.1)] at hs
      rw [hs, if_neg h, if_neg h]
theorem md_fs (P : Nat → Bool) : mdP P 54 = fsP P 54 := by
  rw [md_lw P 54 (by omega)]
  have := fs_lw P 54 0 (by omega)
  rw [show 0 + 54 = 54 by omega] at this
  rw [this, if_pos (show fsP P 0 = -1 from rfl)]
theorem mc_cn (P : Nat → Bool) : ∀ d, d ≤ 54 → cnP P (54 - d) + mcP P d = cnP P 54
  | 0, _ => rfl
  | d + 1, hd => by
    have ih := mc_cn P d (by omega)
    rw [mcP_s]
    have e : 54 - d = (53 - d) + 1 := by omega
    rw [e, cnP_s] at ih
    rw [show 54 - (d + 1) = 53 - d by omega]
    by_cases hp : P (53 - d) = true
    · rw [if_pos hp] at ih ⊢; omega
    · rw [if_neg hp] at ih ⊢; omega
/-- does pen i fit -/
def pnP (se ex : Nat → Int32) (d c : Int32) (i : Nat) : Bool := okR se ex (fo (nI (i / 9)) (nI (i % 9 + 1)) d) 12 && fitB (bitsN (muB se ex) 12) (bitsN (maB se ex (fo (nI (i / 9)) (nI (i % 9 + 1)) d)) 12) c
def penV (se ex : Nat → Int32) (d c x5 : Int32) : Int32 := if x5 = 0 then nI (cnP (pnP se ex d c) 54) else fsP (pnP se ex d c) 54
def penOK (x1 x2 x3 x4 x5 : Int32) (n m : Nat) : Prop := (0 ≤ x1.toInt ∧ x1.toInt < n) ∧ (0 ≤ x2.toInt ∧ x2.toInt < ((2 ^ m : Nat) : Int)) ∧ (0 ≤ x3.toInt ∧ x3.toInt ≤ 5) ∧ (1 ≤ x4.toInt ∧ x4.toInt ≤ 4095) ∧ 0 ≤ x5.toInt ∧ x5.toInt ≤ 1
theorem up6 (t : Nat → St) (a b : St) : upS (upS t 6 a) 6 b = upS t 6 b := by
  funext j; unfold upS
  by_cases hj : j = 6
  · rw [if_pos hj, if_pos hj]
  · rw [if_neg hj, if_neg hj, if_neg hj]
theorem k_penL {t : Nat → St} {x0 : St} {se ex : Nat → Int32} {d c x5 : Int32} (h0 : ∀ c, c < 12 → x0.A 0 c = se c) (h1 : ∀ c, c < 12 → x0.A 1 c = ex c) {Post : Int32 → (Nat → St) → Prop} {KX : Int32 → Int32 → Int32 → (Nat → St) → Prop} (h : ∀ y : St, KX x5 (nI (cnP (pnP se ex d c) 54)) (fsP (pnP se ex d c) 54) (upS t 6 y)) : ∃ n, wLX11_pen_94 Post KX n (d, c, x5, 0, -1, 0, upS t 6 x0) := by
  refine it_rule (F := fun self z => wlX11_pen_94 Post KX self z.1 z.2.1 z.2.2.1 z.2.2.2.1 z.2.2.2.2.1 z.2.2.2.2.2.1 z.2.2.2.2.2.2) (fun z => ∃ (k : Nat) (y : St), z = (d, c, x5, nI (cnP (pnP se ex d c) (9 * k)), fsP (pnP se ex d c) (9 * k), nI k, upS t 6 y) ∧ k ≤ 6 ∧ y.2 = x0.2) (fun z => 6 - z.2.2.2.2.2.1.toNatClampNeg) ?_ _ ⟨0, x0, rfl, by omega, rfl⟩
  rintro self z ⟨k, y, rfl, hk, ey⟩ hself
  dsimp only at hself ⊢
  unfold wlX11_pen_94
  refine pk_le 6 k (fun hle => ?_) (fun hlt => ?_)
  · have e6 : k = 6 := by omega
    subst e6
    exact h y
  · refine it_rule (F := fun self2 z => wlX11_pen_104 Post _ self2 z.1 z.2.1 z.2.2.1 z.2.2.2.1 z.2.2.2.2.1 z.2.2.2.2.2.1 z.2.2.2.2.2.2.1 z.2.2.2.2.2.2.2) (fun z => ∃ (j : Nat) (y : St), z = (d, c, x5, nI (cnP (pnP se ex d c) (9 * k + j)), fsP (pnP se ex d c) (9 * k + j), nI k, nI (1 + j), upS t 6 y) ∧ j ≤ 9 ∧ y.2 = x0.2) (fun z => 10 - z.2.2.2.2.2.2.1.toNatClampNeg) ?_ _ ⟨0, y, rfl, by omega, ey⟩
    rintro self2 z ⟨j, y, rfl, hj, ey⟩ hself2
    dsimp only at hself2 ⊢
    unfold wlX11_pen_104
    refine pk_lt 9 (1 + j) (fun hlt9 => ?_) (fun hle9 => ?_)
    · have e9 : j = 9 := by omega
      subst e9
      intro z ez
      subst ez
      rw [nI_1]
      exact hself _ ⟨k + 1, y, by rw [show 9 * (k + 1) = 9 * k + 9 by omega], by omega, ey⟩ (by dsimp only; rw [ncl (by omega), ncl (by omega)]; omega)
    · unfold wpX5_forceOf
      have ei : (9 * k + j) / 9 = k := by omega
      have em : (9 * k + j) % 9 = j := by omega
      have hcl := cnP_le (pnP se ex d c) (9 * k + j)
      have hcn := cnP_s (pnP se ex d c) (9 * k + j)
      have hfs := fsP_s (pnP se ex d c) (9 * k + j)
      have epn : pnP se ex d c (9 * k + j) = (okR se ex (fo (nI k) (nI (1 + j)) d) 12 && fitB (bitsN (muB se ex) 12) (bitsN (maB se ex (fo (nI k) (nI (1 + j)) d)) 12) c) := by
        unfold pnP
        rw [ei, em, show j + 1 = 1 + j by omega]
      have next : ∀ (y' : St) (a b : Int32), y'.2 = x0.2 → a = nI (cnP (pnP se ex d c) (9 * k + j + 1)) → b = fsP (pnP se ex d c) (9 * k + j + 1) → self2 (d, c, x5, a, b, nI k, nI (1 + j) + 1, upS t 6 y') := by
        intro y' a b e1 e2 e3
        rw [nI_1, e2, e3]
        exact hself2 _ ⟨j + 1, y', by rw [show 9 * k + (j + 1) = 9 * k + j + 1 by omega, show 1 + (j + 1) = 1 + j + 1 by omega], by omega, e1⟩ (by dsimp only; rw [ncl (by omega), ncl (by omega)]; omega)
      refine k_guess (x := y) (se := se) (ex := ex) (fun c hc => by rw [← h0 c hc]; show y.2.2 0 c = x0.2.2 0 c; rw [ey]) (fun c hc => by rw [← h1 c hc]; show y.2.2 1 c = x0.2.2 1 c; rw [ey]) (fun hy y' g1 g2 g3 => ?_) (fun hno y' g1 => ?_)
      · intro t11 et
        rw [up6] at et
        subst et
        rw [hy, Bool.true_and] at epn
        refine b1e (k_isFit ?_)
        rw [show upS t 6 y' 6 = y' from rfl, g2, g3]
        cases hf : fitB (bitsN (muB se ex) 12) (bitsN (maB se ex (fo (nI k) (nI (1 + j)) d)) 12) c with
        | false =>
          rw [hf] at epn
          rw [epn, if_neg (by decide)] at hcn
          rw [epn, if_neg (fun q => absurd q.2 (by decide))] at hfs
          refine b0e ?_
          intro z ez
          subst ez
          exact next y' _ _ (g1.trans ey) (by rw [hcn]) hfs.symm
        | true =>
          rw [hf] at epn
          rw [epn, if_pos (by decide)] at hcn
          refine b1e ?_
          intro z ez
          subst ez
          have ec : nI (cnP (pnP se ex d c) (9 * k + j)) + 1 = nI (cnP (pnP se ex d c) (9 * k + j + 1)) := by rw [nI_1, hcn]
          refine ⟨fun q z ez => ?_, fun q z ez y2 ey2 => ?_⟩
          · subst ez
            rw [if_neg (fun w => q w.1)] at hfs
            exact next y' _ _ (g1.trans ey) ec hfs.symm
          · subst ez; subst ey2
            rw [if_pos ⟨q, epn⟩] at hfs
            refine next y' _ _ (g1.trans ey) ec ?_
            rw [hfs]
            unfold pV
            rw [ei, em]
            show nI 10 * nI k + nI (1 + j) = _
            rw [pk_mul, nI_add]; congr 1; omega
      · intro t11 et
        rw [up6] at et
        subst et
        rw [hno, Bool.false_and] at epn
        rw [epn, if_neg (by decide)] at hcn
        rw [epn, if_neg (fun q => absurd q.2 (by decide))] at hfs
        refine b0e ?_
        intro z ez
        subst ez
        exact next y' _ _ (g1.trans ey) (by rw [hcn]) hfs.symm
theorem m_penL {x : St} {n s K : Nat} {d c x5 : Int32} (hW : WF (x.A 4) n) (hn : n ≤ 6) (hs : s < n) (hK : K < 2 ^ 31) {Post : Int32 → St → Prop} {KX : Int32 → Int32 → Int32 → St → Prop} (h : ∀ x' : St, x'.2 = x.2 → (∀ k, k ≠ 21 → k ≠ 22 → x'.I k = x.I k) → KX x5 (nI (mcP (pnP (seS (x.A 4) s) (exS (x.A 4) s K) d c) 54)) (mdP (pnP (seS (x.A 4) s) (exS (x.A 4) s K) d c) 54) x') : ∃ n, wLX12_pen_67 Post KX n (nI s, nI K, d, c, x5, 0, -1, 53, x) := by
  generalize eP : pnP (seS (x.A 4) s) (exS (x.A 4) s K) d c = P at h
  refine it_rule (F := fun self z => wlX12_pen_67 Post KX self z.1 z.2.1 z.2.2.1 z.2.2.2.1 z.2.2.2.2.1 z.2.2.2.2.2.1 z.2.2.2.2.2.2.1 z.2.2.2.2.2.2.2.1 z.2.2.2.2.2.2.2.2) (fun z => ∃ (e : Nat) (y : St), z = (nI s, nI K, d, c, x5, nI (mcP P e), mdP P e, nI (54 - e) + (-1), y) ∧ e ≤ 54 ∧ y.2 = x.2 ∧ ∀ k, k ≠ 21 → k ≠ 22 → y.I k = x.I k) (fun z => (z.2.2.2.2.2.2.2.1 + 1).toNatClampNeg) ?_ _ ⟨0, x, by rw [show nI (54 - 0) + (-1) = 53 by decide]; rfl, by omega, rfl, fun _ _ _ => rfl⟩
  rintro self z ⟨e, y, rfl, he, g1, g2⟩ hself
  dsimp only at hself ⊢
  unfold wlX12_pen_67
  by_cases h54 : e = 54
  · subst h54
    exact ⟨fun _ => h y g1 g2, fun q => absurd (by decide) q⟩
  · have ek : nI (54 - e) + (-1) = nI (53 - e) := by
      have := pk_m1 (53 - e)
      rw [show 53 - e + 1 = 54 - e by omega] at this
      exact this
    have hA : y.A 4 = x.A 4 := by show y.2.2 4 = x.2.2 4; rw [g1]
    rw [ek]
    have ed : nI (53 - e) / (9 : Int32) = nI ((53 - e) / 9) := pk_div (d := 9) (by omega) (by decide) (by decide)
    have er : nI (53 - e) - nI (53 - e) / (9 : Int32) * 9 = nI ((53 - e) % 9) := pk_rem (d := 9) (by omega) (by decide) (by decide)
    have hmc := mcP_s P e
    have hmd := mdP_s P e
    refine ⟨fun q => absurd q (nI_pos (by omega)), fun _ => ?_⟩
    rw [er, ed, nI_1]
    have next : ∀ (y' : St) (a b : Int32), y'.2 = x.2 → (∀ k, k ≠ 21 → k ≠ 22 → y'.I k = x.I k) → a = nI (mcP P (e + 1)) → b = mdP P (e + 1) → self (nI s, nI K, d, c, x5, a, b, nI (53 - e) + (-1), y') := by
      intro y' a b f1 f2 f3 f4
      rw [f3, f4]
      refine hself _ ⟨e + 1, y', by rw [show 54 - (e + 1) = 53 - e by omega], by omega, f1, f2⟩ ?_
      dsimp only
      rw [ek, nI_1, ncl (by omega)]
      have : nI (53 - e) + (-1) + 1 = nI (53 - e) := by
        rw [Int32.add_assoc]
        have : (-1 : Int32) + 1 = 0 := by decide
        rw [this, Int32.add_zero]
      rw [this, ncl (by omega)]
      omega
    refine m_force (by omega) ?_
    refine m_isLost (n := n) (by rw [hA]; exact hW) hn hs hK (se := seS (x.A 4) s) (ex := exS (x.A 4) s K) (fun _ _ => by rw [hA]; rfl) (fun _ _ => by rw [hA]; rfl) (fun x' f1 f2 f3 f4 => ?_)
    have f1' : x'.2 = x.2 := f1.trans g1
    have f2' : ∀ k, k ≠ 21 → k ≠ 22 → x'.I k = x.I k := fun k k1 k2 => (f2 k k1 k2).trans (g2 k k1 k2)
    have epn : P (53 - e) = (okR (seS (x.A 4) s) (exS (x.A 4) s K) (fo (nI ((53 - e) / 9)) (nI ((53 - e) % 9 + 1)) d) 12 && fitB (bitsN (muB (seS (x.A 4) s) (exS (x.A 4) s K)) 12) (bitsN (maB (seS (x.A 4) s) (exS (x.A 4) s K) (fo (nI ((53 - e) / 9)) (nI ((53 - e) % 9 + 1)) d)) 12) c) := by rw [← eP]; rfl
    have no : P (53 - e) = false → wjX12_pen_111 Post self KX (nI s) (nI K) d c x5 (nI (mcP P e)) (mdP P e) (nI (53 - e)) 0 x' := by
      intro hp
      rw [hp, if_neg (by decide)] at hmc hmd
      unfold wjX12_pen_111
      refine b0e ?_
      unfold wjX12_pen_125
      intro a ea
      refine b0e ?_
      intro z ez
      subst ez
      refine next x' _ _ f1' f2' ?_ hmd.symm
      rw [ea, hmc]
      show nI (mcP P e) + nI 0 = _
      rw [nI_add]; rfl
    have yes : P (53 - e) = true → wjX12_pen_111 Post self KX (nI s) (nI K) d c x5 (nI (mcP P e)) (mdP P e) (nI (53 - e)) 1 x' := by
      intro hp
      rw [hp, if_pos rfl] at hmc hmd
      unfold wjX12_pen_111
      refine b1e ?_
      unfold wjX12_pen_125
      intro a ea
      refine b1e ?_
      intro b eb z ez
      subst ez
      refine next x' _ _ f1' f2' ?_ ?_
      · rw [ea, hmc]; exact nI_1 _
      · rw [eb, hmd, er, ed]
        unfold pV
        show nI 10 * nI _ + nI _ + nI 1 = _
        rw [pk_mul, nI_add, nI_add]
    cases ho : okR (seS (x.A 4) s) (exS (x.A 4) s K) (fo (nI ((53 - e) / 9)) (nI ((53 - e) % 9 + 1)) d) 12 with
    | false =>
      rw [ho] at epn
      exact b0e (no epn)
    | true =>
      rw [ho] at epn
      refine b1e (m_fits ?_)
      rw [f3, f4]
      cases hf : fitB (bitsN (muB (seS (x.A 4) s) (exS (x.A 4) s K)) 12) (bitsN (maB (seS (x.A 4) s) (exS (x.A 4) s K) (fo (nI ((53 - e) / 9)) (nI ((53 - e) % 9 + 1)) d)) 12) c with
      | false =>
        rw [hf] at epn
        exact b0e (no epn)
      | true =>
        rw [hf] at epn
        exact b1e (yes epn)
theorem k_pen {t : Nat → St} {st : Nat → Int32} {n : Nat} (hR : RP ((t 2).A 0) (t 2) st) (hW : WF st n) (hn : n ≤ 6) (eI : (t 2).I 3 = nI n) {x1 x2 x3 x4 x5 : Int32} {Post : Int32 → (Nat → St) → Prop} (hb : ¬ penOK x1 x2 x3 x4 x5 n (mN st) → Post (-10) (badT t)) (hg : penOK x1 x2 x3 x4 x5 n (mN st) → ∀ s K y, x1 = nI s → s < 6 → x2 = nI K → K < 2 ^ 31 → Post (penV (seS st s) (exS st s K) x3 x4 x5) (upS t 6 y)) : wpX11_pen x1 x2 x3 x4 x5 t Post := by
  have em : (t 2).A 0 1 = nI (mN st) := hR.2.1.trans hW.2.2.1
  have hm := hW.2.2.2.1
  have fail : ¬ penOK x1 x2 x3 x4 x5 n (mN st) → wjX11_pen_34 Post x1 x2 x3 x4 x5 0 t := fun q => by
    unfold wjX11_pen_34 wjX11_pen_65
    exact b0e (k_bad (hb q))
  unfold wpX11_pen
  refine k_hasSheet eI hn (fun a1 a2 => b1e ?_) (fun a => b0e (fail (fun q => ?_)))
  · refine k_hasNotes em hm (fun b1 b2 => b1e ?_) (fun b => b0e (fail (fun q => ?_)))
    · refine k_isDepth (fun c1 c2 => b1e ?_) (fun c => b0e (fail (fun q => ?_)))
      · unfold wjX11_pen_34 wjX11_pen_65
        refine b1e (k_isCells (fun d1 d2 => b1e ?_) (fun d => b0e (k_bad (hb (fun q => ?_)))))
        · refine ⟨fun e0 => k_bad (hb (fun q => ?_)), fun e0 => ?_⟩
          · have := q.2.2.2.1.1
            rw [e0, z0I] at this
            omega
          · refine v_le 0 1 (by decide) (by decide) (fun e => k_bad (hb (fun q => ?_))) (fun e1 e2 => ?_)
            · have := q.2.2.2.2; omega
            · have d3 : 1 ≤ x4.toInt := by
                have : x4.toInt ≠ 0 := fun w => e0 (by rw [fa_eq, z0I]; exact w)
                omega
              have hok : penOK x1 x2 x3 x4 x5 n (mN st) := ⟨⟨a1, a2⟩, ⟨b1, b2⟩, ⟨c1, c2⟩, ⟨d3, d2⟩, e1, e2⟩
              obtain ⟨s, es, hs, _⟩ := toNI a1
              obtain ⟨K, eK, hK, hK31⟩ := toNI b1
              have hgo := fun y => hg hok s K y es (by omega) eK hK31
              subst es; subst eK
              refine k_look hR hW hn (by omega) hK31 (fun x' l1 l2 => ?_)
              intro t6 et6 z ez
              subst et6; subst ez
              refine k_penL (se := seS st s) (ex := exS st s K) l1 l2 (fun y => ?_)
              have hp := hgo y
              unfold penV at hp
              refine ⟨fun q => ?_, fun q => ?_⟩
              · rw [if_neg q] at hp; exact hp
              · rw [if_pos q] at hp; exact hp
        · have := q.2.2.2.1; omega
      · have := q.2.2.1; omega
    · have := q.2.1; omega
  · have := q.1; omega
theorem m_pen {x : St} {n : Nat} (hW : WF (x.A 4) n) (hn : n ≤ 6) (eI : x.I 0 = nI n) {x1 x2 x3 x4 x5 : Int32} {Post : Int32 → St → Prop} (hb : ¬ penOK x1 x2 x3 x4 x5 n (mN (x.A 4)) → Post (-10) (refX x 0)) (hg : penOK x1 x2 x3 x4 x5 n (mN (x.A 4)) → ∀ s K x', x1 = nI s → s < 6 → x2 = nI K → K < 2 ^ 31 → x'.2 = x.2 → (∀ k, k ≠ 21 → k ≠ 22 → x'.I k = x.I k) → Post (penV (seS (x.A 4) s) (exS (x.A 4) s K) x3 x4 x5) x') : wpX12_pen x1 x2 x3 x4 x5 x Post := by
  have em := hW.2.2.1
  have hm := hW.2.2.2.1
  unfold wpX12_pen wjX12_pen_52 wpX12_badLess
  refine m_isSheet eI hn (fun a1 a2 => b1e ?_) (fun a => b0e (m_ref0 (hb (fun q => ?_))))
  · refine m_areNotes em hm (fun b1 b2 => b1e ?_) (fun b => b0e (m_ref0 (hb (fun q => ?_))))
    · refine in_rule 0 5 (by decide) (by decide) (fun c1 c2 => b1e ?_) (fun c => b0e (m_ref0 (hb (fun q => ?_))))
      · refine in_rule 1 4095 (by decide) (by decide) (fun d1 d2 => b1e ?_) (fun d => b0e (m_ref0 (hb (fun q => ?_))))
        · refine in_rule 0 1 (by decide) (by decide) (fun e1 e2 => b1n ?_) (fun e => b0n (m_ref0 (hb (fun q => ?_))))
          · have hok : penOK x1 x2 x3 x4 x5 n (mN (x.A 4)) := ⟨⟨a1, a2⟩, ⟨b1, b2⟩, ⟨c1, c2⟩, ⟨d1, d2⟩, e1, e2⟩
            obtain ⟨s, es, hs, _⟩ := toNI a1
            obtain ⟨K, eK, hK, hK31⟩ := toNI b1
            have hgo := fun x' => hg hok s K x' es (by omega) eK hK31
            subst es; subst eK
            intro z ez
            subst ez
            refine m_penL hW hn (by omega) hK31 (fun x' g1 g2 => ?_)
            have hp := hgo x' g1 g2
            unfold penV at hp
            rw [md_fs, show mcP (pnP (seS (x.A 4) s) (exS (x.A 4) s K) x3 x4) 54 = cnP (pnP (seS (x.A 4) s) (exS (x.A 4) s K) x3 x4) 54 from by
              have := mc_cn (pnP (seS (x.A 4) s) (exS (x.A 4) s K) x3 x4) 54 (by omega)
              rw [show 54 - 54 = 0 by omega, show cnP (pnP (seS (x.A 4) s) (exS (x.A 4) s K) x3 x4) 0 = 0 from rfl] at this
              omega]
            refine ⟨fun q => ?_, fun q => ?_⟩
            · rw [if_neg q] at hp; exact hp
            · rw [if_pos q] at hp; exact hp
          · have := q.2.2.2.2; omega
        · have := q.2.2.2.1; omega
      · have := q.2.2.1; omega
    · have := q.2.1; omega
  · have := q.1; omega
theorem s_pen {t : Nat → St} {x : St} (h : Rel t x) (x1 x2 x3 x4 x5 : Int32) : SimI (wpX11_pen x1 x2 x3 x4 x5 t) (wpX12_pen x1 x2 x3 x4 x5 x) := by
  obtain ⟨n, w, u, e1, e2, e3, hc, g⟩ := h.1.got
  have hn6 := g.2.1
  obtain ⟨hR, hW⟩ := g.cur
  refine k_pen hR hW hn6 g.2.2.1 (fun hb => ?_) (fun hok s K y es hs eK hK => ?_)
  · exact m_pen hW hn6 e1 (fun _ => ⟨rfl, R_bad h⟩) (fun hok => absurd hok hb)
  · refine m_pen hW hn6 e1 (fun hb => absurd hok hb) (fun _ s' K' x' es' hs' eK' hK' g1 g2 => ?_)
    have ess : s = s' := (nI_eq (by omega) (by omega)).mp (es.symm.trans es')
    have eKK : K = K' := (nI_eq hK hK').mp (eK.symm.trans eK')
    subst ess; subst eKK
    exact ⟨rfl, R_mm h g1 g2⟩
