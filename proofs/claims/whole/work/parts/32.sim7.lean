/-! counting bits -/
def bc (x0 : Int32) : Int32 :=
  let a := x0 - (((x0.toUInt32 >>> ((1 : Int32).toUInt32 &&& Int32.toUInt32 31)).toInt32) &&& 1431655765)
  let b := (a &&& 858993459) + (((a.toUInt32 >>> ((2 : Int32).toUInt32 &&& Int32.toUInt32 31)).toInt32) &&& 858993459)
  let c := (b + ((b.toUInt32 >>> ((4 : Int32).toUInt32 &&& Int32.toUInt32 31)).toInt32)) &&& 252645135
  let d := c + ((c.toUInt32 >>> ((8 : Int32).toUInt32 &&& Int32.toUInt32 31)).toInt32)
  let e := d + ((d.toUInt32 >>> ((16 : Int32).toUInt32 &&& Int32.toUInt32 31)).toInt32)
  e &&& 63
theorem k_bitCount {x : Int32} {Post : Int32 → Prop} (h : Post (bc x)) : wpJ6_bitCount_0f7a4 x Post := by
  intro a ea b eb c ec d ed e ee
  subst ea; subst eb; subst ec; subst ed; subst ee
  exact h
def pop (n : Nat) : Nat := (bc (nI n)).toNatClampNeg
theorem bc_all2 : ∀ a, a < 64 → ∀ b, b < 64 → bc (nI (64 * a + b)) = nI (pop (64 * a + b)) ∧ pop (64 * a + b) ≤ 12 := by decide +kernel
theorem bc_all (n : Nat) (hn : n < 4096) : bc (nI n) = nI (pop n) ∧ pop n ≤ 12 := by
  have h := bc_all2 (n / 64) (by omega) (n % 64) (by omega)
  rw [show 64 * (n / 64) + n % 64 = n by omega] at h
  exact h
theorem ones_all2 : ∀ a, a < 64 → ∀ b, b < 64 → 64 * a + b ≠ 0 → nI (64 * a + b) &&& (nI (64 * a + b) - 1) = nI ((64 * a + b) &&& ((64 * a + b) - 1)) ∧ ((64 * a + b) &&& ((64 * a + b) - 1)) < 64 * a + b ∧ pop (64 * a + b) = pop ((64 * a + b) &&& ((64 * a + b) - 1)) + 1 := by decide +kernel
theorem ones_all (n : Nat) (hn : n < 4096) (h0 : n ≠ 0) : nI n &&& (nI n - 1) = nI (n &&& (n - 1)) ∧ (n &&& (n - 1)) < n ∧ pop n = pop (n &&& (n - 1)) + 1 := by
  have h := ones_all2 (n / 64) (by omega) (n % 64) (by omega)
  rw [show 64 * (n / 64) + n % 64 = n by omega] at h
  exact h h0
theorem m_ones {n : Nat} (hn : n < 4096) {Post : Int32 → Prop} (h : Post (bc (nI n))) : wpX12_ones (nI n) Post := by
  rw [(bc_all n hn).1] at h
  refine it_rule (F := fun self z => wlX12_ones_4 Post _ self z.1 z.2) (fun z => ∃ a j : Nat, z = (nI a, nI j) ∧ j < 4096 ∧ a + pop j = pop n) (fun z => z.2.toNatClampNeg) ?_ _ ⟨0, n, rfl, hn, by omega⟩
  rintro self z ⟨a, j, rfl, hj, he⟩ hself
  dsimp only
  unfold wlX12_ones_4
  refine pk_eq j 0 (fun e => ?_) (fun e => ?_)
  · subst e
    have : pop 0 = 0 := by decide
    rw [show a = pop n by omega]
    exact h
  · intro y ey z ez
    obtain ⟨f1, f2, f3⟩ := ones_all j hj e
    rw [f1] at ez
    subst ey; subst ez
    rw [nI_1]
    refine hself _ ⟨a + 1, _, rfl, by omega, by omega⟩ ?_
    dsimp only
    rw [ncl (by omega), ncl (by omega)]
    exact f2
theorem small12 {x : Int32} (h : ∀ i, 12 ≤ i → i < 32 → bt x i = false) : ∃ n, n < 4096 ∧ x = nI n := by
  refine ⟨x.toBitVec.toNat % 4096, Nat.mod_lt _ (by decide), ?_⟩
  apply b_ext
  intro i hi
  rw [bt_nI hi, show (4096 : Nat) = 2 ^ 12 by decide, Nat.testBit_mod_two_pow]
  by_cases h12 : i < 12
  · simp [h12]
    unfold bt
    rw [BitVec.testBit_toNat]
  · rw [h i (by omega) hi]
    simp [h12]
/-! copies -/
def ndc (S T : Nat) : Nat → Int32
  | 0 => 0
  | i + 1 => if S.testBit (T + i) = true then ndc S T i ||| ((1 : Int32) <<< ((nI (T + i) - 1) &&& 31)) else ndc S T i
theorem ndc_s (S T i : Nat) : ndc S T (i + 1) = if S.testBit (T + i) = true then ndc S T i ||| ((1 : Int32) <<< ((nI (T + i) - 1) &&& 31)) else ndc S T i := rfl
def ndm (S : Nat) (ca : Int32) : Nat → Int32
  | 0 => 0
  | j + 1 => if S.testBit j = true then ndm S ca j ||| (((1 : Int32) <<< ((nI j - 1) &&& 31)) &&& (ca ^^^ (-1))) else ndm S ca j
theorem ndm_s (S : Nat) (ca : Int32) (j : Nat) : ndm S ca (j + 1) = if S.testBit j = true then ndm S ca j ||| (((1 : Int32) <<< ((nI j - 1) &&& 31)) &&& (ca ^^^ (-1))) else ndm S ca j := rfl
theorem and_or (a b c : Int32) : (a ||| b) &&& c = (a &&& c) ||| (b &&& c) := by
  apply b_ext
  intro i _
  rw [b_and, b_or, b_or, b_and, b_and]
  cases bt a i <;> cases bt b i <;> cases bt c i <;> rfl
theorem zero_and (c : Int32) : (0 : Int32) &&& c = 0 := by
  apply b_ext
  intro i _
  rw [b_and, b_0]; rfl
theorem ndm_low {S T : Nat} {ca : Int32} (hz : ∀ j, j < T → S.testBit j = false) : ∀ j, j ≤ T → ndm S ca j = 0
  | 0, _ => rfl
  | j + 1, hj => by
    rw [ndm_s, hz j (by omega), if_neg (by decide)]
    exact ndm_low hz j (by omega)
theorem nd_eq {S T : Nat} {ca : Int32} (hz : ∀ j, j < T → S.testBit j = false) : ∀ i, ndc S T i &&& (ca ^^^ (-1)) = ndm S ca (T + i)
  | 0 => by
    rw [Nat.add_zero, ndm_low hz T (Nat.le_refl T)]
    exact zero_and _
  | i + 1 => by
    rw [ndc_s, show T + (i + 1) = (T + i) + 1 by omega, ndm_s]
    by_cases hb : S.testBit (T + i) = true
    · rw [if_pos hb, if_pos hb, and_or, nd_eq hz i]
    · rw [if_neg hb, if_neg hb, nd_eq hz i]
theorem sub1 {j : Nat} (hj : 1 ≤ j) : nI j - 1 = nI (j - 1) := by
  have := nI_pred (j - 1)
  rw [show j - 1 + 1 = j by omega] at this
  exact this
/-- a set whose sheets are there -/
def okS (S T n : Nat) : Prop := (∀ j, j < T → S.testBit j = false) ∧ ∀ j, n ≤ j → S.testBit j = false
theorem okS_k {S T : Nat} (hS : S < 2 ^ 31) (hT : T ≤ 6) : nI S &&& (((1 : Int32) <<< (nI T &&& 31)) - 1) = 0 ↔ ∀ j, j < T → S.testBit j = false := by
  rw [shl1 T (by omega), sub1 Nat.one_le_two_pow, fa_and, show (0 : Int32) = nI 0 from rfl]
  have hle : S &&& (2 ^ T - 1) ≤ S := Nat.and_le_left
  rw [nI_eq (by omega) (by decide), Nat.and_two_pow_sub_one_eq_mod]
  constructor
  · intro h j hj
    have : (S % 2 ^ T).testBit j = false := by rw [h, Nat.zero_testBit]
    rw [Nat.testBit_mod_two_pow] at this
    simpa [hj] using this
  · intro h
    apply Nat.eq_of_testBit_eq
    intro j
    rw [Nat.testBit_mod_two_pow, Nat.zero_testBit]
    by_cases hj : j < T
    · rw [h j hj]; simp
    · simp [hj]
theorem lt_bits {S n : Nat} : S < 2 ^ n ↔ ∀ j, n ≤ j → S.testBit j = false := by
  constructor
  · intro h j hj
    exact Nat.testBit_lt_two_pow (Nat.lt_of_lt_of_le h (Nat.pow_le_pow_right (n := 2) (by decide) hj))
  · intro h
    exact Nat.lt_pow_two_of_testBit S (fun j hj => h j hj)
theorem okS_m {S T n : Nat} (hS : S < 2 ^ 31) (hT : T ≤ n) (hn : n ≤ 6) : nI S &&& (((((1 : Int32) <<< (nI n &&& 31)) - 1) &&& ((((1 : Int32) <<< (nI T &&& 31)) - 1) ^^^ (-1))) ^^^ (-1)) = 0 ↔ okS S T n := by
  rw [shl1 T (by omega), shl1 n (by omega), sub1 Nat.one_le_two_pow, sub1 Nat.one_le_two_pow]
  have hb : ∀ i, i < 32 → bt (nI S &&& ((nI (2 ^ n - 1) &&& (nI (2 ^ T - 1) ^^^ (-1))) ^^^ (-1))) i = (S.testBit i && !(decide (i < n) && !decide (i < T))) := by
    intro i hi
    rw [b_and, b_xor, b_and, b_xor, b_m1 i hi, bt_nI hi, bt_nI hi, bt_nI hi, Nat.testBit_two_pow_sub_one, Nat.testBit_two_pow_sub_one]
    simp
  constructor
  · intro h
    have h2 : ∀ i, i < 32 → (S.testBit i && !(decide (i < n) && !decide (i < T))) = false := fun i hi => by rw [← hb i hi, h, b_0]
    refine ⟨fun j hj => ?_, fun j hj => ?_⟩
    · have := h2 j (by omega)
      simpa [hj, show j < n by omega] using this
    · by_cases h32 : j < 32
      · have := h2 j h32
        simpa [show ¬ j < n by omega] using this
      · exact Nat.testBit_lt_two_pow (Nat.lt_of_lt_of_le hS (Nat.pow_le_pow_right (n := 2) (by decide) (by omega)))
  · rintro ⟨h1, h2⟩
    apply b_ext
    intro i hi
    rw [hb i hi, b_0]
    by_cases hT2 : i < T
    · rw [h1 i hT2]; rfl
    · by_cases hn2 : i < n
      · simp [hn2, hT2]
      · rw [h2 i (by omega)]; rfl
/-- the first sheet that has no copy -/
def cpP (S T k : Nat) (x3 : Int32) (i : Nat) : Bool := S.testBit (T + i) && (decide (i = 0) || decide (¬ 2 ≤ fo (nI k) x3 (nI i)))
theorem k_copL {t : Nat → St} {S T n k : Nat} {x3 x4 : Int32} (hS : S < 2 ^ 31) (eT : (t 2).A 0 0 = nI T) (hT : T ≤ n) (hn : n ≤ 6) (eI : (t 2).I 3 = nI n) {Post : Int32 → (Nat → St) → Prop} {KX : Int32 → Int32 → (Nat → St) → Prop} (hb : fa_first (cpP S T k x3) (n - T) < n - T → Post (-1) t) (hg : ¬ fa_first (cpP S T k x3) (n - T) < n - T → KX x4 (ndc S T (n - T)) t) : ∃ n, wLX11_copies_81 Post KX n (nI S, nI k, x3, x4, 0, nI T, t) := by
  have hf1 := fa_first_le (cpP S T k x3) (n - T)
  have hf2 := fa_first_no (cpP S T k x3) (n - T)
  have hf3 := fa_first_yes (cpP S T k x3) (n - T)
  generalize fa_first (cpP S T k x3) (n - T) = ft at hf1 hf2 hf3 hb hg
  refine for_rule (F := fun self z => wlX11_copies_81 Post KX self z.1 z.2.1 z.2.2.1 z.2.2.2.1 z.2.2.2.2.1 z.2.2.2.2.2.1 z.2.2.2.2.2.2) ft (fun i => (nI S, nI k, x3, x4, ndc S T i, nI (T + i), t)) ?_ ?_
  · intro self i hi hself
    dsimp only
    unfold wlX11_copies_81
    rw [eI]
    rw [ndc_s] at hself
    have hno := hf2 i hi
    unfold cpP at hno
    refine ⟨fun z => absurd z (nI_ge (by omega) (by omega)), fun _ => ?_⟩
    rw [has_0 hS (by omega)]
    refine ⟨fun e z ez => ?_, fun e => k_top ?_⟩
    · subst ez
      rw [nI_1]
      rw [if_neg (by rw [e]; decide)] at hself
      exact hself
    · have et : S.testBit (T + i) = true := by simpa using e
      rw [et] at hno
      simp at hno
      rw [eT, pk_sub (by omega), show T + i - T = i by omega]
      intro z ez
      subst ez
      refine ⟨fun e0 => absurd ((nI_eq (b := 0) (by omega) (by decide)).mp e0) hno.1, fun _ => ⟨fun _ y ey z ez => ?_, fun e2 => absurd hno.2 e2⟩⟩
      subst ey; subst ez
      rw [nI_1]
      rw [if_pos et] at hself
      exact hself
  · intro self
    dsimp only
    unfold wlX11_copies_81
    rw [eI]
    by_cases hft : ft < n - T
    · have hyes := hf3 hft
      unfold cpP at hyes
      simp at hyes
      refine ⟨fun z => absurd z (nI_ge (by omega) (by omega)), fun _ => ?_⟩
      rw [has_0 hS (by omega)]
      refine ⟨fun e => absurd hyes.1 (by rw [e]; decide), fun _ => k_top ?_⟩
      rw [eT, pk_sub (by omega), show T + ft - T = ft by omega]
      intro z ez
      subst ez
      refine ⟨fun _ => hb hft, fun e0 => ⟨fun e2 => ?_, fun _ => hb hft⟩⟩
      rcases hyes.2 with h0 | h0
      · exact absurd (show nI ft = 0 by rw [h0]; rfl) e0
      · exact absurd e2 (by rw [fa_le]; rw [fa_lt] at h0; omega)
    · have : ft = n - T := by omega
      subst this
      exact ⟨fun _ => hg hft, fun z => absurd (nI_le (by omega) (by omega)) z⟩
theorem m_copL {x : St} {S T n k : Nat} {x3 x4 : Int32} (hk : k < 6) (hS : S < 2 ^ 31) (eT : x.A 4 125 = nI T) (hT : T ≤ n) (hn : n ≤ 6) (eI : x.I 0 = nI n) (hz : ∀ j, j < T → S.testBit j = false) {Post : Int32 → St → Prop} {KX : Int32 → Int32 → St → Prop} (hb : fa_first (cpP S T k x3) (n - T) < n - T → Post (-1) x) (hg : ¬ fa_first (cpP S T k x3) (n - T) < n - T → KX x4 (ndm S (x.I 1) n) x) : ∃ n, wLX12_copies_67 Post KX n (nI S, nI k, x3, x4, 0, 0, x) := by
  have hf1 := fa_first_le (cpP S T k x3) (n - T)
  have hf2 := fa_first_no (cpP S T k x3) (n - T)
  have hf3 := fa_first_yes (cpP S T k x3) (n - T)
  generalize fa_first (cpP S T k x3) (n - T) = ft at hf1 hf2 hf3 hb hg
  refine for_rule (F := fun self z => wlX12_copies_67 Post KX self z.1 z.2.1 z.2.2.1 z.2.2.2.1 z.2.2.2.2.1 z.2.2.2.2.2.1 z.2.2.2.2.2.2) (T + ft) (fun j => (nI S, nI k, x3, x4, ndm S (x.I 1) j, nI j, x)) ?_ ?_
  · intro self j hj hself
    dsimp only
    unfold wlX12_copies_67
    rw [eI]
    rw [ndm_s] at hself
    refine ⟨fun z => absurd z (nI_ge (by omega) (by omega)), fun _ => m_has hS (by omega) (fun e => b1e ?_) (fun e => b0e ?_)⟩
    · by_cases hjT : j < T
      · rw [hz j hjT] at e; cases e
      · have hno := hf2 (j - T) (by omega)
        unfold cpP at hno
        rw [show T + (j - T) = j by omega, e] at hno
        simp at hno
        rw [eT, pk_sub (by omega)]
        intro z ez
        subst ez
        refine ⟨fun e0 => absurd ((nI_eq (b := 0) (by omega) (by decide)).mp e0) (by omega), fun _ => m_force hk ⟨fun _ y ey z ez => ?_, fun e2 => absurd hno.2 e2⟩⟩
        subst ey; subst ez
        rw [nI_1]
        rw [if_pos e] at hself
        exact hself
    · intro z ez
      subst ez
      rw [nI_1]
      rw [if_neg (by rw [e]; decide)] at hself
      exact hself
  · intro self
    dsimp only
    unfold wlX12_copies_67
    rw [eI]
    by_cases hft : ft < n - T
    · have hyes := hf3 hft
      unfold cpP at hyes
      simp at hyes
      refine ⟨fun z => absurd z (nI_ge (by omega) (by omega)), fun _ => m_has hS (by omega) (fun e => b1e ?_) (fun e => absurd hyes.1 (by rw [e]; decide))⟩
      rw [eT, pk_sub (by omega), show T + ft - T = ft by omega]
      intro z ez
      subst ez
      refine ⟨fun _ => hb hft, fun e0 => m_force hk ⟨fun e2 => ?_, fun _ => hb hft⟩⟩
      rcases hyes.2 with h0 | h0
      · exact absurd (show nI ft = 0 by rw [h0]; rfl) e0
      · exact absurd e2 (by rw [fa_le]; rw [fa_lt] at h0; omega)
    · have : T + ft = n := by omega
      rw [this]
      exact ⟨fun _ => hg hft, fun z => absurd (nI_le (Nat.le_refl _) (by omega)) z⟩
theorem ndc_small (S T : Nat) : ∀ i, T + i ≤ 6 → (∀ j, j < i → S.testBit (T + j) = true → j ≠ 0) → ∀ b, 12 ≤ b → b < 32 → bt (ndc S T i) b = false
  | 0, _, _, b, _, _ => b_0 b
  | i + 1, hi, hj, b, h1, h2 => by
    have ih := ndc_small S T i (by omega) (fun j hj2 => hj j (by omega)) b h1 h2
    rw [ndc_s]
    by_cases hb : S.testBit (T + i) = true
    · rw [if_pos hb, b_or, ih, sub1 (by have := hj i (by omega) hb; omega), bt_shl1 (by omega) h2]
      simp; omega
    · rw [if_neg hb]; exact ih
theorem and_small {x y : Int32} {b : Nat} (h : bt x b = false) : bt (x &&& y) b = false := by rw [b_and, h]; rfl
def copOK (x1 x2 x3 x4 : Int32) (T n S : Nat) : Prop := x1 = nI S ∧ S < 2 ^ 31 ∧ okS S T n ∧ 0 ≤ x2.toInt ∧ x2.toInt ≤ 5 ∧ 1 ≤ x3.toInt ∧ x3.toInt ≤ 9 ∧ 0 ≤ x4.toInt ∧ x4.toInt ≤ 1
/-- what copies answers -/
def copV (S T n k : Nat) (ca x3 x4 : Int32) : Int32 := if fa_first (cpP S T k x3) (n - T) < n - T then -1 else if x4 = 0 then bc (ndm S ca n) else ndm S ca n
theorem cop_small {S T n k : Nat} {x3 ca : Int32} (hT : T ≤ n) (hn : n ≤ 6) (hz : ∀ j, j < T → S.testBit j = false) (hf : ¬ fa_first (cpP S T k x3) (n - T) < n - T) : ∃ m, m < 4096 ∧ ndm S ca n = nI m := by
  apply small12
  intro b h1 h2
  have e := nd_eq (ca := ca) hz (n - T)
  rw [show T + (n - T) = n by omega] at e
  rw [← e]
  refine and_small (ndc_small S T (n - T) (by omega) (fun j hj hb h0 => ?_) b h1 h2)
  have hf2 := fa_first_no (cpP S T k x3) (n - T) j (by omega)
  unfold cpP at hf2
  rw [hb, h0] at hf2
  simp at hf2
theorem k_copies {t : Nat → St} {T n : Nat} (eT : (t 2).A 0 0 = nI T) (hT : T ≤ n) (hn : n ≤ 6) (eI : (t 2).I 3 = nI n) {x1 x2 x3 x4 : Int32} {Post : Int32 → (Nat → St) → Prop} (hb : (¬ ∃ S, copOK x1 x2 x3 x4 T n S) → Post (-10) (badT t)) (hg : ∀ S k, copOK x1 x2 x3 x4 T n S → k < 6 → x2 = nI k → Post (copV S T n k ((t 2).I 4) x3 x4) t) : wpX11_copies x1 x2 x3 x4 t Post := by
  unfold wpX11_copies
  refine k_top ?_
  intro z ez
  rw [eT] at ez
  refine k_hasSheets eI hn (fun a b => b1e ?_) (fun a => b0e ?_)
  · obtain ⟨S, eS, hS, hS31⟩ := toNI a
    subst eS
    rw [hS] at b
    have hSn : S < 2 ^ n := by omega
    have hbits := lt_bits.mp hSn
    rw [ez, okS_k hS31 (by omega)]
    refine ⟨fun e => ?_, fun e => ?_⟩
    · unfold wjX11_copies_44 wjX11_copies_62
      refine b0e (k_bad (hb ?_))
      rintro ⟨S', e1, e2, e3, -⟩
      have : S = S' := (nI_eq hS31 e2).mp e1
      subst this
      exact e e3.1
    · refine k_isPen (fun c1 c2 c3 c4 => b1e ?_) (fun c => b0e ?_)
      · unfold wjX11_copies_44 wjX11_copies_62
        refine b1e (v_le 0 1 (by decide) (by decide) (fun d => k_bad (hb ?_)) (fun d1 d2 => k_top ?_))
        · rintro ⟨S', e1, e2, e3, f1, f2, f3, f4, f5, f6⟩
          omega
        · obtain ⟨k, ek, hk, _⟩ := toNI c1
          have hok : copOK (nI S) x2 x3 x4 T n S := ⟨rfl, hS31, ⟨e, hbits⟩, c1, c2, c3, c4, d1, d2⟩
          have hp := hg S k hok (by omega) ek
          subst ek
          rw [eT]
          unfold copV at hp
          refine k_copL hS31 eT hT hn eI (fun hf => ?_) (fun hf => ?_)
          · rw [if_pos hf] at hp; exact hp
          · rw [if_neg hf] at hp
            have en := nd_eq (ca := (t 2).I 4) e (n - T)
            rw [show T + (n - T) = n by omega] at en
            rw [en]
            intro z ez
            subst ez
            refine ⟨fun h4 => ?_, fun h4 => ?_⟩
            · rw [if_neg h4] at hp; exact hp
            · rw [if_pos h4] at hp; exact k_bitCount hp
      · unfold wjX11_copies_44 wjX11_copies_62
        refine b0e (k_bad (hb ?_))
        rintro ⟨S', e1, e2, e3, f1, f2, f3, f4, f5, f6⟩
        exact c ⟨f1, f2, f3, f4⟩
  · unfold wjX11_copies_44 wjX11_copies_62
    refine b0e (k_bad (hb ?_))
    rintro ⟨S', e1, e2, e3, -⟩
    subst e1
    rw [nI_toInt e2] at a
    have := lt_bits.mpr e3.2
    omega
theorem m_copies {x : St} {T n : Nat} (eT : x.A 4 125 = nI T) (hT : T ≤ n) (hn : n ≤ 6) (eI : x.I 0 = nI n) {x1 x2 x3 x4 : Int32} {Post : Int32 → St → Prop} (hb : (¬ ∃ S, copOK x1 x2 x3 x4 T n S) → Post (-10) (refX x 0)) (hg : ∀ S k, copOK x1 x2 x3 x4 T n S → k < 6 → x2 = nI k → Post (copV S T n k (x.I 1) x3 x4) x) : wpX12_copies x1 x2 x3 x4 x Post := by
  unfold wpX12_copies wjX12_copies_56 wpX12_badLess
  intro z ez
  rw [eI, eT] at ez
  refine ⟨fun a => m_ref0 (hb ?_), fun a => ?_⟩
  · rintro ⟨S', e1, e2, -⟩
    subst e1
    exact nI_pos e2 a
  · obtain ⟨S, hS31, eS⟩ := nI_of a
    subst eS
    rw [ez, okS_m hS31 hT hn]
    refine ⟨fun e => m_ref0 (hb ?_), fun e => ?_⟩
    · rintro ⟨S', e1, e2, e3, -⟩
      have : S = S' := (nI_eq hS31 e2).mp e1
      subst this
      exact e e3
    · refine m_isPen (fun c1 c2 c3 c4 => b1e ?_) (fun c => b0e (m_ref0 (hb ?_)))
      · refine in_rule 0 1 (by decide) (by decide) (fun d1 d2 => b1n ?_) (fun d => b0n (m_ref0 (hb ?_)))
        · obtain ⟨k, ek, hk, _⟩ := toNI c1
          have hok : copOK (nI S) x2 x3 x4 T n S := ⟨rfl, hS31, e, c1, c2, c3, c4, d1, d2⟩
          have hp := hg S k hok (by omega) ek
          subst ek
          unfold copV at hp
          refine m_copL (by omega) hS31 eT hT hn eI e.1 (fun hf => ?_) (fun hf => ?_)
          · rw [if_pos hf] at hp; exact hp
          · rw [if_neg hf] at hp
            refine ⟨fun h4 => ?_, fun h4 => ?_⟩
            · rw [if_neg h4] at hp; exact hp
            · rw [if_pos h4] at hp
              obtain ⟨m, hm, em⟩ := cop_small (ca := x.I 1) hT hn e.1 hf
              rw [em] at hp ⊢
              exact m_ones hm hp
        · rintro ⟨S', e1, e2, e3, f1, f2, f3, f4, f5, f6⟩
          omega
      · rintro ⟨S', e1, e2, e3, f1, f2, f3, f4, f5, f6⟩
        exact c ⟨f1, f2, f3, f4⟩
theorem s_copies {t : Nat → St} {x : St} (h : Rel t x) (x1 x2 x3 x4 : Int32) : SimI (wpX11_copies x1 x2 x3 x4 t) (wpX12_copies x1 x2 x3 x4 x) := by
  obtain ⟨n, w, u, e1, e2, e3, hc, g⟩ := h.1.got
  have hn6 := g.2.1
  obtain ⟨q0, q1, q2, q3, q4, q5⟩ := g.nums
  refine k_copies q0 q4 hn6 g.2.2.1 (fun hb => ?_) (fun S k hok hk ek => ?_)
  · exact m_copies q2 q4 hn6 e1 (fun _ => ⟨rfl, R_bad h⟩) (fun S k hok _ _ => absurd ⟨S, hok⟩ hb)
  · refine m_copies q2 q4 hn6 e1 (fun hb => absurd ⟨S, hok⟩ hb) (fun S' k' hok' hk' ek' => ⟨?_, h⟩)
    have es : S = S' := (nI_eq hok.2.1 hok'.2.1).mp (hok.1.symm.trans hok'.1)
    have ekk : k = k' := (nI_eq (by omega) (by omega)).mp (ek.symm.trans ek')
    subst es; subst ekk
    rw [hc]
