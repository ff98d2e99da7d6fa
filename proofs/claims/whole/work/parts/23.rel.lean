/-! the pad as the model's row holds it: torn, notes, each note's kind, press, cells, sheet -/
def tN (st : Nat → Int32) : Nat := (st 125).toNatClampNeg
def mN (st : Nat → Int32) : Nat := (st 124).toNatClampNeg
def kN (st : Nat → Int32) (k : Nat) : Nat := (st (84 + 4 * k)).toNatClampNeg
def prN (st : Nat → Int32) (k : Nat) : Nat := (st (85 + 4 * k)).toNatClampNeg
def ceN (st : Nat → Int32) (k : Nat) : Nat := (st (86 + 4 * k)).toNatClampNeg
def onN (st : Nat → Int32) (k : Nat) : Nat := (st (87 + 4 * k)).toNatClampNeg
/-- note k's force in a cell of a sheet -/
def frc (st : Nat → Int32) (s c k : Nat) : Int32 := if onN st k ≤ s ∧ (ceN st k).testBit c = true then fo (st (84 + 4 * k)) (st (85 + 4 * k)) (nI (s - onN st k)) else 0
/-- the greatest of the first notes' forces there -/
def mx (st : Nat → Int32) (s c : Nat) : Nat → Int32
  | 0 => 0
  | k + 1 => if mx st s c k < frc st s c k then frc st s c k else mx st s c k
def GN (st : Nat → Int32) (n k : Nat) : Prop := st (84 + 4 * k) = nI (kN st k) ∧ kN st k < 6 ∧ st (85 + 4 * k) = nI (prN st k) ∧ 1 ≤ prN st k ∧ prN st k ≤ 9 ∧ st (86 + 4 * k) = nI (ceN st k) ∧ ceN st k < 4096 ∧ st (87 + 4 * k) = nI (onN st k) ∧ onN st k < n ∧ onN st k ≤ tN st
def WF (st : Nat → Int32) (n : Nat) : Prop := st 125 = nI (tN st) ∧ tN st ≤ n ∧ st 124 = nI (mN st) ∧ mN st ≤ 10 ∧ (∀ k, k < mN st → GN st n k) ∧ ∀ s, s < n → ∀ c, c < 12 → st (12 + 12 * s + c) = mx st s c (mN st)
/-- a page of the class beside the model's row -/
def RP (pg : Nat → Int32) (p : St) (st : Nat → Int32) : Prop := pg 0 = st 125 ∧ pg 1 = st 124 ∧ (∀ s, s < 6 → pg (2 + 14 * s) = st s ∧ pg (3 + 14 * s) = st (6 + s) ∧ ∀ c, c < 12 → pg (4 + 14 * s + c) = st (12 + 12 * s + c)) ∧ ∀ k, k < mN st → p.A 5 k = st (84 + 4 * k) ∧ p.A 6 k = st (85 + 4 * k) ∧ p.A 7 k = st (86 + 4 * k) ∧ p.A 8 k = st (87 + 4 * k) ∧ ∀ d, d < 6 → p.A 9 (6 * k + d) = fo (st (84 + 4 * k)) (st (85 + 4 * k)) (nI d)
def stk (st ah : Nat → Int32) (u j : Nat) : Nat → Int32 := if j = u then st else fun k => ah (126 * j + k)
def pgk (p : St) (u j : Nat) : Nat → Int32 := if j = u then p.A 0 else fun i => p.A 1 (86 * j + i)
def PadN (p : St) (st ah wo : Nat → Int32) (n w u : Nat) : Prop := 1 ≤ n ∧ n ≤ 6 ∧ p.I 3 = nI n ∧ w ≤ 8 ∧ p.I 11 = nI w ∧ u ≤ 8 ∧ p.I 2 = nI u ∧ (∀ i, i < w → p.A 10 i = wo i ∧ ∃ c, c < 4096 ∧ wo i = nI c) ∧ (∀ j, j ≤ u → RP (pgk p u j) p (stk st ah u j) ∧ WF (stk st ah u j) n) ∧ ∀ i j, i ≤ j → j ≤ u → mN (stk st ah u i) ≤ mN (stk st ah u j)
def PadR (p : St) (st ah wo : Nat → Int32) (sh ca wm um : Int32) : Prop := p.I 4 = ca ∧ ∃ n w u : Nat, sh = nI n ∧ wm = nI w ∧ um = nI u ∧ PadN p st ah wo n w u
def ImgR (q : St) (ke : Nat → Int32) (i : Nat) : Prop := PadR q (fun k => ke (1154 * i + k)) (fun k => ke (1154 * i + 126 + k)) (fun k => ke (1154 * i + 1134 + k)) (ke (1154 * i + 1142)) (ke (1154 * i + 1143)) (ke (1154 * i + 1144)) (ke (1154 * i + 1145))
def ObjR (o x : St) : Prop := o.L 10 = x.L 7 ∧ o.L 11 = x.L 8 ∧ o.I 12 = x.A 9 0 ∧ o.I 13 = x.A 9 1 ∧ o.I 14 = x.A 9 2
def TxtR (r x : St) : Prop := ∃ b : Nat, b ≤ 150 ∧ r.I 1 = nI b ∧ x.I 11 = nI b ∧ ∀ k, k < b → r.A 0 k = x.A 10 k ∧ ∃ c, c < 128 ∧ x.A 10 k = nI c
def ImsR (o q0 q1 x : St) : Prop := ∃ b0 b1 : Nat, b0 < 2 ∧ b1 < 2 ∧ o.I 9 = nI (b0 + 2 * b1) ∧ x.A 27 0 = nI b0 ∧ x.A 27 1 = nI b1 ∧ (b0 = 1 → ImgR q0 (x.A 28) 0) ∧ (b1 = 1 → ImgR q1 (x.A 28) 1)
def NowR (p x : St) : Prop := PadR p (x.A 4) (x.A 5) (x.A 2) (x.I 0) (x.I 1) (x.I 3) (x.I 6)
/-- the class's state beside the model's -/
def Rel (t : Nat → St) (x : St) : Prop := NowR (t 2) x ∧ ObjR (t 0) x ∧ TxtR (t 8) x ∧ ImsR (t 0) (t 4) (t 5) x
theorem PadN.cur {p : St} {st ah wo : Nat → Int32} {n w u : Nat} (h : PadN p st ah wo n w u) : RP (p.A 0) p st ∧ WF st n := by
  have h1 := h.2.2.2.2.2.2.2.2.1 u (Nat.le_refl u)
  unfold pgk stk at h1
  rw [if_pos rfl, if_pos rfl] at h1
  exact h1
/-! what the refusals do -/
def badT (t : Nat → St) : Nat → St := upS t 0 ((t 0).sI 12 (((t 0).I 12) + 1))
def noT (t : Nat → St) : Nat → St := upS t 0 ((t 0).sI 13 (((t 0).I 13) + 1))
def fullT (t : Nat → St) : Nat → St := upS t 0 ((t 0).sI 14 (((t 0).I 14) + 1))
def refX (x : St) (k : Nat) : St := x.sA 9 (upd (x.A 9) k ((x.A 9 k) + 1))
theorem k_bad {t : Nat → St} {a : Int32} {Post : Int32 → (Nat → St) → Prop} (h : Post a (badT t)) : wpX11_bad a t Post := fun _ e => e ▸ h
theorem k_no {t : Nat → St} {Post : Int32 → (Nat → St) → Prop} (h : Post (-3) (noT t)) : wpX11_no t Post := fun _ e => e ▸ h
theorem k_full {t : Nat → St} {Post : Int32 → (Nat → St) → Prop} (h : Post (-4) (fullT t)) : wpX11_full t Post := fun _ e => e ▸ h
theorem m_ref0 {x : St} {a : Int32} {Post : Int32 → St → Prop} (h : Post a (refX x 0)) : wpX12_refuse 0 a x Post := ⟨vi_0_3', vi_0_3', fun _ e => e ▸ h⟩
theorem m_ref1 {x : St} {a : Int32} {Post : Int32 → St → Prop} (h : Post a (refX x 1)) : wpX12_refuse 1 a x Post := ⟨vi_1_3', vi_1_3', fun _ e => e ▸ h⟩
theorem m_ref2 {x : St} {a : Int32} {Post : Int32 → St → Prop} (h : Post a (refX x 2)) : wpX12_refuse 2 a x Post := ⟨vi_2_3', vi_2_3', fun _ e => e ▸ h⟩
theorem R_bad {t : Nat → St} {x : St} (h : Rel t x) : Rel (badT t) (refX x 0) := by
  obtain ⟨h1, ⟨o1, o2, o3, o4, o5⟩, h3, h4⟩ := h
  refine ⟨h1, ⟨o1, o2, ?_, o4, o5⟩, h3, h4⟩
  show (t 0).I 12 + 1 = x.A 9 0 + 1
  rw [o3]
theorem R_no {t : Nat → St} {x : St} (h : Rel t x) : Rel (noT t) (refX x 1) := by
  obtain ⟨h1, ⟨o1, o2, o3, o4, o5⟩, h3, h4⟩ := h
  refine ⟨h1, ⟨o1, o2, o3, ?_, o5⟩, h3, h4⟩
  show (t 0).I 13 + 1 = x.A 9 1 + 1
  rw [o4]
theorem R_full {t : Nat → St} {x : St} (h : Rel t x) : Rel (fullT t) (refX x 2) := by
  obtain ⟨h1, ⟨o1, o2, o3, o4, o5⟩, h3, h4⟩ := h
  refine ⟨h1, ⟨o1, o2, o3, o4, ?_⟩, h3, h4⟩
  show (t 0).I 14 + 1 = x.A 9 2 + 1
  rw [o5]
/-- one call on both sides -/
def SimI (a : (Int32 → (Nat → St) → Prop) → Prop) (b : (Int32 → St → Prop) → Prop) : Prop := a (fun r t => b (fun r' x => r = r' ∧ Rel t x))
def SimL (a : (Int64 → (Nat → St) → Prop) → Prop) (b : (Int64 → St → Prop) → Prop) : Prop := a (fun r t => b (fun r' x => r = r' ∧ Rel t x))
/-! ranges -/
theorem v_le {x lo hi : Int32} {B G : Prop} (a b : Int) (ha : lo.toInt = a) (hb : hi.toInt = b) (hB : (x.toInt < a ∨ b < x.toInt) → B) (hG : a ≤ x.toInt → x.toInt ≤ b → G) : (x < lo → B) ∧ (¬ x < lo → (x ≤ hi → G) ∧ (¬ x ≤ hi → B)) := by
  rw [fa_lt, fa_le, ha, hb]
  exact ⟨fun h => hB (Or.inl h), fun h => ⟨fun h2 => hG (by omega) h2, fun h2 => hB (Or.inr (by omega))⟩⟩
theorem v_lt {x lo hi : Int32} {B G : Prop} (a b : Int) (ha : lo.toInt = a) (hb : hi.toInt = b) (hB : (x.toInt < a ∨ b ≤ x.toInt) → B) (hG : a ≤ x.toInt → x.toInt < b → G) : (x < lo → B) ∧ (¬ x < lo → (x < hi → G) ∧ (¬ x < hi → B)) := by
  rw [fa_lt, fa_lt, ha, hb]
  exact ⟨fun h => hB (Or.inl h), fun h => ⟨fun h2 => hG (by omega) h2, fun h2 => hB (Or.inr (by omega))⟩⟩
theorem v_ge {x lo hi : Int32} {B G : Prop} (a b : Int) (ha : lo.toInt = a) (hb : hi.toInt = b) (hB : (x.toInt < a ∨ b ≤ x.toInt) → B) (hG : a ≤ x.toInt → x.toInt < b → G) : (x < lo → B) ∧ (¬ x < lo → (hi ≤ x → B) ∧ (¬ hi ≤ x → G)) := by
  rw [fa_lt, fa_le, ha, hb]
  exact ⟨fun h => hB (Or.inl h), fun h => ⟨fun h2 => hB (Or.inr h2), fun h2 => hG (by omega) (by omega)⟩⟩
theorem v_gt {x lo hi : Int32} {B G : Prop} (a b : Int) (ha : lo.toInt = a) (hb : hi.toInt = b) (hB : (x.toInt < a ∨ b < x.toInt) → B) (hG : a ≤ x.toInt → x.toInt ≤ b → G) : (x < lo → B) ∧ (¬ x < lo → (hi < x → B) ∧ (¬ hi < x → G)) := by
  rw [fa_lt, fa_lt, ha, hb]
  exact ⟨fun h => hB (Or.inl h), fun h => ⟨fun h2 => hB (Or.inr h2), fun h2 => hG (by omega) (by omega)⟩⟩
theorem toNI {x : Int32} (h : 0 ≤ x.toInt) : ∃ j : Nat, x = nI j ∧ x.toInt = (j : Int) ∧ j < 2 ^ 31 := by
  have hx : ¬ x < 0 := by rw [fa_lt]; simp; omega
  obtain ⟨j, hj, rfl⟩ := nI_of hx
  exact ⟨j, rfl, nI_toInt hj, hj⟩
/-! answers that are a boolean -/
theorem b1n {A B : Prop} (h : A) : ((¬ (1 : Int32) = 0) → A) ∧ (((1 : Int32) = 0) → B) := ⟨fun _ => h, fun e => absurd e (by decide)⟩
theorem b1e {A B : Prop} (h : A) : (((1 : Int32) = 0) → B) ∧ ((¬ (1 : Int32) = 0) → A) := ⟨fun e => absurd e (by decide), fun _ => h⟩
theorem b0n {A B : Prop} (h : B) : ((¬ (0 : Int32) = 0) → A) ∧ (((0 : Int32) = 0) → B) := ⟨fun e => absurd rfl e, fun _ => h⟩
theorem b0e {A B : Prop} (h : B) : (((0 : Int32) = 0) → B) ∧ ((¬ (0 : Int32) = 0) → A) := ⟨fun _ => h, fun e => absurd rfl e⟩
