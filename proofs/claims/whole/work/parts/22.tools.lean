/-! loops -/
theorem it_rule {α : Type} {F : (α → Prop) → α → Prop} (I : α → Prop) (μ : α → Nat) (h : ∀ (self : α → Prop) (x : α), I x → (∀ y, I y → μ y < μ x → self y) → F self x) (x : α) (hx : I x) : ∃ n, itN F n x := by
  have key : ∀ (n : Nat) (x : α), I x → μ x < n → itN F n x := by
    intro n
    induction n with
    | zero => intro x _ hm; exact absurd hm (Nat.not_lt_zero _)
    | succ n ih => intro x hx hm; exact h (itN F n) x hx (fun y hy hlt => ih y hy (by omega))
  exact ⟨μ x + 1, key _ x hx (Nat.lt_succ_self _)⟩
theorem for_rule {α : Type} {F : (α → Prop) → α → Prop} (N : Nat) (st : Nat → α) (hs : ∀ (self : α → Prop) (i : Nat), i < N → self (st (i + 1)) → F self (st i)) (hx : ∀ self : α → Prop, F self (st N)) : ∃ n, itN F n (st 0) := by
  have key : ∀ (d j : Nat), j + d = N → itN F (d + 1) (st j) := by
    intro d
    induction d with
    | zero => intro j hj; have e : j = N := by omega
              subst e; exact hx _
    | succ d ih => intro j hj; exact hs _ j (by omega) (ih (j + 1) (by omega))
  exact ⟨N + 1, key N 0 (by omega)⟩
/-! states -/
theorem sI_I (x : St) (k j : Nat) (v : Int32) : (x.sI k v).I j = if j = k then v else x.I j := rfl
theorem sI_L (x : St) (k j : Nat) (v : Int32) : (x.sI k v).L j = x.L j := rfl
theorem sI_A (x : St) (k j : Nat) (v : Int32) : (x.sI k v).A j = x.A j := rfl
theorem sL_I (x : St) (k j : Nat) (v : Int64) : (x.sL k v).I j = x.I j := rfl
theorem sL_L (x : St) (k j : Nat) (v : Int64) : (x.sL k v).L j = if j = k then v else x.L j := rfl
theorem sL_A (x : St) (k j : Nat) (v : Int64) : (x.sL k v).A j = x.A j := rfl
theorem sA_I (x : St) (k j : Nat) (v : Nat → Int32) : (x.sA k v).I j = x.I j := rfl
theorem sA_L (x : St) (k j : Nat) (v : Nat → Int32) : (x.sA k v).L j = x.L j := rfl
theorem sA_A (x : St) (k j : Nat) (v : Nat → Int32) : (x.sA k v).A j = if j = k then v else x.A j := rfl
theorem upS_at (t : Nat → St) (k j : Nat) (x : St) : upS t k x j = if j = k then x else t j := rfl
/-! numbers -/
theorem vin {n N : Nat} (hn : n < 2 ^ 31) : vp_in (nI n) N ↔ n < N := by
  unfold vp_in
  rw [nI_clamp hn]
  have := nI_pos hn
  constructor
  · intro h; exact Nat.lt_of_not_le (fun q => h (Or.inr q))
  · intro h q; rcases q with q | q
    · exact this q
    · omega
theorem ncl {n : Nat} (h : n < 2 ^ 31) : (nI n).toNatClampNeg = n := nI_clamp h
/-- an int by its range -/
theorem rng (x : Int32) (lo hi : Nat) : (x.toInt < lo ∨ (hi : Int) < x.toInt) ∨ ∃ j : Nat, lo ≤ j ∧ j ≤ hi ∧ j < 2 ^ 31 ∧ x = nI j := by
  by_cases hx : x < 0
  · have := Int32.lt_iff_toInt_lt.mp hx
    simp at this
    exact Or.inl (Or.inl (by omega))
  · obtain ⟨j, hj, rfl⟩ := nI_of hx
    rw [nI_toInt hj]
    by_cases h1 : j < lo
    · exact Or.inl (Or.inl (by omega))
    · by_cases h2 : hi < j
      · exact Or.inl (Or.inr (by omega))
      · exact Or.inr ⟨j, by omega, by omega, hj, rfl⟩
theorem tI (n : Nat) (h : n < 2 ^ 31) : (nI n).toInt = (n : Int) := nI_toInt h
theorem litI (n : Nat) (h : n < 2 ^ 31) : (OfNat.ofNat n : Int32).toInt = (n : Int) := nI_toInt h
theorem litL (n : Nat) (h : n < 2 ^ 63) : (OfNat.ofNat n : Int64).toInt = (n : Int) := lg_ofNat_toInt h
/-- bits of a predicate -/
def bitsN (P : Nat → Bool) : Nat → Int32
  | 0 => 0
  | n + 1 => if P n then bitsN P n ||| ((1 : Int32) <<< (nI n &&& 31)) else bitsN P n
theorem bitsN_cong {P Q : Nat → Bool} : ∀ {n : Nat}, (∀ k, k < n → P k = Q k) → bitsN P n = bitsN Q n
  | 0, _ => rfl
  | n + 1, h => by
    unfold bitsN
    rw [h n (by omega), bitsN_cong (fun k hk => h k (by omega))]
theorem or_0 (x : Int32) : x ||| 0 = x := by
  apply Int32.toBitVec_inj.1
  show x.toBitVec ||| 0#32 = x.toBitVec
  simp
/-! the machine's small methods -/
theorem in_rule {x : Int32} {lo hi : Int64} {Post : Int32 → Prop} (a b : Int) (ha : lo.toInt = a) (hb : hi.toInt = b) (h1 : a ≤ x.toInt → x.toInt ≤ b → Post 1) (h0 : (x.toInt < a ∨ b < x.toInt) → Post 0) : wpX12_in x.toInt64 lo hi Post := by
  have e : x.toInt64.toInt = x.toInt := Int32.toInt_toInt64 x
  have c1 : (lg_cmp x.toInt64 lo < 0) ↔ x.toInt < a := by
    unfold lg_cmp
    rw [← ha, ← e]
    simp only [gt_iff_lt, fa_lt64, fa_eq64]
    split
    · constructor
      · intro h; exact absurd h (by decide)
      · intro h; omega
    · split
      · constructor
        · intro h; exact absurd h (by decide)
        · intro h; omega
      · constructor
        · intro _; omega
        · intro _; decide
  have c2 : (0 < lg_cmp x.toInt64 hi) ↔ b < x.toInt := by
    unfold lg_cmp
    rw [← hb, ← e]
    simp only [gt_iff_lt, fa_lt64, fa_eq64]
    split
    · constructor
      · intro _; omega
      · intro _; decide
    · split
      · constructor
        · intro h; exact absurd h (by decide)
        · intro h; omega
      · constructor
        · intro h; exact absurd h (by decide)
        · intro h; omega
  unfold wpX12_in
  rw [c1, c2]
  refine ⟨fun h => h0 (Or.inl h), fun h => ⟨fun h2 => h0 (Or.inr h2), fun h2 => h1 (by omega) (by omega)⟩⟩
theorem vb1 : vb 1 := by unfold vb; decide
theorem vb0 : vb 0 := by unfold vb; decide
theorem vi_0_3' : vp_in 0 3 := by unfold vp_in; decide
theorem vi_1_3' : vp_in 1 3 := by unfold vp_in; decide
theorem vi_2_3' : vp_in 2 3 := by unfold vp_in; decide
