/-! places in a row -/
def pos : List Nat → Nat → Nat
  | [], _ => 0
  | b :: r, a => if b = a then 0 else pos r a + 1
theorem pos_c (b : Nat) (r : List Nat) (a : Nat) : pos (b :: r) a = if b = a then 0 else pos r a + 1 := rfl
theorem pos_le (a : Nat) : ∀ L : List Nat, pos L a ≤ L.length
  | [] => Nat.le_refl _
  | b :: r => by
    have ih := pos_le a r
    rw [pos_c, List.length_cons]
    split <;> omega
theorem pos_mem (a : Nat) : ∀ L : List Nat, pos L a < L.length ↔ a ∈ L
  | [] => ⟨fun h => absurd h (Nat.not_lt_zero _), fun h => absurd h (List.not_mem_nil)⟩
  | b :: r => by
    have ih := pos_mem a r
    rw [pos_c, List.length_cons, List.mem_cons]
    by_cases h : b = a
    · rw [if_pos h]; exact ⟨fun _ => Or.inl h.symm, fun _ => by omega⟩
    · rw [if_neg h]
      constructor
      · intro q; exact Or.inr (ih.mp (by omega))
      · intro q
        rcases q with q | q
        · exact absurd q.symm h
        · have := ih.mpr q; omega
theorem pos_get (a : Nat) : ∀ L : List Nat, a ∈ L → L.getD (pos L a) 0 = a
  | [], h => absurd h (List.not_mem_nil)
  | b :: r, h => by
    rw [pos_c]
    by_cases hb : b = a
    · rw [if_pos hb]; exact hb
    · rw [if_neg hb]
      rcases List.mem_cons.mp h with q | q
      · exact absurd q.symm hb
      · exact pos_get a r q
theorem pos_ne (a : Nat) : ∀ (L : List Nat) (j : Nat), j < pos L a → L.getD j 0 ≠ a
  | [], j, h => absurd h (Nat.not_lt_zero _)
  | b :: r, j, h => by
    rw [pos_c] at h
    by_cases hb : b = a
    · rw [if_pos hb] at h; exact absurd h (Nat.not_lt_zero _)
    · rw [if_neg hb] at h
      cases j with
      | zero => exact hb
      | succ j => exact pos_ne a r j (by omega)
theorem pos_app (a : Nat) : ∀ L M : List Nat, pos (L ++ M) a = if a ∈ L then pos L a else L.length + pos M a
  | [], M => by rw [if_neg (List.not_mem_nil)]; simp
  | b :: r, M => by
    have ih := pos_app a r M
    rw [List.cons_append, pos_c, pos_c, List.length_cons]
    by_cases hb : b = a
    · rw [if_pos hb, if_pos hb, if_pos (by rw [hb]; exact List.mem_cons_self)]
    · rw [if_neg hb, if_neg hb, ih]
      by_cases hm : a ∈ r
      · rw [if_pos hm, if_pos (List.mem_cons_of_mem _ hm)]
      · rw [if_neg hm, if_neg (fun q => by
          rcases List.mem_cons.mp q with w | w
          · exact hb w.symm
          · exact hm w)]
        omega
theorem getD_app (L M : List Nat) {i : Nat} (h : i < L.length) : (L ++ M).getD i 0 = L.getD i 0 := by
  simp [List.getD, List.getElem?_append_left h]
/-! the forces there, by a row that is laid as far as a place -/
def frP (st : Nat → Int32) (L : List Nat) (p c k : Nat) : Nat := if pos L (onN st k) ≤ p ∧ (ceN st k).testBit c = true then foN (kN st k) (prN st k) (p - pos L (onN st k)) else 0
def mxP (st : Nat → Int32) (L : List Nat) (p c : Nat) : Nat → Nat
  | 0 => 0
  | k + 1 => max (mxP st L p c k) (frP st L p c k)
theorem mxP_s (st : Nat → Int32) (L : List Nat) (p c k : Nat) : mxP st L p c (k + 1) = max (mxP st L p c k) (frP st L p c k) := rfl
theorem mxP_ge (st : Nat → Int32) (L : List Nat) (p c q : Nat) (hq : 1 ≤ q) : ∀ m, q ≤ mxP st L p c m ↔ ∃ k, k < m ∧ q ≤ frP st L p c k
  | 0 => ⟨fun h => by have : mxP st L p c 0 = 0 := rfl
                      omega, fun ⟨k, h, _⟩ => absurd h (Nat.not_lt_zero k)⟩
  | m + 1 => by
    have ih := mxP_ge st L p c q hq m
    rw [mxP_s]
    constructor
    · intro h
      by_cases h1 : q ≤ mxP st L p c m
      · obtain ⟨k, hk, hk2⟩ := ih.mp h1
        exact ⟨k, by omega, hk2⟩
      · exact ⟨m, by omega, by omega⟩
    · rintro ⟨k, hk, hk2⟩
      by_cases hkm : k = m
      · subst hkm; omega
      · have := ih.mpr ⟨k, by omega, hk2⟩
        omega
def dnN (st : Nat → Int32) (s c : Nat) : Nat := (st (12 + 12 * s + c)).toNatClampNeg
/-- the sheet at a place fits -/
def okP (st : Nat → Int32) (L : List Nat) (p : Nat) : Bool := (List.range 12).all (fun c => decide (mxP st L p c (mN st) = dnN st (L.getD p 0) c))
theorem okP_iff (st : Nat → Int32) (L : List Nat) (p : Nat) : okP st L p = true ↔ ∀ c, c < 12 → mxP st L p c (mN st) = dnN st (L.getD p 0) c := by
  unfold okP
  rw [List.all_eq_true]
  constructor
  · intro h c hc; exact of_decide_eq_true (h c (List.mem_range.mpr hc))
  · intro h c hc; exact decide_eq_true (h c (List.mem_range.mp hc))
theorem frP_app (st : Nat → Int32) (L M : List Nat) {p c k : Nat} (hp : p < L.length) : frP st (L ++ M) p c k = frP st L p c k := by
  unfold frP
  rw [pos_app]
  by_cases hm : onN st k ∈ L
  · rw [if_pos hm]
  · rw [if_neg hm]
    have h1 : ¬ pos L (onN st k) < L.length := fun q => hm ((pos_mem _ _).mp q)
    rw [if_neg (fun q => by omega), if_neg (fun q => by omega)]
theorem mxP_app (st : Nat → Int32) (L M : List Nat) {p c : Nat} (hp : p < L.length) : ∀ m, mxP st (L ++ M) p c m = mxP st L p c m
  | 0 => rfl
  | m + 1 => by rw [mxP_s, mxP_s, mxP_app st L M hp m, frP_app st L M hp]
theorem okP_app (st : Nat → Int32) (L M : List Nat) {p : Nat} (hp : p < L.length) : okP st (L ++ M) p = okP st L p := by
  unfold okP
  rw [getD_app L M hp]
  congr 1
  funext c
  rw [mxP_app st L M hp]
/-! all rows, and how many fit -/
def enS (g : List Nat → List (List Nat)) (pre : List Nat) : Nat → List (List Nat)
  | 0 => []
  | s + 1 => enS g pre s ++ (if s ∈ pre then [] else g (pre ++ [s]))
def enD (n : Nat) : Nat → List Nat → List (List Nat)
  | 0, pre => [pre]
  | f + 1, pre => enS (enD n f) pre n
def cnS (st : Nat → Int32) (g : List Nat → Nat) (pre : List Nat) : Nat → Nat
  | 0 => 0
  | s + 1 => cnS st g pre s + (if s ∈ pre then 0 else if okP st (pre ++ [s]) pre.length = true then g (pre ++ [s]) else 0)
def cnD (st : Nat → Int32) (n : Nat) : Nat → List Nat → Nat
  | 0, _ => 1
  | f + 1, pre => cnS st (cnD st n f) pre n
theorem cnS_s (st : Nat → Int32) (g : List Nat → Nat) (pre : List Nat) (s : Nat) : cnS st g pre (s + 1) = cnS st g pre s + (if s ∈ pre then 0 else if okP st (pre ++ [s]) pre.length = true then g (pre ++ [s]) else 0) := rfl
theorem cnD_s (st : Nat → Int32) (n f : Nat) (pre : List Nat) : cnD st n (f + 1) pre = cnS st (cnD st n f) pre n := rfl
theorem cnS_mono (st : Nat → Int32) (g : List Nat → Nat) (pre : List Nat) (a : Nat) : ∀ d, cnS st g pre a ≤ cnS st g pre (a + d)
  | 0 => Nat.le_refl _
  | d + 1 => by
    have := cnS_mono st g pre a d
    rw [show a + (d + 1) = a + d + 1 by omega, cnS_s]; omega
def fitB2 (st : Nat → Int32) (L : List Nat) : Nat → Bool
  | 0 => true
  | p + 1 => fitB2 st L p && okP st L p
theorem fitB2_s (st : Nat → Int32) (L : List Nat) (p : Nat) : fitB2 st L (p + 1) = (fitB2 st L p && okP st L p) := rfl
theorem fitB2_iff (st : Nat → Int32) (L : List Nat) : ∀ n, fitB2 st L n = true ↔ ∀ p, p < n → okP st L p = true
  | 0 => ⟨fun _ p hp => absurd hp (Nat.not_lt_zero p), fun _ => rfl⟩
  | n + 1 => by
    have ih := fitB2_iff st L n
    rw [fitB2_s, Bool.and_eq_true, ih]
    constructor
    · rintro ⟨h1, h2⟩ p hp
      by_cases hpn : p = n
      · subst hpn; exact h2
      · exact h1 p (by omega)
    · intro h; exact ⟨fun p hp => h p (by omega), h n (by omega)⟩
theorem fitB2_app (st : Nat → Int32) (L M : List Nat) : ∀ n, n ≤ L.length → fitB2 st (L ++ M) n = fitB2 st L n
  | 0, _ => rfl
  | n + 1, h => by rw [fitB2_s, fitB2_s, fitB2_app st L M n (by omega), okP_app st L M (by omega)]
theorem cnt_all (st : Nat → Int32) (n : Nat) : ∀ (f : Nat) (pre : List Nat), pre.length + f = n → (enD n f pre).countP (fun L => fitB2 st L n) = if fitB2 st pre pre.length = true then cnD st n f pre else 0
  | 0, pre, h => by
    have e : pre.length = n := by omega
    show List.countP _ [pre] = _
    rw [e]
    by_cases hf : fitB2 st pre n = true
    · rw [if_pos hf]; simp [hf, cnD]
    · rw [if_neg hf]; simp [hf]
  | f + 1, pre, h => by
    have key : ∀ s, (enS (enD n f) pre s).countP (fun L => fitB2 st L n) = if fitB2 st pre pre.length = true then cnS st (cnD st n f) pre s else 0 := by
      intro s
      induction s with
      | zero => 
        show List.countP _ [] = _
        split <;> rfl
      | succ s ih =>
        show List.countP _ (enS (enD n f) pre s ++ _) = _
        rw [List.countP_append, ih, cnS_s]
        by_cases hm : s ∈ pre
        · rw [if_pos hm, if_pos hm]; rfl
        · rw [if_neg hm, if_neg hm, cnt_all st n f (pre ++ [s]) (by rw [List.length_append]; simp; omega)]
          have e1 : (pre ++ [s]).length = pre.length + 1 := by simp
          rw [e1, fitB2_s, fitB2_app st pre [s] pre.length (Nat.le_refl _)]
          by_cases hf : fitB2 st pre pre.length = true
          · rw [if_pos hf, if_pos hf, hf, Bool.true_and]
          · rw [if_neg hf, if_neg hf, if_neg (fun q => hf (by rw [Bool.and_eq_true] at q; exact q.1))]
    exact key n
/-! the next row -/
def fI (g : Nat → Nat) : Nat → Nat
  | 0 => 0
  | i + 1 => if g i ≤ g (i + 1) then i + 1 else fI g i
def fJ (g : Nat → Nat) (i : Nat) : Nat → Nat
  | 0 => 0
  | j + 1 => if g i ≤ g (j + 1) then j + 1 else fJ g i j
def swp (g : Nat → Nat) (i j : Nat) : Nat → Nat := fun k => if k = j then g i else if k = i then g j else g k
def rvF : Nat → Nat → Nat → (Nat → Nat) → (Nat → Nat)
  | 0, _, _, g => g
  | f + 1, lo, hi, g => if hi ≤ lo then g else rvF f (lo + 1) (hi - 1) (swp g lo hi)
def nxF (n : Nat) (g : Nat → Nat) : Nat → Nat := rvF n (fI g (n - 1)) (n - 1) (swp g (fI g (n - 1) - 1) (fJ g (fI g (n - 1) - 1) (n - 1)))
def gL (L : List Nat) : Nat → Nat := fun k => L.getD k 0
def eqN (f g : Nat → Nat) : Nat → Bool
  | 0 => true
  | n + 1 => eqN f g n && (f n == g n)
theorem eqN_iff (f g : Nat → Nat) : ∀ n, eqN f g n = true → ∀ k, k < n → f k = g k
  | 0, _, k, hk => absurd hk (Nat.not_lt_zero k)
  | n + 1, h, k, hk => by
    have h' : (eqN f g n && (f n == g n)) = true := h
    rw [Bool.and_eq_true] at h'
    by_cases hkn : k = n
    · subst hkn; exact eq_of_beq h'.2
    · exact eqN_iff f g n h'.1 k (by omega)
def chk (n : Nat) : List (List Nat) → Bool
  | [] => true
  | a :: r => (match r with
    | [] => fI (gL a) (n - 1) == 0
    | b :: _ => (Nat.blt 0 (fI (gL a) (n - 1))) && eqN (nxF n (gL a)) (gL b) n) && chk n r
def good (n : Nat) (L : List Nat) : Bool := (L.length == n) && (List.range n).all (fun s => L.contains s) && L.all (fun s => Nat.blt s n)
theorem enD_ok : ∀ n, n < 7 → 0 < n → chk n (enD n n []) = true ∧ (enD n n []).all (good n) = true ∧ (enD n n []).length ≤ 720 ∧ (enD n n []).head? = some (List.range n) := by decide +kernel
