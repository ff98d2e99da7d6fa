/-! words of the class -/
def WN (w j : Nat) : Nat := ((if w = 0 then [112, 97, 100] else if w = 1 then [99, 97, 114, 98, 111, 110] else if w = 2 then [116, 101, 97, 114] else [110, 111, 116, 101]) : List Nat).getD j 0
def wCode (w : Nat) : Nat := if w = 0 then 1 else if w = 1 then 2 else if w = 2 then 4 else 3
theorem WN_ok : ∀ w, w < 4 → ∀ j, j < lenS.getD w 0 → (bytS.getD w []).getD j 0 = nI (WN w j) ∧ WN w j < 1000 := by decide +kernel
theorem lenS_le : ∀ w, w < 4 → lenS.getD w 0 ≤ 6 := by decide
theorem wd_iff {c : Nat → Nat} {s l w : Nat} (hw : w < 4) : wdK c s l = wCode w ↔ l = lenS.getD w 0 ∧ ∀ j, j < lenS.getD w 0 → c (s + j) = WN w j := by
  have a3 : ∀ f : Nat → Nat, (∀ j, j < 3 → c (s + j) = f j) ↔ c s = f 0 ∧ c (s + 1) = f 1 ∧ c (s + 2) = f 2 := fun f => ⟨fun h => ⟨h 0 (by omega), h 1 (by omega), h 2 (by omega)⟩, fun h j hj => by
    rcases (show j = 0 ∨ j = 1 ∨ j = 2 by omega) with rfl | rfl | rfl
    · exact h.1
    · exact h.2.1
    · exact h.2.2⟩
  have a4 : ∀ f : Nat → Nat, (∀ j, j < 4 → c (s + j) = f j) ↔ c s = f 0 ∧ c (s + 1) = f 1 ∧ c (s + 2) = f 2 ∧ c (s + 3) = f 3 := fun f => ⟨fun h => ⟨h 0 (by omega), h 1 (by omega), h 2 (by omega), h 3 (by omega)⟩, fun h j hj => by
    rcases (show j = 0 ∨ j = 1 ∨ j = 2 ∨ j = 3 by omega) with rfl | rfl | rfl | rfl
    · exact h.1
    · exact h.2.1
    · exact h.2.2.1
    · exact h.2.2.2⟩
  have a6 : ∀ f : Nat → Nat, (∀ j, j < 6 → c (s + j) = f j) ↔ c s = f 0 ∧ c (s + 1) = f 1 ∧ c (s + 2) = f 2 ∧ c (s + 3) = f 3 ∧ c (s + 4) = f 4 ∧ c (s + 5) = f 5 := fun f => ⟨fun h => ⟨h 0 (by omega), h 1 (by omega), h 2 (by omega), h 3 (by omega), h 4 (by omega), h 5 (by omega)⟩, fun h j hj => by
    rcases (show j = 0 ∨ j = 1 ∨ j = 2 ∨ j = 3 ∨ j = 4 ∨ j = 5 by omega) with rfl | rfl | rfl | rfl | rfl | rfl
    · exact h.1
    · exact h.2.1
    · exact h.2.2.1
    · exact h.2.2.2.1
    · exact h.2.2.2.2.1
    · exact h.2.2.2.2.2⟩
  rcases (show w = 0 ∨ w = 1 ∨ w = 2 ∨ w = 3 by omega) with rfl | rfl | rfl | rfl
  · show wdK c s l = 1 ↔ l = 3 ∧ ∀ j, j < 3 → c (s + j) = WN 0 j
    rw [a3 (WN 0)]
    show wdK c s l = 1 ↔ l = 3 ∧ c s = 112 ∧ c (s + 1) = 97 ∧ c (s + 2) = 100
    unfold wdK
    split
    · rename_i h; exact ⟨fun _ => h, fun _ => rfl⟩
    · rename_i h
      refine ⟨fun q => ?_, fun q => absurd q h⟩
      split at q
      · omega
      · split at q
        · omega
        · split at q <;> omega
  · show wdK c s l = 2 ↔ l = 6 ∧ ∀ j, j < 6 → c (s + j) = WN 1 j
    rw [a6 (WN 1)]
    show wdK c s l = 2 ↔ l = 6 ∧ c s = 99 ∧ c (s + 1) = 97 ∧ c (s + 2) = 114 ∧ c (s + 3) = 98 ∧ c (s + 4) = 111 ∧ c (s + 5) = 110
    unfold wdK
    split
    · rename_i h; exact ⟨fun q => by omega, fun q => by omega⟩
    · split
      · rename_i h1 h; exact ⟨fun _ => h, fun _ => rfl⟩
      · rename_i h1 h
        refine ⟨fun q => ?_, fun q => absurd q h⟩
        split at q
        · omega
        · split at q <;> omega
  · show wdK c s l = 4 ↔ l = 4 ∧ ∀ j, j < 4 → c (s + j) = WN 2 j
    rw [a4 (WN 2)]
    show wdK c s l = 4 ↔ l = 4 ∧ c s = 116 ∧ c (s + 1) = 101 ∧ c (s + 2) = 97 ∧ c (s + 3) = 114
    unfold wdK
    split
    · rename_i h; exact ⟨fun q => by omega, fun q => by omega⟩
    · split
      · rename_i h1 h; exact ⟨fun q => by omega, fun q => by omega⟩
      · split
        · rename_i h1 h2 h; exact ⟨fun q => by omega, fun q => by omega⟩
        · split
          · rename_i h1 h2 h3 h; exact ⟨fun _ => h, fun _ => rfl⟩
          · rename_i h1 h2 h3 h; exact ⟨fun q => by omega, fun q => absurd q h⟩
  · show wdK c s l = 3 ↔ l = 4 ∧ ∀ j, j < 4 → c (s + j) = WN 3 j
    rw [a4 (WN 3)]
    show wdK c s l = 3 ↔ l = 4 ∧ c s = 110 ∧ c (s + 1) = 111 ∧ c (s + 2) = 116 ∧ c (s + 3) = 101
    unfold wdK
    split
    · rename_i h; exact ⟨fun q => by omega, fun q => by omega⟩
    · split
      · rename_i h1 h; exact ⟨fun q => by omega, fun q => by omega⟩
      · split
        · rename_i h1 h2 h; exact ⟨fun _ => h, fun _ => rfl⟩
        · rename_i h1 h2 h
          refine ⟨fun q => ?_, fun q => absurd q h⟩
          split at q <;> omega
theorem tK_word (c : Nat → Nat) (b i : Nat) : (tC c b i = 1 → tK c b i = wdK c (tS c b i) (tE c b i - tS c b i)) ∧ (tC c b i ≠ 1 → tK c b i = 0 ∨ 5 ≤ tK c b i) := by
  unfold tK tC
  by_cases h0 : tS c b i = b
  · rw [if_pos h0, if_pos h0]; exact ⟨fun q => by omega, fun _ => by omega⟩
  · rw [if_neg h0, if_neg h0]
    by_cases h1 : isL c (tS c b i) = true
    · rw [if_pos h1, if_pos h1]; exact ⟨fun _ => rfl, fun q => absurd rfl q⟩
    · rw [if_neg h1, if_neg h1]
      by_cases h2 : isD c (tS c b i) = true
      · rw [if_pos h2, if_pos h2]
        split
        · exact ⟨fun q => by omega, fun _ => by omega⟩
        · exact ⟨fun q => by omega, fun _ => by omega⟩
      · rw [if_neg h2, if_neg h2]
        split
        · exact ⟨fun q => by omega, fun _ => by omega⟩
        · exact ⟨fun q => by omega, fun _ => by omega⟩
theorem wCode_b (w : Nat) : 1 ≤ wCode w ∧ wCode w ≤ 4 := by
  unfold wCode
  split
  · omega
  · split
    · omega
    · split <;> omega
theorem k_isWord {p : St} {c : Nat → Nat} {b i w : Nat} (hT : TX p c b) (hi : i ≤ b) (hk : TkC p c b i) (hw : w < 4) {Post : Int32 → Prop} (h1 : tK c b i = wCode w → Post 1) (h0 : tK c b i ≠ wCode w → Post 0) : wpX7_isWord w p Post := by
  have hb := hT.1
  have hs := tS_b (c := c) hi
  have hE := tE_b (c := c) hi
  obtain ⟨k4, k2, k3, k5⟩ := hk
  obtain ⟨w1, w2⟩ := tK_word c b i
  have hC := (tK_C c b i).2.2.2.1
  have hwc := wCode_b w
  unfold wpX7_isWord
  rw [k3, k2, k4, pk_sub hE.1]
  refine nq (w := 1) (by omega) (by omega) (fun q => h0 (by have := w2 q; omega)) (fun q => ⟨hw, ?_⟩)
  have hl6 := lenS_le w hw
  rw [w1 q] at h1 h0
  have hiff := wd_iff (c := c) (s := tS c b i) (l := tE c b i - tS c b i) hw
  refine ⟨fun hl => ?_, fun hl => h0 (fun w => hl (by rw [(hiff.mp w).1]))⟩
  have hl' : tE c b i - tS c b i = lenS.getD w 0 := (nI_eq (by omega) (by omega)).mp hl
  refine it_rule (F := fun self z => wlX7_isWord_28 w p Post (Post 1) self z) (fun z => ∃ j, z = nI j ∧ j ≤ lenS.getD w 0 ∧ ∀ k, k < j → c (tS c b i + k) = WN w k) (fun z => 6 - z.toNatClampNeg) ?_ _ ⟨0, rfl, by omega, fun k hk => absurd hk (Nat.not_lt_zero k)⟩
  rintro self z ⟨j, rfl, hj, a⟩ hself
  unfold wlX7_isWord_28
  refine ⟨hw, pk_le (lenS.getD w 0) j (fun hle => h1 (hiff.mpr ⟨hl', fun k hk => a k (by omega)⟩)) (fun hlt => ?_)⟩
  obtain ⟨g1, g2⟩ := hT.2.2 (tS c b i + j) (by omega)
  obtain ⟨g3, g4⟩ := WN_ok w hw j hlt
  rw [k4, nI_add, ncl (by omega), ncl (by omega), g1, g3]
  refine ⟨vp_in_nI (by omega) (by omega), hw, vp_in_nI (by omega) (by omega), fun q z ez => ?_, fun q => h0 (fun w => q ?_)⟩
  · have hq := (nI_eq (by omega) (by omega)).mp q
    rw [ez, nI_1]
    refine hself _ ⟨j + 1, rfl, by omega, fun k hk => ?_⟩ (by rw [ncl (by omega), ncl (by omega)]; omega)
    by_cases hkj : k = j
    · subst hkj; exact hq
    · exact a k (by omega)
  · rw [(hiff.mp w).2 j hlt]
def inN (c : Nat → Nat) (b i lo hi : Nat) : Prop := tK c b i = 6 ∧ lo ≤ tV c b i ∧ tV c b i ≤ hi
theorem k_isNumber {p : St} {c : Nat → Nat} {b i lo hi : Nat} (hi' : i ≤ b) (hk : TkC p c b i) (hlo : lo < 1000) (hhi : hi < 1000) {Post : Int32 → Prop} (h1 : inN c b i lo hi → Post 1) (h0 : ¬ inN c b i lo hi → Post 0) : wpX7_isNumber (nI lo) (nI hi) p Post := by
  obtain ⟨k4, k2, k3, k5⟩ := hk
  have hC := tK_C c b i
  unfold wpX7_isNumber
  rw [k3]
  refine nq (w := 2) (by omega) (by omega) (fun q => h0 (fun w => q (hC.2.2.1.mp w.1))) (fun q => ?_)
  have hK := hC.2.2.1.mpr q
  have hV := tV_b hi' hK
  rw [k5 hK]
  refine pk_lt (tV c b i) lo (fun g => h0 (fun w => by have := w.2.1; omega)) (fun g => pk_lt hi (tV c b i) (fun g2 => h0 (fun w => by have := w.2.2; omega)) (fun g2 => h1 ⟨hK, g, g2⟩))
theorem k_passStop {p : St} {c : Nat → Nat} {b i : Nat} (hT : TX p c b) (hi : i ≤ b) (hk : TkC p c b i) {Post : Int32 → St → Prop} (h1 : tK c b i = 5 → ∀ y : St, y.2 = p.2 → y.I 1 = p.I 1 → TkC y c b (tE c b i) → Post 1 y) (h0 : tK c b i ≠ 5 → Post 0 p) : wpX7_passStop p Post := by
  have hk' := hk
  obtain ⟨k4, k2, k3, k5⟩ := hk'
  have hC := tK_C c b i
  have hE := tE_b (c := c) hi
  unfold wpX7_passStop
  rw [k3]
  refine ⟨fun q => ?_, fun q => h0 (fun w => q (by rw [hC.2.1.mp w]; rfl))⟩
  have hK := hC.2.1.mpr ((nI_eq (b := 3) (by omega) (by decide)).mp q)
  exact k_step hT hE.2.1 k2 (fun y a1 a2 a3 a4 a5 => h1 hK y a1 a2 a5)
/-! the cells of a note -/
def cel (c : Nat → Nat) (b : Nat) : Nat → Nat → Nat → Nat → Nat × Nat
  | 0, _, acc, i => (acc, i)
  | f + 1, le, acc, i => if tK c b i = 6 ∧ le ≤ tV c b i ∧ tV c b i ≤ 11 then cel c b f (tV c b i + 1) (acc ||| 2 ^ tV c b i) (tE c b i) else (acc, i)
theorem cel_s (c : Nat → Nat) (b f le acc i : Nat) : cel c b (f + 1) le acc i = if tK c b i = 6 ∧ le ≤ tV c b i ∧ tV c b i ≤ 11 then cel c b f (tV c b i + 1) (acc ||| 2 ^ tV c b i) (tE c b i) else (acc, i) := rfl
theorem cel_b {c : Nat → Nat} {b : Nat} : ∀ (f le acc i : Nat), i ≤ b → acc < 4096 → i ≤ (cel c b f le acc i).2 ∧ (cel c b f le acc i).2 ≤ b ∧ (cel c b f le acc i).1 < 4096
  | 0, le, acc, i, hi, ha => ⟨Nat.le_refl _, hi, ha⟩
  | f + 1, le, acc, i, hi, ha => by
    rw [cel_s]
    split
    · rename_i h
      have hE := tE_b (c := c) hi
      have hs := tS_b (c := c) hi
      have := cel_b (c := c) f (tV c b i + 1) (acc ||| 2 ^ tV c b i) (tE c b i) hE.2.1 (or_lt (n := 12) ha (by omega))
      exact ⟨by omega, this.2⟩
    · exact ⟨Nat.le_refl _, hi, ha⟩
theorem k_readCells {p : St} {c : Nat → Nat} {b i : Nat} (hT : TX p c b) (hi : i ≤ b) (hk : TkC p c b i) {Post : Int32 → St → Prop} (h : ∀ y : St, y.2 = p.2 → y.I 1 = p.I 1 → y.I 6 = p.I 6 → y.I 7 = p.I 7 → TkC y c b (cel c b 12 0 0 i).2 → Post (nI (cel c b 12 0 0 i).1) y) : wpX7_readCells p Post := by
  unfold wpX7_readCells
  refine it_rule (F := fun self z => wlX7_readCells_6 Post _ self z.1 z.2.1 z.2.2.1 z.2.2.2) (fun z => ∃ (t acc le j : Nat) (y : St), z = (nI acc, nI le, nI t, y) ∧ t ≤ 12 ∧ le ≤ 12 ∧ j ≤ b ∧ acc < 4096 ∧ cel c b (12 - t) le acc j = cel c b 12 0 0 i ∧ y.2 = p.2 ∧ y.I 1 = p.I 1 ∧ y.I 6 = p.I 6 ∧ y.I 7 = p.I 7 ∧ TkC y c b j) (fun z => 12 - z.2.2.1.toNatClampNeg) ?_ _ ⟨0, 0, 0, i, p, rfl, by omega, by omega, hi, by omega, rfl, rfl, rfl, rfl, rfl, hk⟩
  rintro self z ⟨t, acc, le, j, y, rfl, ht, hle, hj, hacc, hc, a1, a2, a3, a4, a5⟩ hself
  dsimp only at hself ⊢
  unfold wlX7_readCells_6
  refine pk_le 12 t (fun hge => ?_) (fun hlt => ?_)
  · rw [show 12 - t = 0 by omega] at hc
    have e1 : (cel c b 12 0 0 i).1 = acc := by rw [← hc]; rfl
    have e2 : (cel c b 12 0 0 i).2 = j := by rw [← hc]; rfl
    rw [← e1]
    exact h y a1 a2 a3 a4 (by rw [e2]; exact a5)
  · rw [show 12 - t = (12 - (t + 1)) + 1 by omega, cel_s] at hc
    have hTy := TX_of hT a1 a2
    refine k_isNumber (hi := 11) hj a5 (by omega) (by omega) (fun q => b1e (fun acc' ea le' el => ?_)) (fun q => b0e ?_)
    · unfold inN at q
      rw [if_pos q] at hc
      have hV := q.2.2
      rw [a5.2.2.2 q.1, sh_or (by omega)] at ea
      rw [a5.2.2.2 q.1, nI_1] at el
      have hE := tE_b (c := c) hj
      refine k_step hTy hE.2.1 a5.2.1 (fun y4 b1 b2 b3 b4 b5 t' et => ?_)
      subst ea; subst el; subst et
      rw [nI_1]
      exact hself _ ⟨t + 1, acc ||| 2 ^ tV c b j, tV c b j + 1, tE c b j, y4, rfl, by omega, by omega, hE.2.1, or_lt (n := 12) hacc (by omega), hc, b1.trans a1, b2.trans a2, b3.trans a3, b4.trans a4, b5⟩ (by dsimp only; rw [ncl (by omega), ncl (by omega)]; omega)
    · unfold inN at q
      rw [if_neg q] at hc
      have e1 : (cel c b 12 0 0 i).1 = acc := by rw [← hc]
      have e2 : (cel c b 12 0 0 i).2 = j := by rw [← hc]
      rw [← e1]
      exact h y a1 a2 a3 a4 (by rw [e2]; exact a5)
