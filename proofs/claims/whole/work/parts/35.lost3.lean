/-- the relation doesn't look at the model's must and may -/
theorem R_mm {t : Nat → St} {x x' : St} (h : Rel t x) (e1 : x'.2 = x.2) (e2 : ∀ k, k ≠ 21 → k ≠ 22 → x'.I k = x.I k) : Rel t x' := by
  have hA : ∀ k, x'.A k = x.A k := fun k => by show x'.2.2 k = x.2.2 k; rw [e1]
  have hL : ∀ k, x'.L k = x.L k := fun k => by show x'.2.1 k = x.2.1 k; rw [e1]
  unfold Rel NowR ObjR TxtR ImsR at *
  rw [hA, hA, hA, hA, hA, hA, hA, hL, hL, e2 0 (by decide) (by decide), e2 1 (by decide) (by decide), e2 3 (by decide) (by decide), e2 6 (by decide) (by decide), e2 11 (by decide) (by decide)]
  exact h
theorem k_words {t : Nat → St} {w : Nat} (ew : (t 2).I 11 = nI w) (hw : w ≤ 8) {Post : Int32 → Prop} (h : Post (bitsN (fun i => fitB ((t 6).I 2) ((t 6).I 3) ((t 2).A 10 i)) w)) : wpX11_wordsThatFit t Post := by
  refine for_rule (F := fun self z => wlX11_wordsThatFit_4 t Post _ self z.1 z.2) w (fun i => (bitsN (fun i => fitB ((t 6).I 2) ((t 6).I 3) ((t 2).A 10 i)) i, nI i)) ?_ ?_
  · intro self i hi hself
    dsimp only at hself ⊢
    rw [bitsN_s] at hself
    unfold wlX11_wordsThatFit_4
    rw [ew, ncl (by omega)]
    refine ⟨fun z => absurd z (nI_ge hi (by omega)), fun _ => ⟨vp_in_nI (by omega) (by omega), k_isFit ?_⟩⟩
    cases hf : fitB ((t 6).I 2) ((t 6).I 3) ((t 2).A 10 i) with
    | false =>
      rw [hf] at hself
      refine b0e ?_
      intro z ez
      subst ez
      rw [nI_1]; exact hself
    | true =>
      rw [hf] at hself
      refine b1e ?_
      intro y ey z ez
      subst ey; subst ez
      rw [nI_1]; exact hself
  · intro self
    dsimp only
    unfold wlX11_wordsThatFit_4
    rw [ew]
    exact ⟨fun _ => h, fun z => absurd (nI_le (Nat.le_refl _) (by omega)) z⟩
theorem m_wordsL {x : St} {w : Nat} {a b : Int32} (ew : x.I 3 = nI w) (hw : w ≤ 8) {Post : Int32 → St → Prop} {KX : Int32 → Int32 → Int32 → St → Prop} (h : KX a b (bitsN (fun i => fitB (x.I 21) (x.I 22) (x.A 2 i)) w) x) : ∃ n, wLX12_lost_110 Post KX n (a, b, 0, 0, x) := by
  refine for_rule (F := fun self z => wlX12_lost_110 Post KX self z.1 z.2.1 z.2.2.1 z.2.2.2.1 z.2.2.2.2) w (fun i => (a, b, bitsN (fun i => fitB (x.I 21) (x.I 22) (x.A 2 i)) i, nI i, x)) ?_ ?_
  · intro self i hi hself
    dsimp only at hself ⊢
    rw [bitsN_s] at hself
    unfold wlX12_lost_110
    rw [ew, ncl (by omega)]
    refine ⟨fun z => absurd z (nI_ge hi (by omega)), fun _ => ⟨vp_in_nI (by omega) (by omega), m_fits ?_⟩⟩
    cases hf : fitB (x.I 21) (x.I 22) (x.A 2 i) with
    | false =>
      rw [hf] at hself
      refine b0e ?_
      intro y ey z ez
      subst ey; subst ez
      rw [nI_1, or_0]; exact hself
    | true =>
      rw [hf] at hself
      refine b1e ?_
      intro y ey z ez
      subst ey; subst ez
      rw [nI_1]; exact hself
  · intro self
    dsimp only
    unfold wlX12_lost_110
    rw [ew]
    exact ⟨fun _ => h, fun z => absurd (nI_le (Nat.le_refl _) (by omega)) z⟩
def seS (st : Nat → Int32) (s c : Nat) : Int32 := st (12 + 12 * s + c)
def exS (st : Nat → Int32) (s K c : Nat) : Int32 := exN st s K c (mN st)
theorem bits_small (P : Nat → Bool) (y : Int32) : ∃ m, m < 4096 ∧ bitsN P 12 &&& y = nI m := by
  apply small12
  intro i h1 h2
  refine and_small ?_
  rw [bt_bitsN P 12 (by omega) i h2]
  simp; omega
/-- what lost answers -/
def lostV (st wo : Nat → Int32) (s K w : Nat) (f x6 : Int32) : Int32 :=
  if okR (seS st s) (exS st s K) f 12 then
    (if x6 = 0 then bitsN (muB (seS st s) (exS st s K)) 12 else if x6 = 1 then bitsN (maB (seS st s) (exS st s K) f) 12 else if x6 = 2 then (1 : Int32) <<< (bc (bitsN (maB (seS st s) (exS st s K) f) 12 &&& (bitsN (muB (seS st s) (exS st s K)) 12 ^^^ (-1))) &&& 31)
     else bitsN (fun i => fitB (bitsN (muB (seS st s) (exS st s K)) 12) (bitsN (maB (seS st s) (exS st s K) f) 12) (wo i)) w)
  else if 2 ≤ x6 then 0 else -1
def lostOK (x1 x2 x3 x4 x5 x6 : Int32) (n m : Nat) : Prop := (0 ≤ x1.toInt ∧ x1.toInt < n) ∧ (0 ≤ x2.toInt ∧ x2.toInt < ((2 ^ m : Nat) : Int)) ∧ (0 ≤ x3.toInt ∧ x3.toInt ≤ 5 ∧ 1 ≤ x4.toInt ∧ x4.toInt ≤ 9) ∧ (0 ≤ x5.toInt ∧ x5.toInt ≤ 5) ∧ 0 ≤ x6.toInt ∧ x6.toInt ≤ 3
theorem k_lost {t : Nat → St} {st wo : Nat → Int32} {n w : Nat} (hR : RP ((t 2).A 0) (t 2) st) (hW : WF st n) (hn : n ≤ 6) (eI : (t 2).I 3 = nI n) (ew : (t 2).I 11 = nI w) (hw : w ≤ 8) (hwo : ∀ i, i < w → (t 2).A 10 i = wo i) {x1 x2 x3 x4 x5 x6 : Int32} {Post : Int32 → (Nat → St) → Prop} (hb : ¬ lostOK x1 x2 x3 x4 x5 x6 n (mN st) → Post (-10) (badT t)) (hg : lostOK x1 x2 x3 x4 x5 x6 n (mN st) → ∀ s K y, x1 = nI s → s < 6 → x2 = nI K → K < 2 ^ 31 → Post (lostV st wo s K w (fo x3 x4 x5) x6) (upS t 6 y)) : wpX11_lost x1 x2 x3 x4 x5 x6 t Post := by
  have em : (t 2).A 0 1 = nI (mN st) := hR.2.1.trans hW.2.2.1
  have hm := hW.2.2.2.1
  have fail : ¬ lostOK x1 x2 x3 x4 x5 x6 n (mN st) → wjX11_lost_36 Post x1 x2 x3 x4 x5 x6 0 t := fun q => by
    unfold wjX11_lost_36 wjX11_lost_62
    exact b0e (k_bad (hb q))
  unfold wpX11_lost
  refine k_hasSheet eI hn (fun a1 a2 => b1e ?_) (fun a => b0e (fail (fun q => ?_)))
  · refine k_hasNotes em hm (fun b1 b2 => b1e ?_) (fun b => b0e (fail (fun q => ?_)))
    · refine k_isPen (fun c1 c2 c3 c4 => b1e ?_) (fun c => b0e (fail (fun q => c q.2.2.1)))
      unfold wjX11_lost_36 wjX11_lost_62
      refine b1e (k_isDepth (fun d1 d2 => b1e ?_) (fun d => b0e (k_bad (hb (fun q => ?_)))))
      · refine v_le 0 3 (by decide) (by decide) (fun e => k_bad (hb (fun q => ?_))) (fun e1 e2 => ?_)
        · have := q.2.2.2.2; omega
        · have hok : lostOK x1 x2 x3 x4 x5 x6 n (mN st) := ⟨⟨a1, a2⟩, ⟨b1, b2⟩, ⟨c1, c2, c3, c4⟩, ⟨d1, d2⟩, e1, e2⟩
          obtain ⟨s, es, hs, _⟩ := toNI a1
          obtain ⟨K, eK, hK, hK31⟩ := toNI b1
          have hgo := fun y => hg hok s K y es (by omega) eK hK31
          subst es; subst eK
          refine k_look hR hW hn (by omega) hK31 (fun x' l1 l2 => ?_)
          intro t6 et6
          unfold wpX5_forceOf
          subst et6
          refine k_guess (se := seS st s) (ex := exS st s K) (x := x') l1 l2 (fun hy y g1 g2 g3 => ?_) (fun hno y g1 => ?_)
          · intro t10 et
            have et' : t10 = upS t 6 y := by
              rw [et]; funext j; unfold upS
              by_cases hj : j = 6
              · rw [if_pos hj, if_pos hj]
              · rw [if_neg hj, if_neg hj, if_neg hj]
            have hp := hgo y
            rw [← et'] at hp
            unfold lostV at hp
            rw [hy, if_pos rfl] at hp
            have t6 : t10 6 = y := by rw [et']; rfl
            have t2 : t10 2 = t 2 := by rw [et']; rfl
            refine b1n ⟨fun q => ?_, fun q => ?_, fun q => ?_, fun q0 q1 q2 => ?_⟩
            · rw [if_pos q] at hp; rw [t6, g2]; exact hp
            · rw [if_neg (by rw [q]; decide), if_pos q] at hp; rw [t6, g3]; exact hp
            · rw [if_neg (by rw [q]; decide), if_neg (by rw [q]; decide), if_pos q] at hp
              rw [t6, g2, g3]
              exact k_bitCount hp
            · rw [if_neg q0, if_neg q1, if_neg q2] at hp
              refine k_words (by rw [t2]; exact ew) hw ?_
              rw [t6, t2, g2, g3, bitsN_cong (Q := fun i => fitB (bitsN (muB (seS st s) (exS st s K)) 12) (bitsN (maB (seS st s) (exS st s K) (fo x3 x4 x5)) 12) (wo i)) (fun i hi => by rw [hwo i hi])]
              exact hp
          · intro t10 et
            have et' : t10 = upS t 6 y := by
              rw [et]; funext j; unfold upS
              by_cases hj : j = 6
              · rw [if_pos hj, if_pos hj]
              · rw [if_neg hj, if_neg hj, if_neg hj]
            have hp := hgo y
            rw [← et'] at hp
            unfold lostV at hp
            rw [hno, if_neg (by decide)] at hp
            refine b0n ⟨fun q => ?_, fun q => ?_⟩
            · rw [if_pos q] at hp; exact hp
            · rw [if_neg q] at hp; exact hp
      · have := q.2.2.2.1; omega
    · have := q.2.1; omega
  · have := q.1; omega
theorem m_lost {x : St} {n w : Nat} (hW : WF (x.A 4) n) (hn : n ≤ 6) (eI : x.I 0 = nI n) (ew : x.I 3 = nI w) (hw : w ≤ 8) {x1 x2 x3 x4 x5 x6 : Int32} {Post : Int32 → St → Prop} (hb : ¬ lostOK x1 x2 x3 x4 x5 x6 n (mN (x.A 4)) → Post (-10) (refX x 0)) (hg : lostOK x1 x2 x3 x4 x5 x6 n (mN (x.A 4)) → ∀ s K x', x1 = nI s → s < 6 → x2 = nI K → K < 2 ^ 31 → x'.2 = x.2 → (∀ k, k ≠ 21 → k ≠ 22 → x'.I k = x.I k) → Post (lostV (x.A 4) (x.A 2) s K w (fo x3 x4 x5) x6) x') : wpX12_lost x1 x2 x3 x4 x5 x6 x Post := by
  have em := hW.2.2.1
  have hm := hW.2.2.2.1
  unfold wpX12_lost wjX12_lost_51 wpX12_badLess
  refine m_isSheet eI hn (fun a1 a2 => b1e ?_) (fun a => b0e (m_ref0 (hb (fun q => ?_))))
  · refine m_areNotes em hm (fun b1 b2 => b1e ?_) (fun b => b0e (m_ref0 (hb (fun q => ?_))))
    · refine m_isPen (fun c1 c2 c3 c4 => b1e ?_) (fun c => b0e (m_ref0 (hb (fun q => c q.2.2.1))))
      refine in_rule 0 5 (by decide) (by decide) (fun d1 d2 => b1e ?_) (fun d => b0e (m_ref0 (hb (fun q => ?_))))
      · refine in_rule 0 3 (by decide) (by decide) (fun e1 e2 => b1n ?_) (fun e => b0n (m_ref0 (hb (fun q => ?_))))
        · have hok : lostOK x1 x2 x3 x4 x5 x6 n (mN (x.A 4)) := ⟨⟨a1, a2⟩, ⟨b1, b2⟩, ⟨c1, c2, c3, c4⟩, ⟨d1, d2⟩, e1, e2⟩
          obtain ⟨s, es, hs, _⟩ := toNI a1
          obtain ⟨K, eK, hK, hK31⟩ := toNI b1
          obtain ⟨k, ek, hk, _⟩ := toNI c1
          obtain ⟨v, ev, hv, _⟩ := toNI e1
          have hgo := fun x' => hg hok s K x' es (by omega) eK hK31
          subst es; subst eK; subst ek; subst ev
          refine m_force (by omega) ?_
          refine m_isLost hW hn (by omega) hK31 (se := seS (x.A 4) s) (ex := exS (x.A 4) s K) (fun _ _ => rfl) (fun _ _ => rfl) (fun x' g1 g2 g3 g4 => ?_)
          have hp := hgo x' g1 g2
          have hA : x'.A 2 = x.A 2 := by show x'.2.2 2 = x.2.2 2; rw [g1]
          unfold lostV at hp
          rw [g3, g4]
          refine pk_le 2 v (fun q => ?_) (fun q => ?_)
          · refine m_wordsL (w := w) (by rw [g2 3 (by decide) (by decide)]; exact ew) hw ?_
            rw [hA, g3, g4]
            cases ho : okR (seS (x.A 4) s) (exS (x.A 4) s K) (fo (nI k) x4 x5) 12 with
            | false =>
              rw [ho, if_neg (by decide), if_pos (show (2 : Int32) ≤ nI v from nI_le q (by omega))] at hp
              exact b0n hp
            | true =>
              rw [ho, if_pos rfl] at hp
              have n0 : ¬ nI v = 0 := fun z => by have := (nI_eq (b := 0) (by omega) (by decide)).mp z; omega
              have n1 : ¬ nI v = 1 := fun z => by have := (nI_eq (b := 1) (by omega) (by decide)).mp z; omega
              rw [if_neg n0, if_neg n1] at hp
              refine b1n ⟨fun z => ?_, fun z => ?_⟩
              · rw [if_neg z] at hp; exact hp
              · rw [if_pos z] at hp
                obtain ⟨b, hb1, hb2⟩ := bits_small (maB (seS (x.A 4) s) (exS (x.A 4) s K) (fo (nI k) x4 x5)) (bitsN (muB (seS (x.A 4) s) (exS (x.A 4) s K)) 12 ^^^ (-1))
                rw [hb2] at hp ⊢
                exact m_ones hb1 hp
          · cases ho : okR (seS (x.A 4) s) (exS (x.A 4) s K) (fo (nI k) x4 x5) 12 with
            | false =>
              rw [ho, if_neg (by decide), if_neg (fun z => by have := (nI_leI (a := 2) (by decide) (by omega)).mp z; omega)] at hp
              exact b0n hp
            | true =>
              rw [ho, if_pos rfl] at hp
              refine b1n ⟨fun z => ?_, fun z => ?_⟩
              · rw [if_neg z, if_pos (by rcases (show v = 0 ∨ v = 1 by omega) with rfl | rfl
                                         · exact absurd rfl z
                                         · rfl)] at hp
                exact hp
              · rw [if_pos z] at hp; exact hp
        · have := q.2.2.2.2; omega
      · have := q.2.2.2.1; omega
    · have := q.2.1; omega
  · have := q.1; omega
theorem s_lost {t : Nat → St} {x : St} (h : Rel t x) (x1 x2 x3 x4 x5 x6 : Int32) : SimI (wpX11_lost x1 x2 x3 x4 x5 x6 t) (wpX12_lost x1 x2 x3 x4 x5 x6 x) := by
  obtain ⟨n, w, u, e1, e2, e3, hc, g⟩ := h.1.got
  have hn6 := g.2.1
  obtain ⟨hR, hW⟩ := g.cur
  refine k_lost (wo := x.A 2) hR hW hn6 g.2.2.1 g.2.2.2.2.1 g.2.2.2.1 (fun i hi => (g.2.2.2.2.2.2.2.1 i hi).1) (fun hb => ?_) (fun hok s K y es hs eK hK => ?_)
  · exact m_lost hW hn6 e1 e2 g.2.2.2.1 (fun _ => ⟨rfl, R_bad h⟩) (fun hok => absurd hok hb)
  · refine m_lost hW hn6 e1 e2 g.2.2.2.1 (fun hb => absurd hok hb) (fun _ s' K' x' es' hs' eK' hK' g1 g2 => ?_)
    have ess : s = s' := (nI_eq (by omega) (by omega)).mp (es.symm.trans es')
    have eKK : K = K' := (nI_eq hK hK').mp (eK.symm.trans eK')
    subst ess; subst eKK
    exact ⟨rfl, R_mm h g1 g2⟩
