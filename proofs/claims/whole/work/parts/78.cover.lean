/-! cover, as the reference goes through it -/
def bfC (N : Nt) (m ls : Nat) : Nat → Int32
  | 0 => -1
  | j + 1 => if ls.testBit j then nI (peakN N m ls (j + 1)) else bfC N m ls j
theorem bfC_s (N : Nt) (m ls j : Nat) : bfC N m ls (j + 1) = if ls.testBit j then nI (peakN N m ls (j + 1)) else bfC N m ls j := rfl
theorem bfC_ok (N : Nt) (m ls : Nat) : ∀ j, (bfC N m ls j = -1 ∧ ∀ i, i < j → ls.testBit i = false) ∨ (bfC N m ls j = nI (peakN N m ls j) ∧ ∃ i, i < j ∧ ls.testBit i = true)
  | 0 => Or.inl ⟨rfl, fun i hi => absurd hi (Nat.not_lt_zero i)⟩
  | j + 1 => by
    rw [bfC_s]
    cases hb : ls.testBit j with
    | true =>
      rw [if_pos rfl]
      exact Or.inr ⟨rfl, j, by omega, hb⟩
    | false =>
      rw [if_neg (by decide)]
      rcases bfC_ok N m ls j with ⟨h1, h2⟩ | ⟨h1, i, h2, h3⟩
      · refine Or.inl ⟨h1, fun i hi => ?_⟩
        by_cases e : i = j
        · rw [e]; exact hb
        · exact h2 i (by omega)
      · refine Or.inr ⟨?_, i, by omega, h3⟩
        rw [h1, peakN_s, hb, if_neg (by decide)]
theorem fit_pow {N : Nt} {s p j : Nat} : (fit N s p (2 ^ j) = 0) ↔ rl N s p j = false := by
  constructor
  · intro h
    have := fit_rl (N := N) (s := s) (p := p) (w := 2 ^ j) (i := j)
    rw [h, Nat.zero_testBit, Nat.testBit_two_pow_self, Bool.true_and] at this
    exact this.symm
  · intro h
    apply bx
    intro i
    rw [fit_rl, Nat.testBit_two_pow, Nat.zero_testBit]
    by_cases e : j = i
    · rw [← e, h, Bool.and_false]
    · rw [decide_eq_false e, Bool.false_and]
theorem fit_zero {N : Nt} {s p ls : Nat} (h : ∀ i, ls.testBit i = true → rl N s p i = false) : fit N s p ls = 0 := by
  apply bx
  intro i
  rw [fit_rl, Nat.zero_testBit]
  cases hb : ls.testBit i with
  | false => rfl
  | true => rw [h i hb]; rfl
theorem mo_cover_in {N : Nt} (wf : WfN N) {s m w L q p : Nat} {g : Nat → Int32} {acc : Int32} (hs : s < 2) (hm : m < 2) (hw : w < 2 ^ n_n N) (hL : L ≤ 60) (hq : q < 4) (hp : p < n_n N) (hpL : p < L) {σ : Sto} (h : ModAt σ N) (h2 : ∀ j, j < L → gI σ 71 (60 * q + j) = g j) {k51 : Int32 → Int32 → Int32 → Int64 → Int32 → Int32 → Sto → Option (Int32 × Sto)} : ∀ (k fu j : Nat), j + k = p → k < fu → (∀ i, i < j → (lsN w L g p).testBit i = true → rl N s p i = false) →
    L_Mo_cover_111 k51 fu (nI q) (nI s) (nI m) (lN w) acc (nI p) (bfC N m (lsN w L g p) j) (nI j) σ = if fit N s p (lsN w L g p) = 0 then k51 (nI q) (nI s) (nI m) (lN w) (acc + nI (if lsN w L g p = 0 then mea1 N m p else mea1 N m p - peakN N m (alN w L g p) p)) (nI (p + 1)) σ else some (-100 - nI p, σ) := by
  intro k
  have hn := wf.1
  have hw64 := lt64 wf hw
  have eP : atC L g p = g p := if_pos hpL
  have hm1 := mea1_lt wf (m := m) hp
  have lbit : ∀ i, i < p → (lsN w L g p).testBit i = (w.testBit i && decide (g i = g p)) := fun i hi => by
    rw [lsN_bit hw hn, eP, decide_eq_true (show i < L by omega), decide_eq_true hi, Bool.true_and, Bool.and_true]
  have lout : ∀ i, p ≤ i → (lsN w L g p).testBit i = false := fun i hi => by
    rw [lsN_bit hw hn, decide_eq_false (show ¬ i < p by omega), Bool.and_false]
  induction k with
  | zero =>
    intro fu j hj hf hno
    obtain ⟨fu, rfl⟩ : ∃ f, fu = f + 1 := ⟨fu - 1, by omega⟩
    have hz : fit N s p (lsN w L g p) = 0 := fit_zero (fun i hi => hno i (by
      rcases Nat.lt_or_ge i p with y | y
      · omega
      · rw [lout i y] at hi; cases hi) hi)
    rw [if_pos hz]
    show B_Mo_cover_111 k51 (L_Mo_cover_111 k51 fu) _ _ _ _ _ _ _ _ _ = _
    unfold B_Mo_cover_111
    rw [if_pos (nI_le (by omega) (by omega)), mo_worth h wf hm hp, Option.bind_some, show j = p by omega, nI_1]
    rcases bfC_ok N m (lsN w L g p) p with ⟨b1, b2⟩ | ⟨b1, i, b2, b3⟩
    · have l0 : lsN w L g p = 0 := bx (fun i => by
        rw [Nat.zero_testBit]
        rcases Nat.lt_or_ge i p with y | y
        · exact b2 i y
        · exact lout i y)
      rw [b1, if_neg (show ¬ ((0 : Int32) ≤ -1) by decide +kernel), if_pos l0]
    · have l0 : lsN w L g p ≠ 0 := fun z => by rw [z, Nat.zero_testBit] at b3; cases b3
      have hpk := peakN_lt wf (m := m) (w := lsN w L g p) p (by omega)
      have epk : peakN N m (lsN w L g p) p = peakN N m (alN w L g p) p := peakN_cong p (fun i hi => by rw [lsN_bit hw hn, alN_bit hw hn, decide_eq_true hi, Bool.and_true])
      rw [b1, if_pos (nI_pos' (by omega)), if_neg l0, ← epk]
      simp only [nI_leI (show mea1 N m p < 2 ^ 31 by omega) (show peakN N m (lsN w L g p) p < 2 ^ 31 by omega)]
      by_cases c : mea1 N m p ≤ peakN N m (lsN w L g p) p
      · rw [if_pos c, show mea1 N m p - peakN N m (lsN w L g p) p = 0 by omega]; rfl
      · rw [if_neg c, nI_sub (by omega)]
  | succ k ih =>
    intro fu j hj hf hno
    obtain ⟨fu, rfl⟩ : ∃ f, fu = f + 1 := ⟨fu - 1, by omega⟩
    have e := ih fu (j + 1) (by omega) (by omega)
    rw [bfC_s] at e
    show B_Mo_cover_111 k51 (L_Mo_cover_111 k51 fu) _ _ _ _ _ _ _ _ _ = _
    unfold B_Mo_cover_111
    rw [if_neg (nI_ge (show j < p by omega) (by omega)), has_eq hw64 (by omega), Option.bind_some]
    have hmj := mea1_lt wf (m := m) (show j < n_n N by omega)
    have hpk := peakN_lt wf (m := m) (w := lsN w L g p) j (by omega)
    simp only [b2i_eq0, mo_place hq (show j < 60 by omega), mo_place hq (show p < 60 by omega), inb_ok (show 60 * q + j < 240 by omega) (show 240 < 2 ^ 31 by decide), inb_ok (show 60 * q + p < 240 by omega) (show 240 < 2 ^ 31 by decide), if_true, nI_clamp (show 60 * q + j < 2 ^ 31 by omega), nI_clamp (show 60 * q + p < 2 ^ 31 by omega), h2 j (by omega), h2 p hpL, bit_eq (show j < 64 by omega), Option.bind_some, mo_fits h wf hs hp (show 2 ^ j < 2 ^ 64 from pow_lt (by omega)), lN_eq0 (fit_lt (N := N) (s := s) (p := p) (show 2 ^ j < 2 ^ 64 from pow_lt (by omega))), fit_pow, mo_worth h wf hm (show j < n_n N by omega)]
    rw [show nI j + (1 : Int32) = nI (j + 1) from nI_1 j]
    have skip : (lsN w L g p).testBit j = false → L_Mo_cover_111 k51 fu (nI q) (nI s) (nI m) (lN w) acc (nI p) (bfC N m (lsN w L g p) j) (nI (j + 1)) σ = if fit N s p (lsN w L g p) = 0 then k51 (nI q) (nI s) (nI m) (lN w) (acc + nI (if lsN w L g p = 0 then mea1 N m p else mea1 N m p - peakN N m (alN w L g p) p)) (nI (p + 1)) σ else some (-100 - nI p, σ) := fun hz => by
      rw [hz, if_neg (by decide)] at e
      refine e (fun i hi hb => ?_)
      by_cases ei : i = j
      · rw [ei, hz] at hb; cases hb
      · exact hno i (by omega) hb
    cases hb : w.testBit j with
    | false =>
      rw [if_pos rfl]
      exact skip (by rw [lbit j (by omega), hb]; rfl)
    | true =>
      rw [if_neg (by decide)]
      by_cases hg : g j = g p
      · have hl : (lsN w L g p).testBit j = true := by rw [lbit j (by omega), hb, decide_eq_true hg]; rfl
        rw [if_pos hg]
        cases hr : rl N s p j with
        | false =>
          rw [if_pos rfl]
          rw [hl, if_pos rfl, peakN_s, hl, if_pos rfl] at e
          have em : f_Mo_most (bfC N m (lsN w L g p) j) (nI (mea1 N m j)) σ = some (nI (max (peakN N m (lsN w L g p) j) (mea1 N m j)), σ) := by
            rcases bfC_ok N m (lsN w L g p) j with ⟨b1, b2⟩ | ⟨b1, _⟩
            · rw [b1, peakN_none j b2, Nat.zero_max]
              unfold f_Mo_most B_Mo_most_0
              rw [if_pos]
              rw [Int32.le_iff_toInt_le, nI_toInt (by omega), show (-1 : Int32).toInt = -1 by decide +kernel]
              omega
            · rw [b1, mo_most (by omega) (by omega)]
          rw [em, Option.bind_some]
          refine e (fun i hi hbi => ?_)
          by_cases ei : i = j
          · rw [ei]; exact hr
          · exact hno i (by omega) hbi
        | true =>
          rw [if_neg (by decide), if_neg]
          intro hz
          have := fit_rl (N := N) (s := s) (p := p) (w := lsN w L g p) (i := j)
          rw [hz, Nat.zero_testBit, hl, hr] at this
          cases this
      · rw [if_neg hg]
        exact skip (by rw [lbit j (by omega), hb, decide_eq_false hg]; rfl)
theorem mo_cover_loop {N : Nt} (wf : WfN N) {s m w L q : Nat} {g : Nat → Int32} (hs : s < 2) (hm : m < 2) (hw : w < 2 ^ n_n N) (hL : L ≤ 60) (hq : q < 4) {σ : Sto} (h : ModAt σ N) (h1 : gI σ 70 q = nI L) (h2 : ∀ j, j < L → gI σ 71 (60 * q + j) = g j) : ∀ (k fu p : Nat), p + k = n_n N → k < fu → L_Mo_cover_51 fu (nI q) (nI s) (nI m) (lN w) (nI (fb_sm (cvB N m w L g p) p)) (nI p) σ = some (cvG N s m w L g k p, σ) := by
  intro k
  have hn := wf.1
  have hw64 := lt64 wf hw
  induction k with
  | zero =>
    intro fu p hp hf
    obtain ⟨fu, rfl⟩ : ∃ f, fu = f + 1 := ⟨fu - 1, by omega⟩
    show B_Mo_cover_51 (L_Mo_cover_51 fu) _ _ _ _ _ _ _ = _
    unfold B_Mo_cover_51
    rw [h.1, if_pos (nI_le (by omega) (by omega)), show p = n_n N by omega]; rfl
  | succ k ih =>
    intro fu p hp hf
    obtain ⟨fu, rfl⟩ : ∃ f, fu = f + 1 := ⟨fu - 1, by omega⟩
    have hpn : p < n_n N := by omega
    have e := ih fu (p + 1) (by omega) (by omega)
    show _ = some (if (w.testBit p && cvF N s w L g p) = true then -100 - nI p else cvG N s m w L g k (p + 1), σ)
    show B_Mo_cover_51 (L_Mo_cover_51 fu) _ _ _ _ _ _ _ = _
    unfold B_Mo_cover_51
    rw [h.1, if_neg (nI_ge hpn (by omega)), has_eq hw64 (by omega), Option.bind_some]
    simp only [b2i_eq0, inb_ok hq (show 4 < 2 ^ 31 by decide), if_true, nI_clamp (show q < 2 ^ 31 by omega), h1, nI_leI (show L < 2 ^ 31 by omega) (show p < 2 ^ 31 by omega), nI_1]
    cases hb : w.testBit p with
    | false =>
      rw [if_pos rfl, Bool.false_and, if_neg (by decide)]
      rw [cv_step hw hn (fun z => by rw [hb] at z; cases z), hb, if_neg (by decide), Nat.add_zero] at e
      exact e
    | true =>
      rw [if_neg (by decide), Bool.true_and]
      unfold cvF
      by_cases c1 : L ≤ p
      · rw [if_pos c1, show atC L g p = -1 from if_neg (by omega), decide_eq_true (show (-1 : Int32) < 0 by decide +kernel), Bool.true_or, if_pos rfl]
      · rw [if_neg c1]
        have eP : atC L g p = g p := if_pos (by omega)
        simp only [mo_place hq (show p < 60 by omega), inb_ok (show 60 * q + p < 240 by omega) (show 240 < 2 ^ 31 by decide), if_true, nI_clamp (show 60 * q + p < 2 ^ 31 by omega), h2 p (by omega), eP]
        by_cases c2 : 0 ≤ g p
        · rw [if_pos c2, decide_eq_false (Int32.not_lt.mpr c2), Bool.false_or]
          refine Eq.trans (mo_cover_in wf (acc := nI (fb_sm (cvB N m w L g p) p)) hs hm hw hL hq hpn (by omega) h h2 (k51 := L_Mo_cover_51 fu) p LF 0 (by omega) (by rw [LF_big]; omega) (fun i hi => absurd hi (Nat.not_lt_zero i))) ?_
          by_cases c3 : fit N s p (lsN w L g p) = 0
          · rw [if_pos c3, show (decide (fit N s p (lsN w L g p) ≠ 0)) = false by simp [c3], nI_add]
            simp only [Bool.false_eq_true, if_false]
            rw [cv_step hw hn (fun _ => by omega), hb, if_pos rfl] at e
            exact e
          · rw [if_neg c3, show (decide (fit N s p (lsN w L g p) ≠ 0)) = true by simp [c3]]
            simp only [if_true]
        · rw [if_neg c2, decide_eq_true (Int32.not_le.mp c2), Bool.true_or, if_pos rfl]
theorem op_cover (a0 : Int32) (b1 : Int32) (c2 : Int32) (d3 : Int64) : Op (f_FR_cover a0 b1 c2 d3) (f_Mo_cover a0 b1 c2 d3) := by
  obtain ⟨u, hu, rfl⟩ := wb_of d3
  cases h0 : ptB a0 4
  · refine Op.ask (fun _ => -2) (fun σ A wf h => ⟨σ, ?_, Scr.rf⟩) (fun σ A wf h => ⟨σ, ?_, Scr.rf⟩)
    · unfold f_FR_cover B_FR_cover_0
      simp [fr_isSheet, h0, ite_bf]
    · unfold f_Mo_cover B_Mo_cover_0
      simp [mo_isSheet, h0, ite_bf]
  cases h1 : oneB b1
  · refine Op.ask (fun _ => -2) (fun σ A wf h => ⟨σ, ?_, Scr.rf⟩) (fun σ A wf h => ⟨σ, ?_, Scr.rf⟩)
    · unfold f_FR_cover B_FR_cover_0
      simp [fr_isSheet, h0, fr_isAsked h.net wf.1 b1 c2 hu, h1, ite_bf, ite_bt]
    · unfold f_Mo_cover B_Mo_cover_0
      simp [mo_isSheet, h0, mo_isOne, h1, ite_bf, ite_bt]
  cases h2 : oneB c2
  · refine Op.ask (fun _ => -2) (fun σ A wf h => ⟨σ, ?_, Scr.rf⟩) (fun σ A wf h => ⟨σ, ?_, Scr.rf⟩)
    · unfold f_FR_cover B_FR_cover_0
      simp [fr_isSheet, h0, fr_isAsked h.net wf.1 b1 c2 hu, h1, h2, ite_bf, ite_bt]
    · unfold f_Mo_cover B_Mo_cover_0
      simp [mo_isSheet, h0, mo_isOne, h1, h2, ite_bf, ite_bt]
  obtain ⟨q, hq, rfl⟩ := ptB_of h0
  obtain ⟨s, hs, rfl⟩ := oneB_of h1
  obtain ⟨m, hm, rfl⟩ := oneB_of h2
  refine Op.ask (fun A => if u < 2 ^ n_n (s_N A) then (if gone A q = true then -11 else cvG (s_N A) s m u (s_S A q).2.1 (s_S A q).2.2 (n_n (s_N A)) 0) else -2) (fun σ A wf h => ⟨σ, ?_, Scr.rf⟩) (fun σ A wf h => ⟨σ, ?_, Scr.rf⟩)
  · unfold f_FR_cover B_FR_cover_0
    simp only [fr_isSheet, h0, fr_isAsked h.net wf.1 (nI s) (nI m) hu, h1, h2, Bool.true_and, Option.bind_some, ite_bt]
    by_cases h5 : u < 2 ^ n_n (s_N A)
    · simp only [decide_eq_true h5, ite_bt, inb_ok hq (show 4 < 2 ^ 31 by decide), if_true, nI_clamp (show q < 2 ^ 31 by omega), sh_gone h hq, Option.bind_some, if_pos h5]
      cases h6 : gone A q
      · rw [ite_bf, if_neg (by decide)]
        obtain ⟨c1, c2, c3⟩ := h.2.2.2.2.1 q hq
        exact fr_cover_loop wf.1 hs hm h5 (wf.2.2.2.2.1 q hq).1 hq h.net c2 c3 (n_n (s_N A)) LF 0 (by omega) (by have := wf.1.1; rw [LF_big]; omega)
      · rw [ite_bt, if_pos rfl]
    · simp [h5, ite_bf]
  · unfold f_Mo_cover B_Mo_cover_0
    simp only [mo_isSheet, h0, mo_isOne, h1, h2, mo_isSet h.net wf.1 hu, Option.bind_some, ite_bt]
    by_cases h5 : u < 2 ^ n_n (s_N A)
    · obtain ⟨c1, c2, c3⟩ := h.2.2.2.2.1 q hq
      simp only [decide_eq_true h5, ite_bt, inb_ok hq (show 4 < 2 ^ 31 by decide), if_true, nI_clamp (show q < 2 ^ 31 by omega), c1, gone_nn wf hq, if_pos h5]
      cases h6 : gone A q
      · rw [if_pos rfl, if_neg (by decide)]
        exact mo_cover_loop wf.1 hs hm h5 (wf.2.2.2.2.1 q hq).1 hq h.net c2 c3 (n_n (s_N A)) LF 0 (by omega) (by have := wf.1.1; rw [LF_big]; omega)
      · rw [if_neg (by decide), if_pos rfl]
    · simp [h5, ite_bf]
