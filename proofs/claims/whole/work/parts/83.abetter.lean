/-! better: one more, or two for one -/
theorem fit_all {N : Nt} {s p r : Nat} : fit N s p r = r ↔ ∀ q, r.testBit q = true → rl N s p q = true := by
  constructor
  · intro h q hq
    have := fit_rl (N := N) (s := s) (p := p) (w := r) (i := q)
    rw [h, hq, Bool.true_and] at this
    exact this.symm
  · intro h
    apply bx
    intro i
    rw [fit_rl]
    cases hb : r.testBit i with
    | false => rfl
    | true => rw [h i hb]; rfl
theorem fitAll_bit (N : Nt) (s r w i : Nat) : ∀ k, (fitAll N s r w k).testBit i = (w.testBit i && allB (fun q => !r.testBit q || rl N s q i) k)
  | 0 => by rw [show fitAll N s r w 0 = w from rfl, allB, Bool.and_true]
  | k + 1 => by
    have ih := fitAll_bit N s r w i k
    rw [fitAll_s, allB]
    cases hb : r.testBit k with
    | true =>
      rw [if_pos rfl, fit_rl, ih]
      cases w.testBit i <;> cases allB (fun q => !r.testBit q || rl N s q i) k <;> cases rl N s k i <;> rfl
    | false =>
      rw [if_neg (by decide), ih]
      cases w.testBit i <;> cases allB (fun q => !r.testBit q || rl N s q i) k <;> rfl
theorem fitAll_in {N : Nt} (wf : WfN N) {s r w i : Nat} (hr : r < 2 ^ n_n N) (hi : i < n_n N) : (fitAll N s r w (n_n N)).testBit i = (w.testBit i && decide (fit N s i r = r)) := by
  rw [fitAll_bit]
  congr 1
  cases hb : allB (fun q => !r.testBit q || rl N s q i) (n_n N) with
  | true =>
    refine (decide_eq_true (fit_all.2 (fun q hq => ?_))).symm
    have hqn := bit_in hr hq
    have := (allB_iff _ _).1 hb q hqn
    rw [hq] at this
    rw [rl_sym wf hi hqn]
    simpa using this
  | false =>
    refine (decide_eq_false (fun z => ?_)).symm
    have : allB (fun q => !r.testBit q || rl N s q i) (n_n N) = true := (allB_iff _ _).2 (fun q hq => by
      cases hc : r.testBit q with
      | false => rfl
      | true =>
        have := fit_all.1 z q hc
        rw [rl_sym wf hi hq] at this
        rw [this]; rfl)
    rw [hb] at this
    cases this
def onN (N : Nt) (s ring w : Nat) : Nat := fa_first (fun p => (nd w ring).testBit p && decide (fit N s p ring = ring)) (n_n N)
def t3 (N : Nt) (s free rest a : Nat) : Nat → Nat → Option Nat
  | 0, _ => none
  | k + 1, b => if (free.testBit b && decide (fit N s b (rest ||| 2 ^ a) = rest ||| 2 ^ a)) = true then some (rest ||| 2 ^ a ||| 2 ^ b) else t3 N s free rest a k (b + 1)
def t2 (N : Nt) (s free rest : Nat) : Nat → Nat → Option Nat
  | 0, _ => none
  | k + 1, a => if (free.testBit a && decide (fit N s a rest = rest)) = true then (match t3 N s free rest a k (a + 1) with | some v => some v | none => t2 N s free rest k (a + 1)) else t2 N s free rest k (a + 1)
def t1 (N : Nt) (s ring free : Nat) : Nat → Nat → Option Nat
  | 0, _ => none
  | k + 1, x => if ring.testBit x = true then (match t2 N s free (nd ring (2 ^ x)) (n_n N) 0 with | some v => some v | none => t1 N s ring free k (x + 1)) else t1 N s ring free k (x + 1)
def twN (N : Nt) (s ring w : Nat) : Nat := match t1 N s ring (nd w ring) (n_n N) 0 with
  | some v => v
  | none => ring
def btN (N : Nt) (s ring w : Nat) : Nat := if onN N s ring w < n_n N then ring ||| 2 ^ onN N s ring w else twN N s ring w
/-! the reference's -/
theorem mo_t3 {N : Nt} (wf : WfN N) {s ring free rest x a : Nat} (hs : s < 2) (hf : free < 2 ^ n_n N) (hr : rest < 2 ^ n_n N) (ha : a < n_n N) (hfa : free.testBit a = true) (hfit : fit N s a rest = rest) {σ : Sto} (h : ModAt σ N) {k85 : Int32 → Int64 → Int64 → Int32 → Int64 → Int32 → Sto → Option (Int64 × Sto)} : ∀ (k fu b : Nat), b + k = n_n N → k < fu → L_Mo_bettered_109 k85 fu (nI s) (lN ring) (lN free) (nI x) (lN rest) (nI a) (nI b) σ = match t3 N s free rest a k b with | some v => some (lN v, σ) | none => k85 (nI s) (lN ring) (lN free) (nI x) (lN rest) (nI (a + 1)) σ := by
  intro k
  have hn := wf.1
  have hf64 := lt64 wf hf
  have hr64 := lt64 wf hr
  induction k with
  | zero =>
    intro fu b hb hfu
    obtain ⟨fu, rfl⟩ : ∃ z, fu = z + 1 := ⟨fu - 1, by omega⟩
    show B_Mo_bettered_109 k85 (L_Mo_bettered_109 k85 fu) _ _ _ _ _ _ _ _ = _
    unfold B_Mo_bettered_109
    rw [h.1, if_pos (nI_le (by omega) (by omega)), nI_1]; rfl
  | succ k ih =>
    intro fu b hb hfu
    obtain ⟨fu, rfl⟩ : ∃ z, fu = z + 1 := ⟨fu - 1, by omega⟩
    have e := ih fu (b + 1) (by omega) (by omega)
    have hra : rest ||| 2 ^ a < 2 ^ 64 := or_lt hr64 (pow_lt (by omega))
    show B_Mo_bettered_109 k85 (L_Mo_bettered_109 k85 fu) _ _ _ _ _ _ _ _ = _
    unfold B_Mo_bettered_109
    rw [h.1, if_neg (nI_ge (by omega) (by omega)), has_eq hf64 (by omega), Option.bind_some, hfa, ite_bt]
    simp only []
    rw [mo_fitsAll h wf hs ha hr64, Option.bind_some, decide_eq_true hfit, ite_bt]
    simp only [has_eq hf64 (show b < 64 by omega), Option.bind_some, bit_eq (show a < 64 by omega), bit_eq (show b < 64 by omega), fb_orL, mo_fitsAll h wf hs (show b < n_n N by omega) hra, b2i_eq0, nI_1]
    rw [show t3 N s free rest a (k + 1) b = if (free.testBit b && decide (fit N s b (rest ||| 2 ^ a) = rest ||| 2 ^ a)) = true then some (rest ||| 2 ^ a ||| 2 ^ b) else t3 N s free rest a k (b + 1) from rfl]
    cases hb2 : free.testBit b with
    | false =>
      simp only [if_true, Bool.false_and, Bool.false_eq_true, if_false]
      exact e
    | true =>
      simp only [Bool.true_eq_false, if_false, Bool.true_and, decide_eq_true_eq, decide_eq_false_iff_not]
      by_cases hz : fit N s b (rest ||| 2 ^ a) = rest ||| 2 ^ a
      · rw [if_neg (fun q => q hz), if_pos hz]
      · rw [if_pos hz, if_neg hz]
        exact e
theorem mo_t2 {N : Nt} (wf : WfN N) {s ring free rest x : Nat} (hs : s < 2) (hrg : ring < 2 ^ n_n N) (hf : free < 2 ^ n_n N) (hr : rest < 2 ^ n_n N) (hx : x < n_n N) (hrx : ring.testBit x = true) {σ : Sto} (h : ModAt σ N) {k60 : Int32 → Int64 → Int64 → Int32 → Sto → Option (Int64 × Sto)} : ∀ (k fu a : Nat), a + k = n_n N → k < fu → L_Mo_bettered_85 k60 fu (nI s) (lN ring) (lN free) (nI x) (lN rest) (nI a) σ = match t2 N s free rest k a with | some v => some (lN v, σ) | none => k60 (nI s) (lN ring) (lN free) (nI (x + 1)) σ := by
  intro k
  have hn := wf.1
  have hf64 := lt64 wf hf
  have hr64 := lt64 wf hr
  induction k with
  | zero =>
    intro fu a ha hfu
    obtain ⟨fu, rfl⟩ : ∃ z, fu = z + 1 := ⟨fu - 1, by omega⟩
    show B_Mo_bettered_85 k60 (L_Mo_bettered_85 k60 fu) _ _ _ _ _ _ _ = _
    unfold B_Mo_bettered_85
    rw [h.1, if_pos (nI_le (by omega) (by omega)), nI_1]; rfl
  | succ k ih =>
    intro fu a ha hfu
    obtain ⟨fu, rfl⟩ : ∃ z, fu = z + 1 := ⟨fu - 1, by omega⟩
    have e := ih fu (a + 1) (by omega) (by omega)
    have han : a < n_n N := by omega
    show B_Mo_bettered_85 k60 (L_Mo_bettered_85 k60 fu) _ _ _ _ _ _ _ = _
    unfold B_Mo_bettered_85
    rw [h.1, if_neg (nI_ge (by omega) (by omega)), has_eq (lt64 wf hrg) (by omega), Option.bind_some, hrx, ite_bt, nI_1]
    rw [show t2 N s free rest (k + 1) a = if (free.testBit a && decide (fit N s a rest = rest)) = true then (match t3 N s free rest a k (a + 1) with | some v => some v | none => t2 N s free rest k (a + 1)) else t2 N s free rest k (a + 1) from rfl]
    by_cases hc : (free.testBit a && decide (fit N s a rest = rest)) = true
    · rw [if_pos hc]
      simp only [Bool.and_eq_true, decide_eq_true_eq] at hc
      have e3 := mo_t3 wf (ring := ring) (x := x) hs hf hr han hc.1 hc.2 h (k85 := L_Mo_bettered_85 k60 fu) k LF (a + 1) (by omega) (by rw [LF_big]; omega)
      refine Eq.trans e3 ?_
      cases t3 N s free rest a k (a + 1) with
      | some v => rfl
      | none => exact e
    · rw [if_neg hc]
      -- the loop over b ends at once
      have e3 : L_Mo_bettered_109 (L_Mo_bettered_85 k60 fu) LF (nI s) (lN ring) (lN free) (nI x) (lN rest) (nI a) (nI (a + 1)) σ = L_Mo_bettered_85 k60 fu (nI s) (lN ring) (lN free) (nI x) (lN rest) (nI (a + 1)) σ := by
        obtain ⟨lf, hlf⟩ : ∃ z, LF = z + 1 := ⟨999999, rfl⟩
        rw [hlf]
        show B_Mo_bettered_109 (L_Mo_bettered_85 k60 fu) (L_Mo_bettered_109 (L_Mo_bettered_85 k60 fu) lf) _ _ _ _ _ _ _ _ = _
        unfold B_Mo_bettered_109
        rw [h.1, nI_1]
        by_cases hend : n_n N ≤ a + 1
        · rw [if_pos (nI_le hend (by omega))]
        · rw [if_neg (nI_ge (by omega) (by omega)), has_eq hf64 (by omega), Option.bind_some]
          cases hb : free.testBit a with
          | false => rw [ite_bf]
          | true =>
            rw [ite_bt]
            simp only []
            rw [mo_fitsAll h wf hs han hr64, Option.bind_some]
            have : ¬ fit N s a rest = rest := fun z => hc (by rw [hb, decide_eq_true z]; rfl)
            rw [decide_eq_false this, ite_bf]
      rw [e3]
      exact e
theorem mo_t1 {N : Nt} (wf : WfN N) {s ring free : Nat} (hs : s < 2) (hrg : ring < 2 ^ n_n N) (hf : free < 2 ^ n_n N) {σ : Sto} (h : ModAt σ N) : ∀ (k fu x : Nat), x + k = n_n N → k < fu → L_Mo_bettered_60 fu (nI s) (lN ring) (lN free) (nI x) σ = some (lN (match t1 N s ring free k x with | some v => v | none => ring), σ) := by
  intro k
  have hn := wf.1
  induction k with
  | zero =>
    intro fu x hx hfu
    obtain ⟨fu, rfl⟩ : ∃ z, fu = z + 1 := ⟨fu - 1, by omega⟩
    show B_Mo_bettered_60 (L_Mo_bettered_60 fu) _ _ _ _ _ = _
    unfold B_Mo_bettered_60
    rw [h.1, if_pos (nI_le (by omega) (by omega))]; rfl
  | succ k ih =>
    intro fu x hx hfu
    obtain ⟨fu, rfl⟩ : ∃ z, fu = z + 1 := ⟨fu - 1, by omega⟩
    have e := ih fu (x + 1) (by omega) (by omega)
    show B_Mo_bettered_60 (L_Mo_bettered_60 fu) _ _ _ _ _ = _
    unfold B_Mo_bettered_60
    rw [h.1, if_neg (nI_ge (by omega) (by omega)), bit_eq (by omega), Option.bind_some, lt1_eq, lN_nd (lt64 wf hrg)]
    rw [show t1 N s ring free (k + 1) x = if ring.testBit x = true then (match t2 N s free (nd ring (2 ^ x)) (n_n N) 0 with | some v => some v | none => t1 N s ring free k (x + 1)) else t1 N s ring free k (x + 1) from rfl]
    by_cases hc : ring.testBit x = true
    · rw [if_pos hc]
      have e2 := mo_t2 wf hs hrg hf (nd_lt hrg (b := 2 ^ x)) (show x < n_n N by omega) hc h (k60 := L_Mo_bettered_60 fu) (n_n N) LF 0 (by omega) (by rw [LF_big]; omega)
      refine Eq.trans e2 ?_
      cases t2 N s free (nd ring (2 ^ x)) (n_n N) 0 with
      | some v => rfl
      | none => exact e
    · rw [if_neg hc]
      have e2 : L_Mo_bettered_85 (L_Mo_bettered_60 fu) LF (nI s) (lN ring) (lN free) (nI x) (lN (nd ring (2 ^ x))) 0 σ = L_Mo_bettered_60 fu (nI s) (lN ring) (lN free) (nI (x + 1)) σ := by
        obtain ⟨lf, hlf⟩ : ∃ z, LF = z + 1 := ⟨999999, rfl⟩
        rw [hlf]
        show B_Mo_bettered_85 (L_Mo_bettered_60 fu) (L_Mo_bettered_85 (L_Mo_bettered_60 fu) lf) _ _ _ _ _ _ _ = _
        unfold B_Mo_bettered_85
        rw [h.1, if_neg (show ¬ nI (n_n N) ≤ (0 : Int32) from nI_nle (by omega) (by omega)), has_eq (lt64 wf hrg) (by omega), Option.bind_some, Bool.eq_false_iff.mpr hc, ite_bf, nI_1]
      rw [e2]
      exact e
theorem mo_bettered {N : Nt} (wf : WfN N) {s ring w : Nat} (hs : s < 2) (hrg : ring < 2 ^ n_n N) (hw : w < 2 ^ n_n N) {σ : Sto} (h : ModAt σ N) : f_Mo_bettered (nI s) (lN ring) (lN w) σ = some (lN (btN N s ring w), σ) := by
  have hn := wf.1
  have hf : nd w ring < 2 ^ n_n N := nd_lt hw
  have lp : ∀ (k fu p : Nat), p + k = n_n N → k < fu → (∀ i, i < p → ((nd w ring).testBit i && decide (fit N s i ring = ring)) = false) → L_Mo_bettered_13 fu (nI s) (lN ring) (lN (nd w ring)) (nI p) σ = some (lN (btN N s ring w), σ) := by
    intro k
    induction k with
    | zero =>
      intro fu p hp hfu hno
      obtain ⟨fu, rfl⟩ : ∃ z, fu = z + 1 := ⟨fu - 1, by omega⟩
      show B_Mo_bettered_13 (L_Mo_bettered_13 fu) _ _ _ _ _ = _
      unfold B_Mo_bettered_13
      rw [h.1, if_pos (nI_le (by omega) (by omega))]
      unfold btN
      rw [show onN N s ring w = n_n N from first_end (fun i hi => hno i (by omega)), if_neg (by omega)]
      exact mo_t1 wf hs hrg hf h (n_n N) LF 0 (by omega) (by rw [LF_big]; omega)
    | succ k ih =>
      intro fu p hp hfu hno
      obtain ⟨fu, rfl⟩ : ∃ z, fu = z + 1 := ⟨fu - 1, by omega⟩
      have e := ih fu (p + 1) (by omega) (by omega)
      show B_Mo_bettered_13 (L_Mo_bettered_13 fu) _ _ _ _ _ = _
      unfold B_Mo_bettered_13
      rw [h.1, if_neg (nI_ge (by omega) (by omega)), has_eq (lt64 wf hf) (by omega), Option.bind_some]
      simp only [mo_fitsAll h wf hs (show p < n_n N by omega) (lt64 wf hrg), Option.bind_some, bit_eq (show p < 64 by omega), fb_orL, b2i_eq0, nI_1]
      by_cases hc : ((nd w ring).testBit p && decide (fit N s p ring = ring)) = true
      · have hc2 := hc
        simp only [Bool.and_eq_true] at hc
        rw [hc.1, if_neg (by decide), hc.2, if_neg (by decide)]
        unfold btN
        rw [show onN N s ring w = p from first_at (by omega) hc2 hno, if_pos (by omega)]
      · have e' := e (fun i hi => by
          by_cases ei : i = p
          · rw [ei]; exact Bool.eq_false_iff.mpr hc
          · exact hno i (by omega))
        cases hb : (nd w ring).testBit p with
        | false => rw [if_pos rfl]; exact e'
        | true =>
          rw [if_neg (by decide)]
          cases hd : decide (fit N s p ring = ring) with
          | false => rw [if_pos rfl]; exact e'
          | true => rw [hb, hd] at hc; exact absurd rfl hc
  unfold f_Mo_bettered B_Mo_bettered_0
  rw [lt1_eq, lN_nd (lt64 wf hw)]
  exact lp (n_n N) LF 0 (by omega) (by rw [LF_big]; omega) (fun i hi => absurd hi (Nat.not_lt_zero i))
