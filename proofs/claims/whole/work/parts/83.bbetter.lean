/-! better, the class's way -/
theorem lowN_0 : lN 0 &&& (-lN 0) = lN 0 := by decide +kernel
theorem nt_withOne {N : Nt} (wf : WfN N) {s ring w : Nat} (hs : s < 2) (hrg : ring < 2 ^ n_n N) (hw : w < 2 ^ n_n N) {σ : Sto} (h : NetAt σ 1 N) : f_Net_withOneMore 1 (nI s) (lN ring) (lN w) σ = some (lN (if onN N s ring w < n_n N then ring ||| 2 ^ onN N s ring w else ring), σ) := by
  have hf : nd w ring < 2 ^ n_n N := nd_lt hw
  have ho : fitAll N s ring (nd w ring) (n_n N) < 2 ^ n_n N := fitAll_lt hf _
  unfold f_Net_withOneMore B_Net_withOneMore_0
  rw [lN_nd (lt64 wf hw), nt_fittingAll h wf hs (lt64 wf hrg) (lt64 wf hf), Option.bind_some]
  by_cases h0 : fitAll N s ring (nd w ring) (n_n N) = 0
  · have e : onN N s ring w = n_n N := first_end (fun i hi => by
      have := fitAll_in wf (s := s) (w := nd w ring) hrg hi
      rw [h0, Nat.zero_testBit] at this
      exact this.symm)
    rw [e, if_neg (by omega), h0, lowN_0, fb_orL, Nat.or_zero]
  · obtain ⟨a, a1, a2⟩ := lo_pow _ h0
    have han := bit_in ho a1
    have e : onN N s ring w = a := first_at han (by rw [← fitAll_in wf hrg han]; exact a1) (fun i hi => by rw [← fitAll_in wf hrg (by omega)]; exact a2 i hi)
    rw [e, if_pos han, low_on (lt64 wf ho) a1 a2, fb_orL]
/-- those behind a -/
def bhA (x a : Nat) : Nat := x &&& ((2 ^ 64 - 2) * 2 ^ a)
theorem bhA_bit {x a i : Nat} (hx : x < 2 ^ 40) : (bhA x a).testBit i = (x.testBit i && decide (a < i)) := by
  unfold bhA
  rw [Nat.testBit_and, Nat.testBit_mul_two_pow]
  cases hb : x.testBit i with
  | false => rfl
  | true =>
    have hi := bit_in hx hb
    rw [Bool.true_and, Bool.true_and, show 2 ^ 64 - 2 = 2 ^ 64 - (1 + 1) from rfl, Nat.testBit_two_pow_sub_succ (by decide)]
    by_cases h1 : a < i
    · rw [decide_eq_true h1, decide_eq_true (show a ≤ i by omega), decide_eq_true (show i - a < 64 by omega)]
      have : Nat.testBit 1 (i - a) = false := by
        cases hz : Nat.testBit 1 (i - a) with
        | false => rfl
        | true => exact absurd (Nat.testBit_one_eq_true_iff_self_eq_zero.1 hz) (by omega)
      rw [this]; rfl
    · rw [decide_eq_false h1]
      by_cases h2 : a ≤ i
      · have : i - a = 0 := by omega
        rw [this]; simp
      · rw [decide_eq_false h2]; rfl
theorem lsh_m2 {a : Nat} (ha : a < 64) : lsh (-2 : Int64) (nI a) = lN ((2 ^ 64 - 2) * 2 ^ a) := by
  rw [show (-2 : Int64) = lN (2 ^ 64 - 2) by decide +kernel]
  exact wb_shl (2 ^ 64 - 2) ha
/-- the first two that come -/
def f2N (N : Nt) (s op : Nat) : Nat → Nat → Nat
  | 0, _ => 0
  | k + 1, a => if op.testBit a = true ∧ bhA (fit N s a op) a ≠ 0 then 2 ^ a ||| 2 ^ fa_first (fun i => (bhA (fit N s a op) a).testBit i) 64 else f2N N s op k (a + 1)
theorem first_lo {w a : Nat} (hw : w < 2 ^ 64) (h1 : w.testBit a = true) (h2 : ∀ i, i < a → w.testBit i = false) : fa_first (fun i => w.testBit i) 64 = a := first_at (bit_in hw h1) h1 h2
theorem nt_firstTwo {N : Nt} (wf : WfN N) {s op : Nat} (hs : s < 2) (hop : op < 2 ^ n_n N) {σ : Sto} (h : NetAt σ 1 N) : ∀ (k fu a : Nat), a + k = n_n N → k < fu → L_Net_firstTwo_3 fu 1 (nI s) (lN op) (nI a) σ = some (lN (f2N N s op k a), σ) := by
  intro k
  have hn := wf.1
  have hop64 := lt64 wf hop
  have hop40 := Nat.lt_of_lt_of_le hop (two_pow_le hn)
  induction k with
  | zero =>
    intro fu a ha hfu
    obtain ⟨fu, rfl⟩ : ∃ z, fu = z + 1 := ⟨fu - 1, by omega⟩
    show B_Net_firstTwo_3 (L_Net_firstTwo_3 fu) _ _ _ _ _ = _
    unfold B_Net_firstTwo_3
    rw [h.1, if_pos (nI_le (by omega) (by omega))]; rfl
  | succ k ih =>
    intro fu a ha hfu
    obtain ⟨fu, rfl⟩ : ∃ z, fu = z + 1 := ⟨fu - 1, by omega⟩
    have e := ih fu (a + 1) (by omega) (by omega)
    have hb64 : bhA (fit N s a op) a < 2 ^ 64 := and_lt (fit_lt hop64)
    show B_Net_firstTwo_3 (L_Net_firstTwo_3 fu) _ _ _ _ _ = _
    unfold B_Net_firstTwo_3
    rw [h.1, if_neg (nI_ge (by omega) (by omega)), nt_isOf hop64 (by omega), Option.bind_some]
    simp only [b2i_eq0, nt_fitting h wf hs (show a < n_n N by omega) hop64, Option.bind_some, lt1_eq, lsh_m2 (show a < 64 by omega), fb_andL, nI_1]
    rw [show fit N s a op &&& (2 ^ 64 - 2) * 2 ^ a = bhA (fit N s a op) a from rfl]
    simp only [lN_eq0 hb64]
    rw [show f2N N s op (k + 1) a = if op.testBit a = true ∧ bhA (fit N s a op) a ≠ 0 then 2 ^ a ||| 2 ^ fa_first (fun i => (bhA (fit N s a op) a).testBit i) 64 else f2N N s op k (a + 1) from rfl]
    by_cases hb : op.testBit a = true
    · by_cases h0 : bhA (fit N s a op) a = 0
      · rw [if_neg (by rw [hb]; decide), if_pos h0, if_neg (fun z => z.2 h0)]
        exact e
      · obtain ⟨b, b1, b2⟩ := lo_pow _ h0
        rw [if_neg (by rw [hb]; decide), if_neg h0, if_pos ⟨hb, h0⟩, low_on hb64 b1 b2, lsh_1 (by omega), fb_orL, first_lo hb64 b1 b2]
    · rw [if_pos (Bool.eq_false_iff.mpr hb), if_neg (fun z => hb z.1)]
      exact e
/-- both ways to two for one -/
theorem t3_f2 {N : Nt} (wf : WfN N) {s free rest a : Nat} (hf : free < 2 ^ n_n N) (hr : rest < 2 ^ n_n N) (ha : a < n_n N) (hra : fit N s a rest = rest) : ∀ k b, b + k = n_n N → a < b → (∀ i, i < b → (bhA (fit N s a (fitAll N s rest free (n_n N))) a).testBit i = false) →
    t3 N s free rest a k b = if bhA (fit N s a (fitAll N s rest free (n_n N))) a = 0 then none else some (rest ||| (2 ^ a ||| 2 ^ fa_first (fun i => (bhA (fit N s a (fitAll N s rest free (n_n N))) a).testBit i) 64)) := by
  intro k
  have hn := wf.1
  have hop : fitAll N s rest free (n_n N) < 2 ^ n_n N := fitAll_lt hf _
  have hop40 := Nat.lt_of_lt_of_le (fit_lt (N := N) (s := s) (p := a) hop) (two_pow_le hn)
  have hbl : bhA (fit N s a (fitAll N s rest free (n_n N))) a < 2 ^ n_n N := and_lt (fit_lt hop)
  have key : ∀ b, a < b → b < n_n N → (bhA (fit N s a (fitAll N s rest free (n_n N))) a).testBit b = (free.testBit b && decide (fit N s b (rest ||| 2 ^ a) = rest ||| 2 ^ a)) := fun b hab hbn => by
    rw [bhA_bit hop40, decide_eq_true hab, Bool.and_true, fit_rl, fitAll_in wf hr hbn]
    cases free.testBit b with
    | false => rfl
    | true =>
      rw [Bool.true_and, Bool.true_and]
      have : (fit N s b (rest ||| 2 ^ a) = rest ||| 2 ^ a) ↔ (fit N s b rest = rest ∧ rl N s a b = true) := by
        rw [fit_all, fit_all]
        constructor
        · intro z
          refine ⟨fun q hq => z q (by rw [or1_bit, hq]; rfl), ?_⟩
          rw [rl_sym wf ha hbn]
          exact z a (by rw [or1_bit]; simp)
        · rintro ⟨z1, z2⟩ q hq
          rw [or1_bit, Bool.or_eq_true, decide_eq_true_eq] at hq
          rcases hq with hq | hq
          · exact z1 q hq
          · rw [hq, rl_sym wf hbn ha]; exact z2
      by_cases c1 : fit N s b rest = rest
      · cases c2 : rl N s a b with
        | true => rw [decide_eq_true c1, decide_eq_true (this.2 ⟨c1, c2⟩)]; rfl
        | false => rw [decide_eq_true c1, decide_eq_false (fun z => by rw [(this.1 z).2] at c2; cases c2)]; rfl
      · rw [decide_eq_false c1, decide_eq_false (fun z => c1 (this.1 z).1)]; rfl
  induction k with
  | zero =>
    intro b hb hab hno
    rw [if_pos]
    · rfl
    · apply bx
      intro i
      rw [Nat.zero_testBit]
      rcases Nat.lt_or_ge i b with y | y
      · exact hno i y
      · exact tb_out hbl (by omega)
  | succ k ih =>
    intro b hb hab hno
    rw [show t3 N s free rest a (k + 1) b = if (free.testBit b && decide (fit N s b (rest ||| 2 ^ a) = rest ||| 2 ^ a)) = true then some (rest ||| 2 ^ a ||| 2 ^ b) else t3 N s free rest a k (b + 1) from rfl, ← key b hab (by omega)]
    by_cases hc : (bhA (fit N s a (fitAll N s rest free (n_n N))) a).testBit b = true
    · rw [if_pos hc, if_neg (fun z => by rw [z, Nat.zero_testBit] at hc; cases hc), first_lo (lt64 wf hbl) hc hno, Nat.or_assoc]
    · rw [if_neg hc]
      refine ih (b + 1) (by omega) (by omega) (fun i hi => ?_)
      by_cases ei : i = b
      · rw [ei]; exact Bool.eq_false_iff.mpr hc
      · exact hno i (by omega)
theorem t2_f2 {N : Nt} (wf : WfN N) {s free rest : Nat} (hf : free < 2 ^ n_n N) (hr : rest < 2 ^ n_n N) : ∀ k a, a + k = n_n N → t2 N s free rest k a = if f2N N s (fitAll N s rest free (n_n N)) k a = 0 then none else some (rest ||| f2N N s (fitAll N s rest free (n_n N)) k a) := by
  intro k
  have hn := wf.1
  induction k with
  | zero => intro a ha; rfl
  | succ k ih =>
    intro a ha
    have e := ih (a + 1) (by omega)
    have han : a < n_n N := by omega
    have hop : fitAll N s rest free (n_n N) < 2 ^ n_n N := fitAll_lt hf _
    have hop40 := Nat.lt_of_lt_of_le (fit_lt (N := N) (s := s) (p := a) hop) (two_pow_le hn)
    rw [show t2 N s free rest (k + 1) a = if (free.testBit a && decide (fit N s a rest = rest)) = true then (match t3 N s free rest a k (a + 1) with | some v => some v | none => t2 N s free rest k (a + 1)) else t2 N s free rest k (a + 1) from rfl, ← fitAll_in wf hr han]
    by_cases hc : (fitAll N s rest free (n_n N)).testBit a = true
    · rw [if_pos hc]
      have hra : fit N s a rest = rest := by
        rw [fitAll_in wf hr han, Bool.and_eq_true, decide_eq_true_eq] at hc
        exact hc.2
      rw [t3_f2 wf hf hr han hra k (a + 1) (by omega) (by omega) (fun i hi => by rw [bhA_bit hop40, decide_eq_false (show ¬ a < i by omega), Bool.and_false])]
      by_cases h0 : bhA (fit N s a (fitAll N s rest free (n_n N))) a = 0
      · have hF : f2N N s (fitAll N s rest free (n_n N)) (k + 1) a = f2N N s (fitAll N s rest free (n_n N)) k (a + 1) := if_neg (fun z => z.2 h0)
        rw [if_pos h0, hF]
        exact e
      · have hF : f2N N s (fitAll N s rest free (n_n N)) (k + 1) a = 2 ^ a ||| 2 ^ fa_first (fun i => (bhA (fit N s a (fitAll N s rest free (n_n N))) a).testBit i) 64 := if_pos ⟨hc, h0⟩
        have hne : ∀ z, ¬ (2 ^ a ||| z) = 0 := fun z y => by
          have := congrArg (fun x => x.testBit a) y
          simp [Nat.testBit_or, Nat.testBit_two_pow_self] at this
        rw [if_neg h0, hF, if_neg (hne _)]
    · have hF : f2N N s (fitAll N s rest free (n_n N)) (k + 1) a = f2N N s (fitAll N s rest free (n_n N)) k (a + 1) := if_neg (fun z => hc z.1)
      rw [if_neg hc, hF]
      exact e
theorem nt_withTwo {N : Nt} (wf : WfN N) {s ring w : Nat} (hs : s < 2) (hrg : ring < 2 ^ n_n N) (hw : w < 2 ^ n_n N) {σ : Sto} (h : NetAt σ 1 N) : f_Net_withTwoForOne 1 (nI s) (lN ring) (lN w) σ = some (lN (twN N s ring w), σ) := by
  have hn := wf.1
  have hf : nd w ring < 2 ^ n_n N := nd_lt hw
  have lp : ∀ (k fu x : Nat), x + k = n_n N → k < fu → L_Net_withTwoForOne_3 fu 1 (nI s) (lN ring) (lN w) (nI x) σ = some (lN (match t1 N s ring (nd w ring) k x with | some v => v | none => ring), σ) := by
    intro k
    induction k with
    | zero =>
      intro fu x hx hfu
      obtain ⟨fu, rfl⟩ : ∃ z, fu = z + 1 := ⟨fu - 1, by omega⟩
      show B_Net_withTwoForOne_3 (L_Net_withTwoForOne_3 fu) _ _ _ _ _ _ = _
      unfold B_Net_withTwoForOne_3
      rw [h.1, if_pos (nI_le (by omega) (by omega))]; rfl
    | succ k ih =>
      intro fu x hx hfu
      obtain ⟨fu, rfl⟩ : ∃ z, fu = z + 1 := ⟨fu - 1, by omega⟩
      have e := ih fu (x + 1) (by omega) (by omega)
      have hr : nd ring (2 ^ x) < 2 ^ n_n N := nd_lt hrg
      have hop : fitAll N s (nd ring (2 ^ x)) (nd w ring) (n_n N) < 2 ^ n_n N := fitAll_lt hf _
      have e2 := nt_firstTwo wf (s := s) hs hop h (n_n N) LF 0 (by omega) (by rw [LF_big]; omega)
      have hf2 : f2N N s (fitAll N s (nd ring (2 ^ x)) (nd w ring) (n_n N)) (n_n N) 0 < 2 ^ 64 := by
        have : ∀ k a, a + k = n_n N → f2N N s (fitAll N s (nd ring (2 ^ x)) (nd w ring) (n_n N)) k a < 2 ^ 64 := by
          intro k
          induction k with
          | zero => intro a _; exact Nat.two_pow_pos 64
          | succ k ih2 =>
            intro a hak
            show (if _ then _ else _) < 2 ^ 64
            split
            · rename_i hz
              have hb64 : bhA (fit N s a (fitAll N s (nd ring (2 ^ x)) (nd w ring) (n_n N))) a < 2 ^ 64 := and_lt (fit_lt (lt64 wf hop))
              obtain ⟨b, b1, b2⟩ := lo_pow _ hz.2
              rw [first_lo hb64 b1 b2]
              exact or_lt (pow_lt (by omega)) (pow_lt (bit_in hb64 b1))
            · exact ih2 (a + 1) (by omega)
        exact this (n_n N) 0 (by omega)
      show B_Net_withTwoForOne_3 (L_Net_withTwoForOne_3 fu) _ _ _ _ _ _ = _
      unfold B_Net_withTwoForOne_3 f_Net_firstTwo B_Net_firstTwo_0
      rw [h.1, if_neg (nI_ge (by omega) (by omega)), nt_isOf (lt64 wf hrg) (by omega), Option.bind_some]
      simp only [b2i_eq0, lt1_eq, lsh_1 (show x < 64 by omega), lN_nd (lt64 wf hrg), lN_nd (lt64 wf hw), nt_fittingAll h wf hs (lt64 wf hr) (lt64 wf hf), Option.bind_some, nI_1]
      rw [show L_Net_firstTwo_3 LF 1 (nI s) (lN (fitAll N s (nd ring (2 ^ x)) (nd w ring) (n_n N))) (0 : Int32) σ = _ from e2, Option.bind_some]
      simp only [lN_eq0 hf2, fb_orL]
      rw [show t1 N s ring (nd w ring) (k + 1) x = if ring.testBit x = true then (match t2 N s (nd w ring) (nd ring (2 ^ x)) (n_n N) 0 with | some v => some v | none => t1 N s ring (nd w ring) k (x + 1)) else t1 N s ring (nd w ring) k (x + 1) from rfl]
      by_cases hc : ring.testBit x = true
      · rw [if_pos hc, if_neg (by rw [hc]; decide), t2_f2 wf hf hr (n_n N) 0 (by omega)]
        by_cases h0 : f2N N s (fitAll N s (nd ring (2 ^ x)) (nd w ring) (n_n N)) (n_n N) 0 = 0
        · rw [if_pos h0, if_pos h0]; exact e
        · rw [if_neg h0, if_neg h0]
      · rw [if_neg hc, if_pos (Bool.eq_false_iff.mpr hc)]
        exact e
  exact lp (n_n N) LF 0 (by omega) (by rw [LF_big]; omega)
